/-! ===== the class: operations that run no year; printed by wip/gen/x ===== -/
def P_XT (l : List Int) (a : List (Int → Int)) : Prop := match l, a with
  | [n, m, p, q], [A, V, so, sz, wh, gr, md, du] => nP n p A ∧ tkP n A so sz ∧ nV m q V ∧ tkV m V wh gr md du
  | _, _ => False
theorem hFp_107 {PT : PTy} {ρ : Nat → Int} {α : Nat → Int → Int} (l : List AN) (a : List Nat) : hF PT ρ α (107, l, a) = PT 107 (l.map (den ρ)) (a.map α) := rfl
def P_tyX (l : List Int) (a : List (Int → Int)) : Prop := match l, a with
  | [r, t, b, p, q, P, Q], [A, V, A2, V2] => (¬ (0 ≤ t ∧ t ≤ 1 ∧ 0 ≤ b ∧ b ≤ 255) → r = -2 ∧ P = p ∧ Q = q ∧ A2 = A ∧ V2 = V) ∧ (0 ≤ t ∧ t ≤ 1 ∧ 0 ≤ b ∧ b ≤ 255 → t = 0 → p < 23 → r = p + 1 ∧ P = p + 1 ∧ Q = q ∧ A2 = updI A p b ∧ V2 = V) ∧ (0 ≤ t ∧ t ≤ 1 ∧ 0 ≤ b ∧ b ≤ 255 → t = 0 → 23 ≤ p → r = -4 ∧ P = p ∧ Q = q ∧ A2 = A ∧ V2 = V) ∧ (0 ≤ t ∧ t ≤ 1 ∧ 0 ≤ b ∧ b ≤ 255 → t = 1 → q < 49 → r = q + 1 ∧ P = p ∧ Q = q + 1 ∧ A2 = A ∧ V2 = updI V q b) ∧ (0 ≤ t ∧ t ≤ 1 ∧ 0 ≤ b ∧ b ≤ 255 → t = 1 → 49 ≤ q → r = -4 ∧ P = p ∧ Q = q ∧ A2 = A ∧ V2 = V)
  | _, _ => False
theorem hFp_108 {PT : PTy} {ρ : Nat → Int} {α : Nat → Int → Int} (l : List AN) (a : List Nat) : hF PT ρ α (108, l, a) = PT 108 (l.map (den ρ)) (a.map α) := rfl
def P_wiX (l : List Int) (a : List (Int → Int)) : Prop := match l, a with
  | [r, t, p, q, P, Q], [] => (t = 0 → r = p ∧ P = 0 ∧ Q = q) ∧ (t = 1 → r = q ∧ P = p ∧ Q = 0) ∧ (¬ t = 0 → ¬ t = 1 → r = -2 ∧ P = p ∧ Q = q)
  | _, _ => False
theorem hFp_109 {PT : PTy} {ρ : Nat → Int} {α : Nat → Int → Int} (l : List AN) (a : List Nat) : hF PT ρ α (109, l, a) = PT 109 (l.map (den ρ)) (a.map α) := rfl
def P_unX (l : List Int) (a : List (Int → Int)) : Prop := match l, a with
  | [r, t, p, q, P, Q], [] => (t = 0 → 0 < p → r = p - 1 ∧ P = p - 1 ∧ Q = q) ∧ (t = 0 → p = 0 → r = -3 ∧ P = p ∧ Q = q) ∧ (t = 1 → 0 < q → r = q - 1 ∧ P = p ∧ Q = q - 1) ∧ (t = 1 → q = 0 → r = -3 ∧ P = p ∧ Q = q) ∧ (¬ t = 0 → ¬ t = 1 → r = -2 ∧ P = p ∧ Q = q)
  | _, _ => False
theorem hFp_110 {PT : PTy} {ρ : Nat → Int} {α : Nat → Int → Int} (l : List AN) (a : List Nat) : hF PT ρ α (110, l, a) = PT 110 (l.map (den ρ)) (a.map α) := rfl
def P_faX (l : List Int) (a : List (Int → Int)) : Prop := match l, a with
  | [r, t, p, q], [A, V] => (t = 0 → ffP r p A) ∧ (t = 1 → ffV r q V) ∧ (¬ t = 0 → ¬ t = 1 → r = -2)
  | _, _ => False
theorem hFp_111 {PT : PTy} {ρ : Nat → Int} {α : Nat → Int → Int} (l : List AN) (a : List Nat) : hF PT ρ α (111, l, a) = PT 111 (l.map (den ρ)) (a.map α) := rfl
def P_peX (l : List Int) (a : List (Int → Int)) : Prop := match l, a with
  | [r, k, w, n], [so, sz] => (0 ≤ k → k < n → w = 0 → r = so k) ∧ (0 ≤ k → k < n → w = 1 → r = sz k) ∧ (¬ (0 ≤ k ∧ k < n ∧ 0 ≤ w ∧ w ≤ 1) → r = -2)
  | _, _ => False
theorem hFp_112 {PT : PTy} {ρ : Nat → Int} {α : Nat → Int → Int} (l : List AN) (a : List Nat) : hF PT ρ α (112, l, a) = PT 112 (l.map (den ρ)) (a.map α) := rfl
def P_prX (l : List Int) (a : List (Int → Int)) : Prop := match l, a with
  | [r, k, w, n], [wh, gr, md, du] => (0 ≤ k → k < n → w = 0 → r = wh k) ∧ (0 ≤ k → k < n → w = 1 → r = gr k) ∧ (0 ≤ k → k < n → w = 2 → r = md k) ∧ (0 ≤ k → k < n → w = 3 → r = du k) ∧ (¬ (0 ≤ k ∧ k < n ∧ 0 ≤ w ∧ w ≤ 3) → r = -2)
  | _, _ => False
theorem hFp_113 {PT : PTy} {ρ : Nat → Int} {α : Nat → Int → Int} (l : List AN) (a : List Nat) : hF PT ρ α (113, l, a) = PT 113 (l.map (den ρ)) (a.map α) := rfl
def P_kgA (l : List Int) (a : List (Int → Int)) : Prop := match l, a with
  | [r, d, k, n, N], [D, O, D2, O2] => (¬ (0 ≤ d ∧ d ≤ 23 ∧ 0 ≤ k ∧ k ≤ 9) → r = -2 ∧ N = n ∧ D2 = D ∧ O2 = O) ∧ (0 ≤ d ∧ d ≤ 23 ∧ 0 ≤ k ∧ k ≤ 9 → n < 8 → r = n + 1 ∧ N = n + 1 ∧ D2 = updI D n d ∧ O2 = updI O n k) ∧ (0 ≤ d ∧ d ≤ 23 ∧ 0 ≤ k ∧ k ≤ 9 → 8 ≤ n → r = -4 ∧ N = n ∧ D2 = D ∧ O2 = O)
  | _, _ => False
theorem hFp_114 {PT : PTy} {ρ : Nat → Int} {α : Nat → Int → Int} (l : List AN) (a : List Nat) : hF PT ρ α (114, l, a) = PT 114 (l.map (den ρ)) (a.map α) := rfl
def P_tlA (l : List Int) (a : List (Int → Int)) : Prop := match l, a with
  | [r, d, k, u, n, N], [D, O, U, D2, O2, U2] => (¬ (0 ≤ d ∧ d ≤ 23 ∧ 0 ≤ k ∧ k ≤ 7 ∧ 1 ≤ u ∧ u ≤ 9) → r = -2 ∧ N = n ∧ D2 = D ∧ O2 = O ∧ U2 = U) ∧ (0 ≤ d ∧ d ≤ 23 ∧ 0 ≤ k ∧ k ≤ 7 ∧ 1 ≤ u ∧ u ≤ 9 → n < 6 → r = n + 1 ∧ N = n + 1 ∧ D2 = updI D n d ∧ O2 = updI O n k ∧ U2 = updI U n u) ∧ (0 ≤ d ∧ d ≤ 23 ∧ 0 ≤ k ∧ k ≤ 7 ∧ 1 ≤ u ∧ u ≤ 9 → 6 ≤ n → r = -4 ∧ N = n ∧ D2 = D ∧ O2 = O ∧ U2 = U)
  | _, _ => False
theorem hFp_115 {PT : PTy} {ρ : Nat → Int} {α : Nat → Int → Int} (l : List AN) (a : List Nat) : hF PT ρ α (115, l, a) = PT 115 (l.map (den ρ)) (a.map α) := rfl
def P_seA (l : List Int) (a : List (Int → Int)) : Prop := match l, a with
  | [r, d, k, u, n, N], [D, O, U, D2, O2, U2] => (¬ (0 ≤ d ∧ d ≤ 23 ∧ 0 ≤ k ∧ k ≤ 7 ∧ 0 ≤ u ∧ u ≤ 99) → r = -2 ∧ N = n ∧ D2 = D ∧ O2 = O ∧ U2 = U) ∧ (0 ≤ d ∧ d ≤ 23 ∧ 0 ≤ k ∧ k ≤ 7 ∧ 0 ≤ u ∧ u ≤ 99 → n < 8 → r = n + 1 ∧ N = n + 1 ∧ D2 = updI D n d ∧ O2 = updI O n k ∧ U2 = updI U n u) ∧ (0 ≤ d ∧ d ≤ 23 ∧ 0 ≤ k ∧ k ≤ 7 ∧ 0 ≤ u ∧ u ≤ 99 → 8 ≤ n → r = -4 ∧ N = n ∧ D2 = D ∧ O2 = O ∧ U2 = U)
  | _, _ => False
theorem hFp_116 {PT : PTy} {ρ : Nat → Int} {α : Nat → Int → Int} (l : List AN) (a : List Nat) : hF PT ρ α (116, l, a) = PT 116 (l.map (den ρ)) (a.map α) := rfl
def P_baA (l : List Int) (a : List (Int → Int)) : Prop := match l, a with
  | [r, w, a, b, c, A, B, C], [] => (w = 0 → 0 < a → r = a - 1 ∧ A = a - 1 ∧ B = b ∧ C = c) ∧ (w = 1 → 0 < b → r = b - 1 ∧ A = a ∧ B = b - 1 ∧ C = c) ∧ (w = 2 → 0 < c → r = c - 1 ∧ A = a ∧ B = b ∧ C = c - 1) ∧ (w = 0 → a = 0 → r = -3 ∧ A = a ∧ B = b ∧ C = c) ∧ (w = 1 → b = 0 → r = -3 ∧ A = a ∧ B = b ∧ C = c) ∧ (w = 2 → c = 0 → r = -3 ∧ A = a ∧ B = b ∧ C = c) ∧ (¬ w = 0 → ¬ w = 1 → ¬ w = 2 → r = -2 ∧ A = a ∧ B = b ∧ C = c)
  | _, _ => False
theorem hFp_117 {PT : PTy} {ρ : Nat → Int} {α : Nat → Int → Int} (l : List AN) (a : List Nat) : hF PT ρ α (117, l, a) = PT 117 (l.map (den ρ)) (a.map α) := rfl
def P_foA (l : List Int) (a : List (Int → Int)) : Prop := match l, a with
  | [r, n, N], [] => r = n ∧ N = 0
  | _, _ => False
theorem hFp_118 {PT : PTy} {ρ : Nat → Int} {α : Nat → Int → Int} (l : List AN) (a : List Nat) : hF PT ρ α (118, l, a) = PT 118 (l.map (den ρ)) (a.map α) := rfl
def HP6 (PT : PTy) : Prop := HP5 PT ∧ (PT 107 = P_XT ∧ PT 108 = P_tyX ∧ PT 109 = P_wiX ∧ PT 110 = P_unX ∧ PT 111 = P_faX ∧ PT 112 = P_peX ∧ PT 113 = P_prX ∧ PT 114 = P_kgA ∧ PT 115 = P_tlA ∧ PT 116 = P_seA ∧ PT 117 = P_baA ∧ PT 118 = P_foA ∧ True)
def c_xo_type : XC := (43, 4, (bT ++ [((-2147483648), 2147483647), ((-2147483648), 2147483647)]), [.inr (.inl 0), .inl (some 14, 0), .inl (some 15, 0)], (gX 999), [(107, [(some 2, 0), (some 3, 0), (some 0, 0), (some 1, 0)], [2, 4, 7, 8, 10, 11, 12, 13])], [((bT ++ [((-2147483648), 2147483647), ((-2147483648), 2147483647), ((-4), 49), (0, 23), (0, 49), (0, 8), (0, 10)]), some (.inl (some 16, 0)), (hst (gX 999) [(1, .inr (.inr (.inr (3, [.inr (.inl 2), .inl (none, 23), .inl (none, 0), .inl (some 17, 0)])))), (3, .inr (.inr (.inr (3, [.inr (.inl 4), .inl (none, 49), .inl (none, 1), .inl (some 18, 0)])))), (6, .inr (.inr (.inr (1, [.inr (.inl 7), .inr (.inl 8), .inl (some 19, 0)])))), (9, .inr (.inr (.inr (5, [.inr (.inl 10), .inr (.inl 11), .inr (.inl 12), .inr (.inl 13), .inl (some 20, 0)]))))]), (ansT 58 [(2, 58), (4, 59), (7, 60), (8, 61), (10, 62), (11, 63), (12, 64), (13, 65)]), 66, [(108, [(some 16, 0), (some 14, 0), (some 15, 0), (some 0, 0), (some 1, 0), (some 17, 0), (some 18, 0)], [2, 4, 58, 59]), (107, [(some 19, 0), (some 20, 0), (some 17, 0), (some 18, 0)], [58, 59, 60, 61, 62, 63, 64, 65])])])
def h_xo_type : List XH := []
def w_xo_type_0_0 : VC := ((bT ++ [((-2147483648), (-1)), ((-2147483648), 2147483647)]), [(0, [(none, 0), (none, 0)], []), (2, [(some 14, 0), (none, 0)], []), (107, [(some 2, 0), (some 3, 0), (some 0, 0), (some 1, 0)], [2, 4, 7, 8, 10, 11, 12, 13])], (108, [(none, (-2)), (some 14, 0), (some 15, 0), (some 0, 0), (some 1, 0), (some 0, 0), (some 1, 0)], [2, 4, 2, 4]))
theorem pe107_6 {PT : PTy} (hp : HP6 PT) : PT 107 = P_XT := hp.2.1
theorem pe108_6 {PT : PTy} (hp : HP6 PT) : PT 108 = P_tyX := hp.2.2.1
set_option maxRecDepth 20000 in
theorem v_xo_type_0_0 {PT : PTy} (hp : HP6 PT) : vcOk PT w_xo_type_0_0 := vc_iv [(0, 0, 23), (1, 0, 49), (2, 0, 8), (3, 0, 10), (14, (-2147483648), (-1)), (15, (-2147483648), 2147483647)] [2, 4, 7, 8, 10, 11, 12, 13] (by decide +kernel) (fun ρ α => by
  intro r0 g0 b0 r1 g1 b1 r2 g2 b2 r3 g3 b3 r14 g14 b14 r15 g15 b15 a2 h2 a4 h4 a7 h7 a8 h8 a10 h10 a11 h11 a12 h12 a13 h13 f0 f1 f2 tt
  clear f0 f1
  have e107 : PT 107 = P_XT := pe107_6 hp
  have e108 : PT 108 = P_tyX := pe108_6 hp
  simp only [hFp_107, hFp_108, e107, e108, P_XT, P_tyX, den_s, den_c, Int.add_zero, List.map_cons, List.map_nil, g0.eq, g1.eq, g2.eq, g3.eq, g14.eq, g15.eq, h2, h4, h7, h8, h10, h11, h12, h13] at f2 ⊢
  first
    | exact ⟨MISSING, MISSING, MISSING, MISSING⟩
    | exact f2
    | ((repeat' (first | apply And.intro | intro h)) <;> first | omega | rfl | trivial | (exfalso; omega)))
def w_xo_type_0_1 : VC := ((bT ++ [(2, 2147483647), ((-2147483648), 2147483647)]), [(0, [(none, 0), (none, 0)], []), (2, [(none, 1), (some 14, 0)], []), (3, [(some 14, 0), (none, 0)], []), (107, [(some 2, 0), (some 3, 0), (some 0, 0), (some 1, 0)], [2, 4, 7, 8, 10, 11, 12, 13])], (108, [(none, (-2)), (some 14, 0), (some 15, 0), (some 0, 0), (some 1, 0), (some 0, 0), (some 1, 0)], [2, 4, 2, 4]))
set_option maxRecDepth 20000 in
theorem v_xo_type_0_1 {PT : PTy} (hp : HP6 PT) : vcOk PT w_xo_type_0_1 := vc_iv [(0, 0, 23), (1, 0, 49), (2, 0, 8), (3, 0, 10), (14, 2, 2147483647), (15, (-2147483648), 2147483647)] [2, 4, 7, 8, 10, 11, 12, 13] (by decide +kernel) (fun ρ α => by
  intro r0 g0 b0 r1 g1 b1 r2 g2 b2 r3 g3 b3 r14 g14 b14 r15 g15 b15 a2 h2 a4 h4 a7 h7 a8 h8 a10 h10 a11 h11 a12 h12 a13 h13 f0 f1 f2 f3 tt
  clear f0 f1 f2
  have e107 : PT 107 = P_XT := pe107_6 hp
  have e108 : PT 108 = P_tyX := pe108_6 hp
  simp only [hFp_107, hFp_108, e107, e108, P_XT, P_tyX, den_s, den_c, Int.add_zero, List.map_cons, List.map_nil, g0.eq, g1.eq, g2.eq, g3.eq, g14.eq, g15.eq, h2, h4, h7, h8, h10, h11, h12, h13] at f3 ⊢
  first
    | exact ⟨MISSING, MISSING, MISSING, MISSING⟩
    | exact f3
    | ((repeat' (first | apply And.intro | intro h)) <;> first | omega | rfl | trivial | (exfalso; omega)))
def w_xo_type_0_2 : VC := ((bT ++ [(0, 1), ((-2147483648), (-1))]), [(0, [(none, 0), (none, 0)], []), (2, [(some 15, 0), (none, 0)], []), (1, [(none, 1), (none, 0)], []), (3, [(none, 1), (some 14, 0)], []), (3, [(some 14, 0), (none, 0)], []), (107, [(some 2, 0), (some 3, 0), (some 0, 0), (some 1, 0)], [2, 4, 7, 8, 10, 11, 12, 13])], (108, [(none, (-2)), (some 14, 0), (some 15, 0), (some 0, 0), (some 1, 0), (some 0, 0), (some 1, 0)], [2, 4, 2, 4]))
set_option maxRecDepth 20000 in
theorem v_xo_type_0_2 {PT : PTy} (hp : HP6 PT) : vcOk PT w_xo_type_0_2 := vc_iv [(0, 0, 23), (1, 0, 49), (2, 0, 8), (3, 0, 10), (14, 0, 1), (15, (-2147483648), (-1))] [2, 4, 7, 8, 10, 11, 12, 13] (by decide +kernel) (fun ρ α => by
  intro r0 g0 b0 r1 g1 b1 r2 g2 b2 r3 g3 b3 r14 g14 b14 r15 g15 b15 a2 h2 a4 h4 a7 h7 a8 h8 a10 h10 a11 h11 a12 h12 a13 h13 f0 f1 f2 f3 f4 f5 tt
  clear f0 f1 f2 f3 f4
  have e107 : PT 107 = P_XT := pe107_6 hp
  have e108 : PT 108 = P_tyX := pe108_6 hp
  simp only [hFp_107, hFp_108, e107, e108, P_XT, P_tyX, den_s, den_c, Int.add_zero, List.map_cons, List.map_nil, g0.eq, g1.eq, g2.eq, g3.eq, g14.eq, g15.eq, h2, h4, h7, h8, h10, h11, h12, h13] at f5 ⊢
  first
    | exact ⟨MISSING, MISSING, MISSING, MISSING⟩
    | exact f5
    | ((repeat' (first | apply And.intro | intro h)) <;> first | omega | rfl | trivial | (exfalso; omega)))
def w_xo_type_0_3 : VC := ((bT ++ [(0, 1), (256, 2147483647)]), [(0, [(none, 0), (none, 0)], []), (2, [(none, 255), (some 15, 0)], []), (3, [(some 15, 0), (none, 0)], []), (1, [(none, 1), (none, 0)], []), (3, [(none, 1), (some 14, 0)], []), (3, [(some 14, 0), (none, 0)], []), (107, [(some 2, 0), (some 3, 0), (some 0, 0), (some 1, 0)], [2, 4, 7, 8, 10, 11, 12, 13])], (108, [(none, (-2)), (some 14, 0), (some 15, 0), (some 0, 0), (some 1, 0), (some 0, 0), (some 1, 0)], [2, 4, 2, 4]))
set_option maxRecDepth 20000 in
theorem v_xo_type_0_3 {PT : PTy} (hp : HP6 PT) : vcOk PT w_xo_type_0_3 := vc_iv [(0, 0, 23), (1, 0, 49), (2, 0, 8), (3, 0, 10), (14, 0, 1), (15, 256, 2147483647)] [2, 4, 7, 8, 10, 11, 12, 13] (by decide +kernel) (fun ρ α => by
  intro r0 g0 b0 r1 g1 b1 r2 g2 b2 r3 g3 b3 r14 g14 b14 r15 g15 b15 a2 h2 a4 h4 a7 h7 a8 h8 a10 h10 a11 h11 a12 h12 a13 h13 f0 f1 f2 f3 f4 f5 f6 tt
  clear f0 f1 f2 f3 f4 f5
  have e107 : PT 107 = P_XT := pe107_6 hp
  have e108 : PT 108 = P_tyX := pe108_6 hp
  simp only [hFp_107, hFp_108, e107, e108, P_XT, P_tyX, den_s, den_c, Int.add_zero, List.map_cons, List.map_nil, g0.eq, g1.eq, g2.eq, g3.eq, g14.eq, g15.eq, h2, h4, h7, h8, h10, h11, h12, h13] at f6 ⊢
  first
    | exact ⟨MISSING, MISSING, MISSING, MISSING⟩
    | exact f6
    | ((repeat' (first | apply And.intro | intro h)) <;> first | omega | rfl | trivial | (exfalso; omega)))
def w_xo_type_0_4 : VC := (([(0, 23), (0, 48), (0, 8), (0, 10), (0, 8), (0, 6), (0, 6), (0, 8), (0, 9), (0, 49), (0, 49), ((-2147483648), 2147483647), ((-2147483648), 2147483647), (0, 5), (1, 1), (0, 255), (0, 8), (0, 10)]), [(1, [(some 14, 0), (none, 0)], []), (68, [(some 16, 0), (some 0, 0)], [2]), (70, [(some 16, 0)], [2, 59, 60]), (69, [(some 17, 0), (some 1, 1)], [58]), (71, [(some 17, 0)], [58, 61, 62, 63, 64]), (1, [(none, 1), (none, 0)], []), (21, [(some 1, 0), (some 15, 0)], [58, 4]), (2, [(some 1, 0), (none, 49)], []), (1, [(some 14, 0), (none, 0)], []), (1, [(none, 1), (none, 0)], []), (3, [(none, 255), (some 15, 0)], []), (3, [(some 15, 0), (none, 0)], []), (1, [(none, 1), (none, 0)], []), (3, [(none, 1), (some 14, 0)], []), (3, [(some 14, 0), (none, 0)], []), (107, [(some 2, 0), (some 3, 0), (some 0, 0), (some 1, 0)], [2, 4, 7, 8, 10, 11, 12, 13])], (108, [(some 1, 1), (some 14, 0), (some 15, 0), (some 0, 0), (some 1, 0), (some 0, 0), (some 1, 1)], [2, 4, 2, 58]))
theorem pe68_6 {PT : PTy} (hp : HP6 PT) : PT 68 = P_nP := hp.1.1.1.1.1.2.2.2.2.2.1
theorem pe69_6 {PT : PTy} (hp : HP6 PT) : PT 69 = P_nV := hp.1.1.1.1.1.2.2.2.2.2.2.1
theorem pe70_6 {PT : PTy} (hp : HP6 PT) : PT 70 = P_tkP := hp.1.1.1.1.1.2.2.2.2.2.2.2.1
theorem pe71_6 {PT : PTy} (hp : HP6 PT) : PT 71 = P_tkV := hp.1.1.1.1.1.2.2.2.2.2.2.2.2.1
set_option maxRecDepth 20000 in
theorem v_xo_type_0_4 {PT : PTy} (hp : HP6 PT) : vcOk PT w_xo_type_0_4 := vc_iv [(0, 0, 23), (1, 0, 48), (2, 0, 8), (3, 0, 10), (14, 1, 1), (15, 0, 255), (16, 0, 8), (17, 0, 10)] [2, 4, 7, 8, 10, 11, 12, 13, 58, 59, 60, 61, 62, 63, 64] (by decide +kernel) (fun ρ α => by
  intro r0 g0 b0 r1 g1 b1 r2 g2 b2 r3 g3 b3 r14 g14 b14 r15 g15 b15 r16 g16 b16 r17 g17 b17 a2 h2 a4 h4 a7 h7 a8 h8 a10 h10 a11 h11 a12 h12 a13 h13 a58 h58 a59 h59 a60 h60 a61 h61 a62 h62 a63 h63 a64 h64 f0 f1 f2 f3 f4 f5 f6 f7 f8 f9 f10 f11 f12 f13 f14 f15 tt
  clear f0 f5 f7 f8 f9 f10 f11 f12 f13 f14
  have e68 : PT 68 = P_nP := pe68_6 hp
  have e69 : PT 69 = P_nV := pe69_6 hp
  have e70 : PT 70 = P_tkP := pe70_6 hp
  have e71 : PT 71 = P_tkV := pe71_6 hp
  have e107 : PT 107 = P_XT := pe107_6 hp
  have e108 : PT 108 = P_tyX := pe108_6 hp
  simp only [hF21, hFp_68, hFp_69, hFp_70, hFp_71, hFp_107, hFp_108, e68, e69, e70, e71, e107, e108, P_nP, P_nV, P_tkP, P_tkV, P_XT, P_tyX, den_s, den_c, Int.add_zero, List.map_cons, List.map_nil, g0.eq, g1.eq, g2.eq, g3.eq, g14.eq, g15.eq, g16.eq, g17.eq, h2, h4, h7, h8, h10, h11, h12, h13, h58, h59, h60, h61, h62, h63, h64] at f1 f2 f3 f4 f6 f15 ⊢
  subst f6
  first
    | exact ⟨f1, f2, f3, f4⟩
    | exact f15
    | ((repeat' (first | apply And.intro | intro h)) <;> first | omega | rfl | trivial | (exfalso; omega)))
def w_xo_type_0_5 : VC := (([(0, 23), (0, 48), (0, 8), (0, 10), (0, 8), (0, 6), (0, 6), (0, 8), (0, 9), (0, 49), (0, 49), ((-2147483648), 2147483647), ((-2147483648), 2147483647), (0, 5), (1, 1), (0, 255), (0, 8), (0, 10)]), [(1, [(some 14, 0), (none, 0)], []), (68, [(some 16, 0), (some 0, 0)], [2]), (70, [(some 16, 0)], [2, 59, 60]), (69, [(some 17, 0), (some 1, 1)], [58]), (71, [(some 17, 0)], [58, 61, 62, 63, 64]), (1, [(none, 1), (none, 0)], []), (21, [(some 1, 0), (some 15, 0)], [58, 4]), (2, [(some 1, 0), (none, 49)], []), (1, [(some 14, 0), (none, 0)], []), (1, [(none, 1), (none, 0)], []), (3, [(none, 255), (some 15, 0)], []), (3, [(some 15, 0), (none, 0)], []), (1, [(none, 1), (none, 0)], []), (3, [(none, 1), (some 14, 0)], []), (3, [(some 14, 0), (none, 0)], []), (107, [(some 2, 0), (some 3, 0), (some 0, 0), (some 1, 0)], [2, 4, 7, 8, 10, 11, 12, 13])], (107, [(some 16, 0), (some 17, 0), (some 0, 0), (some 1, 1)], [2, 58, 59, 60, 61, 62, 63, 64]))
set_option maxRecDepth 20000 in
theorem v_xo_type_0_5 {PT : PTy} (hp : HP6 PT) : vcOk PT w_xo_type_0_5 := vc_iv [(0, 0, 23), (1, 0, 48), (2, 0, 8), (3, 0, 10), (15, 0, 255), (16, 0, 8), (17, 0, 10)] [2, 4, 7, 8, 10, 11, 12, 13, 58, 59, 60, 61, 62, 63, 64] (by decide +kernel) (fun ρ α => by
  intro r0 g0 b0 r1 g1 b1 r2 g2 b2 r3 g3 b3 r15 g15 b15 r16 g16 b16 r17 g17 b17 a2 h2 a4 h4 a7 h7 a8 h8 a10 h10 a11 h11 a12 h12 a13 h13 a58 h58 a59 h59 a60 h60 a61 h61 a62 h62 a63 h63 a64 h64 f0 f1 f2 f3 f4 f5 f6 f7 f8 f9 f10 f11 f12 f13 f14 f15 tt
  clear f0 f5 f7 f8 f9 f10 f11 f12 f13 f14
  have e68 : PT 68 = P_nP := pe68_6 hp
  have e69 : PT 69 = P_nV := pe69_6 hp
  have e70 : PT 70 = P_tkP := pe70_6 hp
  have e71 : PT 71 = P_tkV := pe71_6 hp
  have e107 : PT 107 = P_XT := pe107_6 hp
  simp only [hF21, hFp_68, hFp_69, hFp_70, hFp_71, hFp_107, e68, e69, e70, e71, e107, P_nP, P_nV, P_tkP, P_tkV, P_XT, den_s, den_c, Int.add_zero, List.map_cons, List.map_nil, g0.eq, g1.eq, g2.eq, g3.eq, g15.eq, g16.eq, g17.eq, h2, h4, h7, h8, h10, h11, h12, h13, h58, h59, h60, h61, h62, h63, h64] at f1 f2 f3 f4 f6 f15 ⊢
  subst f6
  first
    | exact ⟨f1, f2, f3, f4⟩
    | exact f15
    | ((repeat' (first | apply And.intro | intro h)) <;> first | omega | rfl | trivial | (exfalso; omega)))
def w_xo_type_0_6 : VC := (([(0, 23), (49, 49), (0, 8), (0, 10), (0, 8), (0, 6), (0, 6), (0, 8), (0, 9), (0, 49), (0, 49), ((-2147483648), 2147483647), ((-2147483648), 2147483647), (0, 5), (1, 1), (0, 255)]), [(0, [(none, 0), (none, 0)], []), (3, [(some 1, 0), (none, 49)], []), (1, [(some 14, 0), (none, 0)], []), (1, [(none, 1), (none, 0)], []), (3, [(none, 255), (some 15, 0)], []), (3, [(some 15, 0), (none, 0)], []), (1, [(none, 1), (none, 0)], []), (3, [(none, 1), (some 14, 0)], []), (3, [(some 14, 0), (none, 0)], []), (107, [(some 2, 0), (some 3, 0), (some 0, 0), (some 1, 0)], [2, 4, 7, 8, 10, 11, 12, 13])], (108, [(none, (-4)), (some 14, 0), (some 15, 0), (some 0, 0), (some 1, 0), (some 0, 0), (some 1, 0)], [2, 4, 2, 4]))
set_option maxRecDepth 20000 in
theorem v_xo_type_0_6 {PT : PTy} (hp : HP6 PT) : vcOk PT w_xo_type_0_6 := vc_iv [(0, 0, 23), (1, 49, 49), (2, 0, 8), (3, 0, 10), (14, 1, 1), (15, 0, 255)] [2, 4, 7, 8, 10, 11, 12, 13] (by decide +kernel) (fun ρ α => by
  intro r0 g0 b0 r1 g1 b1 r2 g2 b2 r3 g3 b3 r14 g14 b14 r15 g15 b15 a2 h2 a4 h4 a7 h7 a8 h8 a10 h10 a11 h11 a12 h12 a13 h13 f0 f1 f2 f3 f4 f5 f6 f7 f8 f9 tt
  clear f0 f1 f2 f3 f4 f5 f6 f7 f8
  have e107 : PT 107 = P_XT := pe107_6 hp
  have e108 : PT 108 = P_tyX := pe108_6 hp
  simp only [hFp_107, hFp_108, e107, e108, P_XT, P_tyX, den_s, den_c, Int.add_zero, List.map_cons, List.map_nil, g0.eq, g1.eq, g2.eq, g3.eq, g14.eq, g15.eq, h2, h4, h7, h8, h10, h11, h12, h13] at f9 ⊢
  first
    | exact ⟨MISSING, MISSING, MISSING, MISSING⟩
    | exact f9
    | ((repeat' (first | apply And.intro | intro h)) <;> first | omega | rfl | trivial | (exfalso; omega)))
def w_xo_type_0_7 : VC := (([(0, 22), (0, 49), (0, 8), (0, 10), (0, 8), (0, 6), (0, 6), (0, 8), (0, 9), (0, 49), (0, 49), ((-2147483648), 2147483647), ((-2147483648), 2147483647), (0, 5), (0, 0), (0, 255), (0, 8), (0, 10)]), [(0, [(some 14, 0), (none, 0)], []), (68, [(some 16, 0), (some 0, 1)], [58]), (70, [(some 16, 0)], [58, 59, 60]), (69, [(some 17, 0), (some 1, 0)], [4]), (71, [(some 17, 0)], [4, 61, 62, 63, 64]), (1, [(none, 1), (none, 0)], []), (21, [(some 0, 0), (some 15, 0)], [58, 2]), (2, [(some 0, 0), (none, 23)], []), (0, [(some 14, 0), (none, 0)], []), (1, [(none, 1), (none, 0)], []), (3, [(none, 255), (some 15, 0)], []), (3, [(some 15, 0), (none, 0)], []), (1, [(none, 1), (none, 0)], []), (3, [(none, 1), (some 14, 0)], []), (3, [(some 14, 0), (none, 0)], []), (107, [(some 2, 0), (some 3, 0), (some 0, 0), (some 1, 0)], [2, 4, 7, 8, 10, 11, 12, 13])], (108, [(some 0, 1), (some 14, 0), (some 15, 0), (some 0, 0), (some 1, 0), (some 0, 1), (some 1, 0)], [2, 4, 58, 4]))
set_option maxRecDepth 20000 in
theorem v_xo_type_0_7 {PT : PTy} (hp : HP6 PT) : vcOk PT w_xo_type_0_7 := vc_iv [(0, 0, 22), (1, 0, 49), (2, 0, 8), (3, 0, 10), (14, 0, 0), (15, 0, 255), (16, 0, 8), (17, 0, 10)] [2, 4, 7, 8, 10, 11, 12, 13, 58, 59, 60, 61, 62, 63, 64] (by decide +kernel) (fun ρ α => by
  intro r0 g0 b0 r1 g1 b1 r2 g2 b2 r3 g3 b3 r14 g14 b14 r15 g15 b15 r16 g16 b16 r17 g17 b17 a2 h2 a4 h4 a7 h7 a8 h8 a10 h10 a11 h11 a12 h12 a13 h13 a58 h58 a59 h59 a60 h60 a61 h61 a62 h62 a63 h63 a64 h64 f0 f1 f2 f3 f4 f5 f6 f7 f8 f9 f10 f11 f12 f13 f14 f15 tt
  clear f5 f7 f8 f9 f10 f11 f12 f13 f14
  have e68 : PT 68 = P_nP := pe68_6 hp
  have e69 : PT 69 = P_nV := pe69_6 hp
  have e70 : PT 70 = P_tkP := pe70_6 hp
  have e71 : PT 71 = P_tkV := pe71_6 hp
  have e107 : PT 107 = P_XT := pe107_6 hp
  have e108 : PT 108 = P_tyX := pe108_6 hp
  simp only [hF0, hF21, hFp_68, hFp_69, hFp_70, hFp_71, hFp_107, hFp_108, e68, e69, e70, e71, e107, e108, P_nP, P_nV, P_tkP, P_tkV, P_XT, P_tyX, den_s, den_c, Int.add_zero, List.map_cons, List.map_nil, g0.eq, g1.eq, g2.eq, g3.eq, g14.eq, g15.eq, g16.eq, g17.eq, h2, h4, h7, h8, h10, h11, h12, h13, h58, h59, h60, h61, h62, h63, h64] at f0 f1 f2 f3 f4 f6 f15 ⊢
  subst f6
  first
    | exact ⟨f1, f2, f3, f4⟩
    | exact f15
    | ((repeat' (first | apply And.intro | intro h)) <;> first | omega | rfl | trivial | (exfalso; omega)))
def w_xo_type_0_8 : VC := (([(0, 22), (0, 49), (0, 8), (0, 10), (0, 8), (0, 6), (0, 6), (0, 8), (0, 9), (0, 49), (0, 49), ((-2147483648), 2147483647), ((-2147483648), 2147483647), (0, 5), (0, 0), (0, 255), (0, 8), (0, 10)]), [(0, [(some 14, 0), (none, 0)], []), (68, [(some 16, 0), (some 0, 1)], [58]), (70, [(some 16, 0)], [58, 59, 60]), (69, [(some 17, 0), (some 1, 0)], [4]), (71, [(some 17, 0)], [4, 61, 62, 63, 64]), (1, [(none, 1), (none, 0)], []), (21, [(some 0, 0), (some 15, 0)], [58, 2]), (2, [(some 0, 0), (none, 23)], []), (0, [(some 14, 0), (none, 0)], []), (1, [(none, 1), (none, 0)], []), (3, [(none, 255), (some 15, 0)], []), (3, [(some 15, 0), (none, 0)], []), (1, [(none, 1), (none, 0)], []), (3, [(none, 1), (some 14, 0)], []), (3, [(some 14, 0), (none, 0)], []), (107, [(some 2, 0), (some 3, 0), (some 0, 0), (some 1, 0)], [2, 4, 7, 8, 10, 11, 12, 13])], (107, [(some 16, 0), (some 17, 0), (some 0, 1), (some 1, 0)], [58, 4, 59, 60, 61, 62, 63, 64]))
set_option maxRecDepth 20000 in
theorem v_xo_type_0_8 {PT : PTy} (hp : HP6 PT) : vcOk PT w_xo_type_0_8 := vc_iv [(0, 0, 22), (1, 0, 49), (2, 0, 8), (3, 0, 10), (14, 0, 0), (15, 0, 255), (16, 0, 8), (17, 0, 10)] [2, 4, 7, 8, 10, 11, 12, 13, 58, 59, 60, 61, 62, 63, 64] (by decide +kernel) (fun ρ α => by
  intro r0 g0 b0 r1 g1 b1 r2 g2 b2 r3 g3 b3 r14 g14 b14 r15 g15 b15 r16 g16 b16 r17 g17 b17 a2 h2 a4 h4 a7 h7 a8 h8 a10 h10 a11 h11 a12 h12 a13 h13 a58 h58 a59 h59 a60 h60 a61 h61 a62 h62 a63 h63 a64 h64 f0 f1 f2 f3 f4 f5 f6 f7 f8 f9 f10 f11 f12 f13 f14 f15 tt
  clear f5 f7 f8 f9 f10 f11 f12 f13 f14
  have e68 : PT 68 = P_nP := pe68_6 hp
  have e69 : PT 69 = P_nV := pe69_6 hp
  have e70 : PT 70 = P_tkP := pe70_6 hp
  have e71 : PT 71 = P_tkV := pe71_6 hp
  have e107 : PT 107 = P_XT := pe107_6 hp
  simp only [hF0, hF21, hFp_68, hFp_69, hFp_70, hFp_71, hFp_107, e68, e69, e70, e71, e107, P_nP, P_nV, P_tkP, P_tkV, P_XT, den_s, den_c, Int.add_zero, List.map_cons, List.map_nil, g0.eq, g1.eq, g2.eq, g3.eq, g14.eq, g15.eq, g16.eq, g17.eq, h2, h4, h7, h8, h10, h11, h12, h13, h58, h59, h60, h61, h62, h63, h64] at f0 f1 f2 f3 f4 f6 f15 ⊢
  subst f6
  first
    | exact ⟨f1, f2, f3, f4⟩
    | exact f15
    | ((repeat' (first | apply And.intro | intro h)) <;> first | omega | rfl | trivial | (exfalso; omega)))
def w_xo_type_0_9 : VC := (([(23, 23), (0, 49), (0, 8), (0, 10), (0, 8), (0, 6), (0, 6), (0, 8), (0, 9), (0, 49), (0, 49), ((-2147483648), 2147483647), ((-2147483648), 2147483647), (0, 5), (0, 0), (0, 255)]), [(0, [(none, 0), (none, 0)], []), (3, [(some 0, 0), (none, 23)], []), (0, [(some 14, 0), (none, 0)], []), (1, [(none, 1), (none, 0)], []), (3, [(none, 255), (some 15, 0)], []), (3, [(some 15, 0), (none, 0)], []), (1, [(none, 1), (none, 0)], []), (3, [(none, 1), (some 14, 0)], []), (3, [(some 14, 0), (none, 0)], []), (107, [(some 2, 0), (some 3, 0), (some 0, 0), (some 1, 0)], [2, 4, 7, 8, 10, 11, 12, 13])], (108, [(none, (-4)), (some 14, 0), (some 15, 0), (some 0, 0), (some 1, 0), (some 0, 0), (some 1, 0)], [2, 4, 2, 4]))
set_option maxRecDepth 20000 in
theorem v_xo_type_0_9 {PT : PTy} (hp : HP6 PT) : vcOk PT w_xo_type_0_9 := vc_iv [(0, 23, 23), (1, 0, 49), (2, 0, 8), (3, 0, 10), (14, 0, 0), (15, 0, 255)] [2, 4, 7, 8, 10, 11, 12, 13] (by decide +kernel) (fun ρ α => by
  intro r0 g0 b0 r1 g1 b1 r2 g2 b2 r3 g3 b3 r14 g14 b14 r15 g15 b15 a2 h2 a4 h4 a7 h7 a8 h8 a10 h10 a11 h11 a12 h12 a13 h13 f0 f1 f2 f3 f4 f5 f6 f7 f8 f9 tt
  clear f0 f1 f3 f4 f5 f6 f7 f8
  have e107 : PT 107 = P_XT := pe107_6 hp
  have e108 : PT 108 = P_tyX := pe108_6 hp
  simp only [hF0, hFp_107, hFp_108, e107, e108, P_XT, P_tyX, den_s, den_c, Int.add_zero, List.map_cons, List.map_nil, g0.eq, g1.eq, g2.eq, g3.eq, g14.eq, g15.eq, h2, h4, h7, h8, h10, h11, h12, h13] at f2 f9 ⊢
  first
    | exact ⟨MISSING, MISSING, MISSING, MISSING⟩
    | exact f9
    | ((repeat' (first | apply And.intro | intro h)) <;> first | omega | rfl | trivial | (exfalso; omega)))
set_option maxRecDepth 1000000 in
theorem k_xo_type {PT : PTy} (hp : HP6 PT) : wfX c_xo_type = true ∧ xcOk PT c_xo_type := xctr (xl (k_takeTexts hp.1.1.1.1.1) (xl0)) c_xo_type 91 mX6_type rfl h_xo_type (by decide +kernel) (by decide +kernel) (by decide) (vcs_by [w_xo_type_0_0, w_xo_type_0_1, w_xo_type_0_2, w_xo_type_0_3, w_xo_type_0_4, w_xo_type_0_5, w_xo_type_0_6, w_xo_type_0_7, w_xo_type_0_8, w_xo_type_0_9] (by decide +kernel) (vc (v_xo_type_0_0 hp) (vc (v_xo_type_0_1 hp) (vc (v_xo_type_0_2 hp) (vc (v_xo_type_0_3 hp) (vc (v_xo_type_0_4 hp) (vc (v_xo_type_0_5 hp) (vc (v_xo_type_0_6 hp) (vc (v_xo_type_0_7 hp) (vc (v_xo_type_0_8 hp) (vc (v_xo_type_0_9 hp) vn))))))))))) fmn
def c_xo_wipe : XC := (44, 4, (bT ++ [((-2147483648), 2147483647)]), [.inr (.inl 0), .inl (some 14, 0)], (gX 999), [(107, [(some 2, 0), (some 3, 0), (some 0, 0), (some 1, 0)], [2, 4, 7, 8, 10, 11, 12, 13])], [((bT ++ [((-2147483648), 2147483647), ((-2), 49), (0, 23), (0, 49), (0, 8), (0, 10)]), some (.inl (some 15, 0)), (hst (gX 999) [(1, .inr (.inr (.inr (3, [.inr (.inl 2), .inl (none, 23), .inl (none, 0), .inl (some 16, 0)])))), (3, .inr (.inr (.inr (3, [.inr (.inl 4), .inl (none, 49), .inl (none, 1), .inl (some 17, 0)])))), (6, .inr (.inr (.inr (1, [.inr (.inl 7), .inr (.inl 8), .inl (some 18, 0)])))), (9, .inr (.inr (.inr (5, [.inr (.inl 10), .inr (.inl 11), .inr (.inl 12), .inr (.inl 13), .inl (some 19, 0)]))))]), (ansT 58 [(7, 58), (8, 59), (10, 60), (11, 61), (12, 62), (13, 63)]), 64, [(109, [(some 15, 0), (some 14, 0), (some 0, 0), (some 1, 0), (some 16, 0), (some 17, 0)], []), (107, [(some 18, 0), (some 19, 0), (some 16, 0), (some 17, 0)], [2, 4, 58, 59, 60, 61, 62, 63])])])
def h_xo_wipe : List XH := []
def w_xo_wipe_0_0 : VC := ((bT ++ [((-2147483648), (-1))]), [(0, [(none, 0), (none, 0)], []), (2, [(some 14, 0), (none, 0)], []), (107, [(some 2, 0), (some 3, 0), (some 0, 0), (some 1, 0)], [2, 4, 7, 8, 10, 11, 12, 13])], (109, [(none, (-2)), (some 14, 0), (some 0, 0), (some 1, 0), (some 0, 0), (some 1, 0)], []))
theorem pe109_6 {PT : PTy} (hp : HP6 PT) : PT 109 = P_wiX := hp.2.2.2.1
set_option maxRecDepth 20000 in
theorem v_xo_wipe_0_0 {PT : PTy} (hp : HP6 PT) : vcOk PT w_xo_wipe_0_0 := vc_iv [(0, 0, 23), (1, 0, 49), (2, 0, 8), (3, 0, 10), (14, (-2147483648), (-1))] [2, 4, 7, 8, 10, 11, 12, 13] (by decide +kernel) (fun ρ α => by
  intro r0 g0 b0 r1 g1 b1 r2 g2 b2 r3 g3 b3 r14 g14 b14 a2 h2 a4 h4 a7 h7 a8 h8 a10 h10 a11 h11 a12 h12 a13 h13 f0 f1 f2 tt
  clear f0 f1
  have e107 : PT 107 = P_XT := pe107_6 hp
  have e109 : PT 109 = P_wiX := pe109_6 hp
  simp only [hFp_107, hFp_109, e107, e109, P_XT, P_wiX, den_s, den_c, Int.add_zero, List.map_cons, List.map_nil, g0.eq, g1.eq, g2.eq, g3.eq, g14.eq, h2, h4, h7, h8, h10, h11, h12, h13] at f2 ⊢
  first
    | exact ⟨MISSING, MISSING, MISSING, MISSING⟩
    | exact f2
    | ((repeat' (first | apply And.intro | intro h)) <;> first | omega | rfl | trivial | (exfalso; omega)))
def w_xo_wipe_0_1 : VC := ((bT ++ [(2, 2147483647)]), [(0, [(none, 0), (none, 0)], []), (2, [(none, 1), (some 14, 0)], []), (3, [(some 14, 0), (none, 0)], []), (107, [(some 2, 0), (some 3, 0), (some 0, 0), (some 1, 0)], [2, 4, 7, 8, 10, 11, 12, 13])], (109, [(none, (-2)), (some 14, 0), (some 0, 0), (some 1, 0), (some 0, 0), (some 1, 0)], []))
set_option maxRecDepth 20000 in
theorem v_xo_wipe_0_1 {PT : PTy} (hp : HP6 PT) : vcOk PT w_xo_wipe_0_1 := vc_iv [(0, 0, 23), (1, 0, 49), (2, 0, 8), (3, 0, 10), (14, 2, 2147483647)] [2, 4, 7, 8, 10, 11, 12, 13] (by decide +kernel) (fun ρ α => by
  intro r0 g0 b0 r1 g1 b1 r2 g2 b2 r3 g3 b3 r14 g14 b14 a2 h2 a4 h4 a7 h7 a8 h8 a10 h10 a11 h11 a12 h12 a13 h13 f0 f1 f2 f3 tt
  clear f0 f1 f2
  have e107 : PT 107 = P_XT := pe107_6 hp
  have e109 : PT 109 = P_wiX := pe109_6 hp
  simp only [hFp_107, hFp_109, e107, e109, P_XT, P_wiX, den_s, den_c, Int.add_zero, List.map_cons, List.map_nil, g0.eq, g1.eq, g2.eq, g3.eq, g14.eq, h2, h4, h7, h8, h10, h11, h12, h13] at f3 ⊢
  first
    | exact ⟨MISSING, MISSING, MISSING, MISSING⟩
    | exact f3
    | ((repeat' (first | apply And.intro | intro h)) <;> first | omega | rfl | trivial | (exfalso; omega)))
def w_xo_wipe_0_2 : VC := ((bT ++ [(1, 1), (0, 8), (0, 10)]), [(68, [(some 15, 0), (some 0, 0)], [2]), (70, [(some 15, 0)], [2, 58, 59]), (69, [(some 16, 0), (none, 0)], [4]), (71, [(some 16, 0)], [4, 60, 61, 62, 63]), (1, [(some 14, 0), (none, 0)], []), (1, [(some 14, 0), (none, 0)], []), (1, [(none, 1), (none, 0)], []), (3, [(none, 1), (some 14, 0)], []), (3, [(some 14, 0), (none, 0)], []), (107, [(some 2, 0), (some 3, 0), (some 0, 0), (some 1, 0)], [2, 4, 7, 8, 10, 11, 12, 13])], (109, [(some 1, 0), (some 14, 0), (some 0, 0), (some 1, 0), (some 0, 0), (none, 0)], []))
set_option maxRecDepth 20000 in
theorem v_xo_wipe_0_2 {PT : PTy} (hp : HP6 PT) : vcOk PT w_xo_wipe_0_2 := vc_iv [(0, 0, 23), (1, 0, 49), (2, 0, 8), (3, 0, 10), (14, 1, 1), (15, 0, 8), (16, 0, 10)] [2, 4, 7, 8, 10, 11, 12, 13, 58, 59, 60, 61, 62, 63] (by decide +kernel) (fun ρ α => by
  intro r0 g0 b0 r1 g1 b1 r2 g2 b2 r3 g3 b3 r14 g14 b14 r15 g15 b15 r16 g16 b16 a2 h2 a4 h4 a7 h7 a8 h8 a10 h10 a11 h11 a12 h12 a13 h13 a58 h58 a59 h59 a60 h60 a61 h61 a62 h62 a63 h63 f0 f1 f2 f3 f4 f5 f6 f7 f8 f9 tt
  clear f4 f5 f6 f7 f8
  have e68 : PT 68 = P_nP := pe68_6 hp
  have e69 : PT 69 = P_nV := pe69_6 hp
  have e70 : PT 70 = P_tkP := pe70_6 hp
  have e71 : PT 71 = P_tkV := pe71_6 hp
  have e107 : PT 107 = P_XT := pe107_6 hp
  have e109 : PT 109 = P_wiX := pe109_6 hp
  simp only [hFp_68, hFp_69, hFp_70, hFp_71, hFp_107, hFp_109, e68, e69, e70, e71, e107, e109, P_nP, P_nV, P_tkP, P_tkV, P_XT, P_wiX, den_s, den_c, Int.add_zero, List.map_cons, List.map_nil, g0.eq, g1.eq, g2.eq, g3.eq, g14.eq, g15.eq, g16.eq, h2, h4, h7, h8, h10, h11, h12, h13, h58, h59, h60, h61, h62, h63] at f0 f1 f2 f3 f9 ⊢
  first
    | exact ⟨f0, f1, f2, f3⟩
    | exact f9
    | ((repeat' (first | apply And.intro | intro h)) <;> first | omega | rfl | trivial | (exfalso; omega)))
def w_xo_wipe_0_3 : VC := ((bT ++ [(1, 1), (0, 8), (0, 10)]), [(68, [(some 15, 0), (some 0, 0)], [2]), (70, [(some 15, 0)], [2, 58, 59]), (69, [(some 16, 0), (none, 0)], [4]), (71, [(some 16, 0)], [4, 60, 61, 62, 63]), (1, [(some 14, 0), (none, 0)], []), (1, [(some 14, 0), (none, 0)], []), (1, [(none, 1), (none, 0)], []), (3, [(none, 1), (some 14, 0)], []), (3, [(some 14, 0), (none, 0)], []), (107, [(some 2, 0), (some 3, 0), (some 0, 0), (some 1, 0)], [2, 4, 7, 8, 10, 11, 12, 13])], (107, [(some 15, 0), (some 16, 0), (some 0, 0), (none, 0)], [2, 4, 58, 59, 60, 61, 62, 63]))
set_option maxRecDepth 20000 in
theorem v_xo_wipe_0_3 {PT : PTy} (hp : HP6 PT) : vcOk PT w_xo_wipe_0_3 := vc_iv [(0, 0, 23), (1, 0, 49), (2, 0, 8), (3, 0, 10), (15, 0, 8), (16, 0, 10)] [2, 4, 7, 8, 10, 11, 12, 13, 58, 59, 60, 61, 62, 63] (by decide +kernel) (fun ρ α => by
  intro r0 g0 b0 r1 g1 b1 r2 g2 b2 r3 g3 b3 r15 g15 b15 r16 g16 b16 a2 h2 a4 h4 a7 h7 a8 h8 a10 h10 a11 h11 a12 h12 a13 h13 a58 h58 a59 h59 a60 h60 a61 h61 a62 h62 a63 h63 f0 f1 f2 f3 f4 f5 f6 f7 f8 f9 tt
  clear f4 f5 f6 f7 f8
  have e68 : PT 68 = P_nP := pe68_6 hp
  have e69 : PT 69 = P_nV := pe69_6 hp
  have e70 : PT 70 = P_tkP := pe70_6 hp
  have e71 : PT 71 = P_tkV := pe71_6 hp
  have e107 : PT 107 = P_XT := pe107_6 hp
  simp only [hFp_68, hFp_69, hFp_70, hFp_71, hFp_107, e68, e69, e70, e71, e107, P_nP, P_nV, P_tkP, P_tkV, P_XT, den_s, den_c, Int.add_zero, List.map_cons, List.map_nil, g0.eq, g1.eq, g2.eq, g3.eq, g15.eq, g16.eq, h2, h4, h7, h8, h10, h11, h12, h13, h58, h59, h60, h61, h62, h63] at f0 f1 f2 f3 f9 ⊢
  first
    | exact ⟨f0, f1, f2, f3⟩
    | exact f9
    | ((repeat' (first | apply And.intro | intro h)) <;> first | omega | rfl | trivial | (exfalso; omega)))
def w_xo_wipe_0_4 : VC := ((bT ++ [(0, 0), (0, 8), (0, 10)]), [(68, [(some 15, 0), (none, 0)], [2]), (70, [(some 15, 0)], [2, 58, 59]), (69, [(some 16, 0), (some 1, 0)], [4]), (71, [(some 16, 0)], [4, 60, 61, 62, 63]), (0, [(some 14, 0), (none, 0)], []), (0, [(some 14, 0), (none, 0)], []), (1, [(none, 1), (none, 0)], []), (3, [(none, 1), (some 14, 0)], []), (3, [(some 14, 0), (none, 0)], []), (107, [(some 2, 0), (some 3, 0), (some 0, 0), (some 1, 0)], [2, 4, 7, 8, 10, 11, 12, 13])], (109, [(some 0, 0), (some 14, 0), (some 0, 0), (some 1, 0), (none, 0), (some 1, 0)], []))
set_option maxRecDepth 20000 in
theorem v_xo_wipe_0_4 {PT : PTy} (hp : HP6 PT) : vcOk PT w_xo_wipe_0_4 := vc_iv [(0, 0, 23), (1, 0, 49), (2, 0, 8), (3, 0, 10), (14, 0, 0), (15, 0, 8), (16, 0, 10)] [2, 4, 7, 8, 10, 11, 12, 13, 58, 59, 60, 61, 62, 63] (by decide +kernel) (fun ρ α => by
  intro r0 g0 b0 r1 g1 b1 r2 g2 b2 r3 g3 b3 r14 g14 b14 r15 g15 b15 r16 g16 b16 a2 h2 a4 h4 a7 h7 a8 h8 a10 h10 a11 h11 a12 h12 a13 h13 a58 h58 a59 h59 a60 h60 a61 h61 a62 h62 a63 h63 f0 f1 f2 f3 f4 f5 f6 f7 f8 f9 tt
  clear f5 f6 f7 f8
  have e68 : PT 68 = P_nP := pe68_6 hp
  have e69 : PT 69 = P_nV := pe69_6 hp
  have e70 : PT 70 = P_tkP := pe70_6 hp
  have e71 : PT 71 = P_tkV := pe71_6 hp
  have e107 : PT 107 = P_XT := pe107_6 hp
  have e109 : PT 109 = P_wiX := pe109_6 hp
  simp only [hF0, hFp_68, hFp_69, hFp_70, hFp_71, hFp_107, hFp_109, e68, e69, e70, e71, e107, e109, P_nP, P_nV, P_tkP, P_tkV, P_XT, P_wiX, den_s, den_c, Int.add_zero, List.map_cons, List.map_nil, g0.eq, g1.eq, g2.eq, g3.eq, g14.eq, g15.eq, g16.eq, h2, h4, h7, h8, h10, h11, h12, h13, h58, h59, h60, h61, h62, h63] at f0 f1 f2 f3 f4 f9 ⊢
  first
    | exact ⟨f0, f1, f2, f3⟩
    | exact f9
    | ((repeat' (first | apply And.intro | intro h)) <;> first | omega | rfl | trivial | (exfalso; omega)))
def w_xo_wipe_0_5 : VC := ((bT ++ [(0, 0), (0, 8), (0, 10)]), [(68, [(some 15, 0), (none, 0)], [2]), (70, [(some 15, 0)], [2, 58, 59]), (69, [(some 16, 0), (some 1, 0)], [4]), (71, [(some 16, 0)], [4, 60, 61, 62, 63]), (0, [(some 14, 0), (none, 0)], []), (0, [(some 14, 0), (none, 0)], []), (1, [(none, 1), (none, 0)], []), (3, [(none, 1), (some 14, 0)], []), (3, [(some 14, 0), (none, 0)], []), (107, [(some 2, 0), (some 3, 0), (some 0, 0), (some 1, 0)], [2, 4, 7, 8, 10, 11, 12, 13])], (107, [(some 15, 0), (some 16, 0), (none, 0), (some 1, 0)], [2, 4, 58, 59, 60, 61, 62, 63]))
set_option maxRecDepth 20000 in
theorem v_xo_wipe_0_5 {PT : PTy} (hp : HP6 PT) : vcOk PT w_xo_wipe_0_5 := vc_iv [(0, 0, 23), (1, 0, 49), (2, 0, 8), (3, 0, 10), (14, 0, 0), (15, 0, 8), (16, 0, 10)] [2, 4, 7, 8, 10, 11, 12, 13, 58, 59, 60, 61, 62, 63] (by decide +kernel) (fun ρ α => by
  intro r0 g0 b0 r1 g1 b1 r2 g2 b2 r3 g3 b3 r14 g14 b14 r15 g15 b15 r16 g16 b16 a2 h2 a4 h4 a7 h7 a8 h8 a10 h10 a11 h11 a12 h12 a13 h13 a58 h58 a59 h59 a60 h60 a61 h61 a62 h62 a63 h63 f0 f1 f2 f3 f4 f5 f6 f7 f8 f9 tt
  clear f5 f6 f7 f8
  have e68 : PT 68 = P_nP := pe68_6 hp
  have e69 : PT 69 = P_nV := pe69_6 hp
  have e70 : PT 70 = P_tkP := pe70_6 hp
  have e71 : PT 71 = P_tkV := pe71_6 hp
  have e107 : PT 107 = P_XT := pe107_6 hp
  simp only [hF0, hFp_68, hFp_69, hFp_70, hFp_71, hFp_107, e68, e69, e70, e71, e107, P_nP, P_nV, P_tkP, P_tkV, P_XT, den_s, den_c, Int.add_zero, List.map_cons, List.map_nil, g0.eq, g1.eq, g2.eq, g3.eq, g14.eq, g15.eq, g16.eq, h2, h4, h7, h8, h10, h11, h12, h13, h58, h59, h60, h61, h62, h63] at f0 f1 f2 f3 f4 f9 ⊢
  first
    | exact ⟨f0, f1, f2, f3⟩
    | exact f9
    | ((repeat' (first | apply And.intro | intro h)) <;> first | omega | rfl | trivial | (exfalso; omega)))
set_option maxRecDepth 1000000 in
theorem k_xo_wipe {PT : PTy} (hp : HP6 PT) : wfX c_xo_wipe = true ∧ xcOk PT c_xo_wipe := xctr (xl (k_takeTexts hp.1.1.1.1.1) (xl0)) c_xo_wipe 61 mX6_wipe rfl h_xo_wipe (by decide +kernel) (by decide +kernel) (by decide) (vcs_by [w_xo_wipe_0_0, w_xo_wipe_0_1, w_xo_wipe_0_2, w_xo_wipe_0_3, w_xo_wipe_0_4, w_xo_wipe_0_5] (by decide +kernel) (vc (v_xo_wipe_0_0 hp) (vc (v_xo_wipe_0_1 hp) (vc (v_xo_wipe_0_2 hp) (vc (v_xo_wipe_0_3 hp) (vc (v_xo_wipe_0_4 hp) (vc (v_xo_wipe_0_5 hp) vn))))))) fmn
def c_xo_undo : XC := (45, 4, (bT ++ [((-2147483648), 2147483647)]), [.inr (.inl 0), .inl (some 14, 0)], (gX 999), [(107, [(some 2, 0), (some 3, 0), (some 0, 0), (some 1, 0)], [2, 4, 7, 8, 10, 11, 12, 13])], [((bT ++ [((-2147483648), 2147483647), ((-3), 48), (0, 23), (0, 49), (0, 8), (0, 10)]), some (.inl (some 15, 0)), (hst (gX 999) [(1, .inr (.inr (.inr (3, [.inr (.inl 2), .inl (none, 23), .inl (none, 0), .inl (some 16, 0)])))), (3, .inr (.inr (.inr (3, [.inr (.inl 4), .inl (none, 49), .inl (none, 1), .inl (some 17, 0)])))), (6, .inr (.inr (.inr (1, [.inr (.inl 7), .inr (.inl 8), .inl (some 18, 0)])))), (9, .inr (.inr (.inr (5, [.inr (.inl 10), .inr (.inl 11), .inr (.inl 12), .inr (.inl 13), .inl (some 19, 0)]))))]), (ansT 58 [(7, 58), (8, 59), (10, 60), (11, 61), (12, 62), (13, 63)]), 64, [(110, [(some 15, 0), (some 14, 0), (some 0, 0), (some 1, 0), (some 16, 0), (some 17, 0)], []), (107, [(some 18, 0), (some 19, 0), (some 16, 0), (some 17, 0)], [2, 4, 58, 59, 60, 61, 62, 63])])])
def h_xo_undo : List XH := []
def w_xo_undo_0_0 : VC := ((bT ++ [((-2147483648), (-1))]), [(0, [(none, 0), (none, 0)], []), (2, [(some 14, 0), (none, 0)], []), (107, [(some 2, 0), (some 3, 0), (some 0, 0), (some 1, 0)], [2, 4, 7, 8, 10, 11, 12, 13])], (110, [(none, (-2)), (some 14, 0), (some 0, 0), (some 1, 0), (some 0, 0), (some 1, 0)], []))
theorem pe110_6 {PT : PTy} (hp : HP6 PT) : PT 110 = P_unX := hp.2.2.2.2.1
set_option maxRecDepth 20000 in
theorem v_xo_undo_0_0 {PT : PTy} (hp : HP6 PT) : vcOk PT w_xo_undo_0_0 := vc_iv [(0, 0, 23), (1, 0, 49), (2, 0, 8), (3, 0, 10), (14, (-2147483648), (-1))] [2, 4, 7, 8, 10, 11, 12, 13] (by decide +kernel) (fun ρ α => by
  intro r0 g0 b0 r1 g1 b1 r2 g2 b2 r3 g3 b3 r14 g14 b14 a2 h2 a4 h4 a7 h7 a8 h8 a10 h10 a11 h11 a12 h12 a13 h13 f0 f1 f2 tt
  clear f0 f1
  have e107 : PT 107 = P_XT := pe107_6 hp
  have e110 : PT 110 = P_unX := pe110_6 hp
  simp only [hFp_107, hFp_110, e107, e110, P_XT, P_unX, den_s, den_c, Int.add_zero, List.map_cons, List.map_nil, g0.eq, g1.eq, g2.eq, g3.eq, g14.eq, h2, h4, h7, h8, h10, h11, h12, h13] at f2 ⊢
  first
    | exact ⟨MISSING, MISSING, MISSING, MISSING⟩
    | exact f2
    | ((repeat' (first | apply And.intro | intro h)) <;> first | omega | rfl | trivial | (exfalso; omega)))
def w_xo_undo_0_1 : VC := ((bT ++ [(2, 2147483647)]), [(0, [(none, 0), (none, 0)], []), (2, [(none, 1), (some 14, 0)], []), (3, [(some 14, 0), (none, 0)], []), (107, [(some 2, 0), (some 3, 0), (some 0, 0), (some 1, 0)], [2, 4, 7, 8, 10, 11, 12, 13])], (110, [(none, (-2)), (some 14, 0), (some 0, 0), (some 1, 0), (some 0, 0), (some 1, 0)], []))
set_option maxRecDepth 20000 in
theorem v_xo_undo_0_1 {PT : PTy} (hp : HP6 PT) : vcOk PT w_xo_undo_0_1 := vc_iv [(0, 0, 23), (1, 0, 49), (2, 0, 8), (3, 0, 10), (14, 2, 2147483647)] [2, 4, 7, 8, 10, 11, 12, 13] (by decide +kernel) (fun ρ α => by
  intro r0 g0 b0 r1 g1 b1 r2 g2 b2 r3 g3 b3 r14 g14 b14 a2 h2 a4 h4 a7 h7 a8 h8 a10 h10 a11 h11 a12 h12 a13 h13 f0 f1 f2 f3 tt
  clear f0 f1 f2
  have e107 : PT 107 = P_XT := pe107_6 hp
  have e110 : PT 110 = P_unX := pe110_6 hp
  simp only [hFp_107, hFp_110, e107, e110, P_XT, P_unX, den_s, den_c, Int.add_zero, List.map_cons, List.map_nil, g0.eq, g1.eq, g2.eq, g3.eq, g14.eq, h2, h4, h7, h8, h10, h11, h12, h13] at f3 ⊢
  first
    | exact ⟨MISSING, MISSING, MISSING, MISSING⟩
    | exact f3
    | ((repeat' (first | apply And.intro | intro h)) <;> first | omega | rfl | trivial | (exfalso; omega)))
def w_xo_undo_0_2 : VC := (([(0, 23), (1, 49), (0, 8), (0, 10), (0, 8), (0, 6), (0, 6), (0, 8), (0, 9), (0, 49), (0, 49), ((-2147483648), 2147483647), ((-2147483648), 2147483647), (0, 5), (1, 1), (0, 8), (0, 10)]), [(1, [(some 14, 0), (none, 0)], []), (68, [(some 15, 0), (some 0, 0)], [2]), (70, [(some 15, 0)], [2, 58, 59]), (69, [(some 16, 0), (some 1, (-1))], [4]), (71, [(some 16, 0)], [4, 60, 61, 62, 63]), (1, [(some 14, 0), (none, 0)], []), (1, [(some 1, 0), (none, 0)], []), (1, [(some 14, 0), (none, 0)], []), (1, [(none, 1), (none, 0)], []), (3, [(none, 1), (some 14, 0)], []), (3, [(some 14, 0), (none, 0)], []), (107, [(some 2, 0), (some 3, 0), (some 0, 0), (some 1, 0)], [2, 4, 7, 8, 10, 11, 12, 13])], (110, [(some 1, (-1)), (some 14, 0), (some 0, 0), (some 1, 0), (some 0, 0), (some 1, (-1))], []))
set_option maxRecDepth 20000 in
theorem v_xo_undo_0_2 {PT : PTy} (hp : HP6 PT) : vcOk PT w_xo_undo_0_2 := vc_iv [(0, 0, 23), (1, 1, 49), (2, 0, 8), (3, 0, 10), (14, 1, 1), (15, 0, 8), (16, 0, 10)] [2, 4, 7, 8, 10, 11, 12, 13, 58, 59, 60, 61, 62, 63] (by decide +kernel) (fun ρ α => by
  intro r0 g0 b0 r1 g1 b1 r2 g2 b2 r3 g3 b3 r14 g14 b14 r15 g15 b15 r16 g16 b16 a2 h2 a4 h4 a7 h7 a8 h8 a10 h10 a11 h11 a12 h12 a13 h13 a58 h58 a59 h59 a60 h60 a61 h61 a62 h62 a63 h63 f0 f1 f2 f3 f4 f5 f6 f7 f8 f9 f10 f11 tt
  clear f0 f5 f6 f7 f8 f9 f10
  have e68 : PT 68 = P_nP := pe68_6 hp
  have e69 : PT 69 = P_nV := pe69_6 hp
  have e70 : PT 70 = P_tkP := pe70_6 hp
  have e71 : PT 71 = P_tkV := pe71_6 hp
  have e107 : PT 107 = P_XT := pe107_6 hp
  have e110 : PT 110 = P_unX := pe110_6 hp
  simp only [hFp_68, hFp_69, hFp_70, hFp_71, hFp_107, hFp_110, e68, e69, e70, e71, e107, e110, P_nP, P_nV, P_tkP, P_tkV, P_XT, P_unX, den_s, den_c, Int.add_zero, List.map_cons, List.map_nil, g0.eq, g1.eq, g2.eq, g3.eq, g14.eq, g15.eq, g16.eq, h2, h4, h7, h8, h10, h11, h12, h13, h58, h59, h60, h61, h62, h63] at f1 f2 f3 f4 f11 ⊢
  first
    | exact ⟨f1, f2, f3, f4⟩
    | exact f11
    | ((repeat' (first | apply And.intro | intro h)) <;> first | omega | rfl | trivial | (exfalso; omega)))
def w_xo_undo_0_3 : VC := (([(0, 23), (1, 49), (0, 8), (0, 10), (0, 8), (0, 6), (0, 6), (0, 8), (0, 9), (0, 49), (0, 49), ((-2147483648), 2147483647), ((-2147483648), 2147483647), (0, 5), (1, 1), (0, 8), (0, 10)]), [(1, [(some 14, 0), (none, 0)], []), (68, [(some 15, 0), (some 0, 0)], [2]), (70, [(some 15, 0)], [2, 58, 59]), (69, [(some 16, 0), (some 1, (-1))], [4]), (71, [(some 16, 0)], [4, 60, 61, 62, 63]), (1, [(some 14, 0), (none, 0)], []), (1, [(some 1, 0), (none, 0)], []), (1, [(some 14, 0), (none, 0)], []), (1, [(none, 1), (none, 0)], []), (3, [(none, 1), (some 14, 0)], []), (3, [(some 14, 0), (none, 0)], []), (107, [(some 2, 0), (some 3, 0), (some 0, 0), (some 1, 0)], [2, 4, 7, 8, 10, 11, 12, 13])], (107, [(some 15, 0), (some 16, 0), (some 0, 0), (some 1, (-1))], [2, 4, 58, 59, 60, 61, 62, 63]))
set_option maxRecDepth 20000 in
theorem v_xo_undo_0_3 {PT : PTy} (hp : HP6 PT) : vcOk PT w_xo_undo_0_3 := vc_iv [(0, 0, 23), (1, 1, 49), (2, 0, 8), (3, 0, 10), (15, 0, 8), (16, 0, 10)] [2, 4, 7, 8, 10, 11, 12, 13, 58, 59, 60, 61, 62, 63] (by decide +kernel) (fun ρ α => by
  intro r0 g0 b0 r1 g1 b1 r2 g2 b2 r3 g3 b3 r15 g15 b15 r16 g16 b16 a2 h2 a4 h4 a7 h7 a8 h8 a10 h10 a11 h11 a12 h12 a13 h13 a58 h58 a59 h59 a60 h60 a61 h61 a62 h62 a63 h63 f0 f1 f2 f3 f4 f5 f6 f7 f8 f9 f10 f11 tt
  clear f0 f5 f6 f7 f8 f9 f10
  have e68 : PT 68 = P_nP := pe68_6 hp
  have e69 : PT 69 = P_nV := pe69_6 hp
  have e70 : PT 70 = P_tkP := pe70_6 hp
  have e71 : PT 71 = P_tkV := pe71_6 hp
  have e107 : PT 107 = P_XT := pe107_6 hp
  simp only [hFp_68, hFp_69, hFp_70, hFp_71, hFp_107, e68, e69, e70, e71, e107, P_nP, P_nV, P_tkP, P_tkV, P_XT, den_s, den_c, Int.add_zero, List.map_cons, List.map_nil, g0.eq, g1.eq, g2.eq, g3.eq, g15.eq, g16.eq, h2, h4, h7, h8, h10, h11, h12, h13, h58, h59, h60, h61, h62, h63] at f1 f2 f3 f4 f11 ⊢
  first
    | exact ⟨f1, f2, f3, f4⟩
    | exact f11
    | ((repeat' (first | apply And.intro | intro h)) <;> first | omega | rfl | trivial | (exfalso; omega)))
def w_xo_undo_0_4 : VC := (([(0, 23), (0, 0), (0, 8), (0, 10), (0, 8), (0, 6), (0, 6), (0, 8), (0, 9), (0, 49), (0, 49), ((-2147483648), 2147483647), ((-2147483648), 2147483647), (0, 5), (1, 1)]), [(0, [(some 1, 0), (none, 0)], []), (1, [(some 14, 0), (none, 0)], []), (1, [(none, 1), (none, 0)], []), (3, [(none, 1), (some 14, 0)], []), (3, [(some 14, 0), (none, 0)], []), (107, [(some 2, 0), (some 3, 0), (some 0, 0), (some 1, 0)], [2, 4, 7, 8, 10, 11, 12, 13])], (110, [(none, (-3)), (some 14, 0), (some 0, 0), (some 1, 0), (some 0, 0), (some 1, 0)], []))
set_option maxRecDepth 20000 in
theorem v_xo_undo_0_4 {PT : PTy} (hp : HP6 PT) : vcOk PT w_xo_undo_0_4 := vc_iv [(0, 0, 23), (1, 0, 0), (2, 0, 8), (3, 0, 10), (14, 1, 1)] [2, 4, 7, 8, 10, 11, 12, 13] (by decide +kernel) (fun ρ α => by
  intro r0 g0 b0 r1 g1 b1 r2 g2 b2 r3 g3 b3 r14 g14 b14 a2 h2 a4 h4 a7 h7 a8 h8 a10 h10 a11 h11 a12 h12 a13 h13 f0 f1 f2 f3 f4 f5 tt
  clear f1 f2 f3 f4
  have e107 : PT 107 = P_XT := pe107_6 hp
  have e110 : PT 110 = P_unX := pe110_6 hp
  simp only [hF0, hFp_107, hFp_110, e107, e110, P_XT, P_unX, den_s, den_c, Int.add_zero, List.map_cons, List.map_nil, g0.eq, g1.eq, g2.eq, g3.eq, g14.eq, h2, h4, h7, h8, h10, h11, h12, h13] at f0 f5 ⊢
  first
    | exact ⟨MISSING, MISSING, MISSING, MISSING⟩
    | exact f5
    | ((repeat' (first | apply And.intro | intro h)) <;> first | omega | rfl | trivial | (exfalso; omega)))
def w_xo_undo_0_5 : VC := (([(1, 23), (0, 49), (0, 8), (0, 10), (0, 8), (0, 6), (0, 6), (0, 8), (0, 9), (0, 49), (0, 49), ((-2147483648), 2147483647), ((-2147483648), 2147483647), (0, 5), (0, 0), (0, 8), (0, 10)]), [(0, [(some 14, 0), (none, 0)], []), (68, [(some 15, 0), (some 0, (-1))], [2]), (70, [(some 15, 0)], [2, 58, 59]), (69, [(some 16, 0), (some 1, 0)], [4]), (71, [(some 16, 0)], [4, 60, 61, 62, 63]), (0, [(some 14, 0), (none, 0)], []), (1, [(some 0, 0), (none, 0)], []), (0, [(some 14, 0), (none, 0)], []), (1, [(none, 1), (none, 0)], []), (3, [(none, 1), (some 14, 0)], []), (3, [(some 14, 0), (none, 0)], []), (107, [(some 2, 0), (some 3, 0), (some 0, 0), (some 1, 0)], [2, 4, 7, 8, 10, 11, 12, 13])], (110, [(some 0, (-1)), (some 14, 0), (some 0, 0), (some 1, 0), (some 0, (-1)), (some 1, 0)], []))
set_option maxRecDepth 20000 in
theorem v_xo_undo_0_5 {PT : PTy} (hp : HP6 PT) : vcOk PT w_xo_undo_0_5 := vc_iv [(0, 1, 23), (1, 0, 49), (2, 0, 8), (3, 0, 10), (14, 0, 0), (15, 0, 8), (16, 0, 10)] [2, 4, 7, 8, 10, 11, 12, 13, 58, 59, 60, 61, 62, 63] (by decide +kernel) (fun ρ α => by
  intro r0 g0 b0 r1 g1 b1 r2 g2 b2 r3 g3 b3 r14 g14 b14 r15 g15 b15 r16 g16 b16 a2 h2 a4 h4 a7 h7 a8 h8 a10 h10 a11 h11 a12 h12 a13 h13 a58 h58 a59 h59 a60 h60 a61 h61 a62 h62 a63 h63 f0 f1 f2 f3 f4 f5 f6 f7 f8 f9 f10 f11 tt
  clear f5 f6 f7 f8 f9 f10
  have e68 : PT 68 = P_nP := pe68_6 hp
  have e69 : PT 69 = P_nV := pe69_6 hp
  have e70 : PT 70 = P_tkP := pe70_6 hp
  have e71 : PT 71 = P_tkV := pe71_6 hp
  have e107 : PT 107 = P_XT := pe107_6 hp
  have e110 : PT 110 = P_unX := pe110_6 hp
  simp only [hF0, hFp_68, hFp_69, hFp_70, hFp_71, hFp_107, hFp_110, e68, e69, e70, e71, e107, e110, P_nP, P_nV, P_tkP, P_tkV, P_XT, P_unX, den_s, den_c, Int.add_zero, List.map_cons, List.map_nil, g0.eq, g1.eq, g2.eq, g3.eq, g14.eq, g15.eq, g16.eq, h2, h4, h7, h8, h10, h11, h12, h13, h58, h59, h60, h61, h62, h63] at f0 f1 f2 f3 f4 f11 ⊢
  first
    | exact ⟨f1, f2, f3, f4⟩
    | exact f11
    | ((repeat' (first | apply And.intro | intro h)) <;> first | omega | rfl | trivial | (exfalso; omega)))
def w_xo_undo_0_6 : VC := (([(1, 23), (0, 49), (0, 8), (0, 10), (0, 8), (0, 6), (0, 6), (0, 8), (0, 9), (0, 49), (0, 49), ((-2147483648), 2147483647), ((-2147483648), 2147483647), (0, 5), (0, 0), (0, 8), (0, 10)]), [(0, [(some 14, 0), (none, 0)], []), (68, [(some 15, 0), (some 0, (-1))], [2]), (70, [(some 15, 0)], [2, 58, 59]), (69, [(some 16, 0), (some 1, 0)], [4]), (71, [(some 16, 0)], [4, 60, 61, 62, 63]), (0, [(some 14, 0), (none, 0)], []), (1, [(some 0, 0), (none, 0)], []), (0, [(some 14, 0), (none, 0)], []), (1, [(none, 1), (none, 0)], []), (3, [(none, 1), (some 14, 0)], []), (3, [(some 14, 0), (none, 0)], []), (107, [(some 2, 0), (some 3, 0), (some 0, 0), (some 1, 0)], [2, 4, 7, 8, 10, 11, 12, 13])], (107, [(some 15, 0), (some 16, 0), (some 0, (-1)), (some 1, 0)], [2, 4, 58, 59, 60, 61, 62, 63]))
set_option maxRecDepth 20000 in
theorem v_xo_undo_0_6 {PT : PTy} (hp : HP6 PT) : vcOk PT w_xo_undo_0_6 := vc_iv [(0, 1, 23), (1, 0, 49), (2, 0, 8), (3, 0, 10), (14, 0, 0), (15, 0, 8), (16, 0, 10)] [2, 4, 7, 8, 10, 11, 12, 13, 58, 59, 60, 61, 62, 63] (by decide +kernel) (fun ρ α => by
  intro r0 g0 b0 r1 g1 b1 r2 g2 b2 r3 g3 b3 r14 g14 b14 r15 g15 b15 r16 g16 b16 a2 h2 a4 h4 a7 h7 a8 h8 a10 h10 a11 h11 a12 h12 a13 h13 a58 h58 a59 h59 a60 h60 a61 h61 a62 h62 a63 h63 f0 f1 f2 f3 f4 f5 f6 f7 f8 f9 f10 f11 tt
  clear f5 f6 f7 f8 f9 f10
  have e68 : PT 68 = P_nP := pe68_6 hp
  have e69 : PT 69 = P_nV := pe69_6 hp
  have e70 : PT 70 = P_tkP := pe70_6 hp
  have e71 : PT 71 = P_tkV := pe71_6 hp
  have e107 : PT 107 = P_XT := pe107_6 hp
  simp only [hF0, hFp_68, hFp_69, hFp_70, hFp_71, hFp_107, e68, e69, e70, e71, e107, P_nP, P_nV, P_tkP, P_tkV, P_XT, den_s, den_c, Int.add_zero, List.map_cons, List.map_nil, g0.eq, g1.eq, g2.eq, g3.eq, g14.eq, g15.eq, g16.eq, h2, h4, h7, h8, h10, h11, h12, h13, h58, h59, h60, h61, h62, h63] at f0 f1 f2 f3 f4 f11 ⊢
  first
    | exact ⟨f1, f2, f3, f4⟩
    | exact f11
    | ((repeat' (first | apply And.intro | intro h)) <;> first | omega | rfl | trivial | (exfalso; omega)))
def w_xo_undo_0_7 : VC := (([(0, 0), (0, 49), (0, 8), (0, 10), (0, 8), (0, 6), (0, 6), (0, 8), (0, 9), (0, 49), (0, 49), ((-2147483648), 2147483647), ((-2147483648), 2147483647), (0, 5), (0, 0)]), [(0, [(some 0, 0), (none, 0)], []), (0, [(some 14, 0), (none, 0)], []), (1, [(none, 1), (none, 0)], []), (3, [(none, 1), (some 14, 0)], []), (3, [(some 14, 0), (none, 0)], []), (107, [(some 2, 0), (some 3, 0), (some 0, 0), (some 1, 0)], [2, 4, 7, 8, 10, 11, 12, 13])], (110, [(none, (-3)), (some 14, 0), (some 0, 0), (some 1, 0), (some 0, 0), (some 1, 0)], []))
set_option maxRecDepth 20000 in
theorem v_xo_undo_0_7 {PT : PTy} (hp : HP6 PT) : vcOk PT w_xo_undo_0_7 := vc_iv [(0, 0, 0), (1, 0, 49), (2, 0, 8), (3, 0, 10), (14, 0, 0)] [2, 4, 7, 8, 10, 11, 12, 13] (by decide +kernel) (fun ρ α => by
  intro r0 g0 b0 r1 g1 b1 r2 g2 b2 r3 g3 b3 r14 g14 b14 a2 h2 a4 h4 a7 h7 a8 h8 a10 h10 a11 h11 a12 h12 a13 h13 f0 f1 f2 f3 f4 f5 tt
  clear f2 f3 f4
  have e107 : PT 107 = P_XT := pe107_6 hp
  have e110 : PT 110 = P_unX := pe110_6 hp
  simp only [hF0, hFp_107, hFp_110, e107, e110, P_XT, P_unX, den_s, den_c, Int.add_zero, List.map_cons, List.map_nil, g0.eq, g1.eq, g2.eq, g3.eq, g14.eq, h2, h4, h7, h8, h10, h11, h12, h13] at f0 f1 f5 ⊢
  first
    | exact ⟨MISSING, MISSING, MISSING, MISSING⟩
    | exact f5
    | ((repeat' (first | apply And.intro | intro h)) <;> first | omega | rfl | trivial | (exfalso; omega)))
set_option maxRecDepth 1000000 in
theorem k_xo_undo {PT : PTy} (hp : HP6 PT) : wfX c_xo_undo = true ∧ xcOk PT c_xo_undo := xctr (xl (k_takeTexts hp.1.1.1.1.1) (xl0)) c_xo_undo 73 mX6_undo rfl h_xo_undo (by decide +kernel) (by decide +kernel) (by decide) (vcs_by [w_xo_undo_0_0, w_xo_undo_0_1, w_xo_undo_0_2, w_xo_undo_0_3, w_xo_undo_0_4, w_xo_undo_0_5, w_xo_undo_0_6, w_xo_undo_0_7] (by decide +kernel) (vc (v_xo_undo_0_0 hp) (vc (v_xo_undo_0_1 hp) (vc (v_xo_undo_0_2 hp) (vc (v_xo_undo_0_3 hp) (vc (v_xo_undo_0_4 hp) (vc (v_xo_undo_0_5 hp) (vc (v_xo_undo_0_6 hp) (vc (v_xo_undo_0_7 hp) vn))))))))) fmn
def c_xo_fault : XC := (46, 2, (bT ++ [((-2147483648), 2147483647)]), [.inr (.inl 0), .inl (some 14, 0)], (gX 999), [], [((bT ++ [((-2147483648), 2147483647), ((-2), 49)]), some (.inl (some 15, 0)), (gX 999), (List.range 58), 58, [(111, [(some 15, 0), (some 14, 0), (some 0, 0), (some 1, 0)], [2, 4])])])
def h_xo_fault : List XH := []
def w_xo_fault_0_0 : VC := ((bT ++ [((-2147483648), (-1))]), [(0, [(none, 0), (none, 0)], []), (2, [(some 14, 0), (none, 0)], [])], (111, [(none, (-2)), (some 14, 0), (some 0, 0), (some 1, 0)], [2, 4]))
theorem pe111_6 {PT : PTy} (hp : HP6 PT) : PT 111 = P_faX := hp.2.2.2.2.2.1
set_option maxRecDepth 20000 in
theorem v_xo_fault_0_0 {PT : PTy} (hp : HP6 PT) : vcOk PT w_xo_fault_0_0 := vc_iv [(0, 0, 23), (1, 0, 49), (14, (-2147483648), (-1))] [2, 4] (by decide +kernel) (fun ρ α => by
  intro r0 g0 b0 r1 g1 b1 r14 g14 b14 a2 h2 a4 h4 f0 f1 tt
  clear f0 f1
  have e111 : PT 111 = P_faX := pe111_6 hp
  simp only [hFp_111, e111, P_faX, den_s, den_c, Int.add_zero, List.map_cons, List.map_nil, g0.eq, g1.eq, g14.eq, h2, h4] at ⊢
  refine ⟨fun h => ?_, fun h => ?_, fun h1 h2 => ?_⟩
  all_goals first
    | (exfalso; omega)
    | rfl
    | trivial
    | exact MISSING
    | exact MISSING)
def w_xo_fault_0_1 : VC := ((bT ++ [(2, 2147483647)]), [(0, [(none, 0), (none, 0)], []), (2, [(none, 1), (some 14, 0)], []), (3, [(some 14, 0), (none, 0)], [])], (111, [(none, (-2)), (some 14, 0), (some 0, 0), (some 1, 0)], [2, 4]))
set_option maxRecDepth 20000 in
theorem v_xo_fault_0_1 {PT : PTy} (hp : HP6 PT) : vcOk PT w_xo_fault_0_1 := vc_iv [(0, 0, 23), (1, 0, 49), (14, 2, 2147483647)] [2, 4] (by decide +kernel) (fun ρ α => by
  intro r0 g0 b0 r1 g1 b1 r14 g14 b14 a2 h2 a4 h4 f0 f1 f2 tt
  clear f0 f1 f2
  have e111 : PT 111 = P_faX := pe111_6 hp
  simp only [hFp_111, e111, P_faX, den_s, den_c, Int.add_zero, List.map_cons, List.map_nil, g0.eq, g1.eq, g14.eq, h2, h4] at ⊢
  refine ⟨fun h => ?_, fun h => ?_, fun h1 h2 => ?_⟩
  all_goals first
    | (exfalso; omega)
    | rfl
    | trivial
    | exact MISSING
    | exact MISSING)
def w_xo_fault_0_2 : VC := ((bT ++ [(1, 1), ((-1), 49)]), [(67, [(some 15, 0), (some 1, 0)], [4]), (1, [(some 14, 0), (none, 0)], []), (1, [(none, 1), (none, 0)], []), (3, [(none, 1), (some 14, 0)], []), (3, [(some 14, 0), (none, 0)], [])], (111, [(some 15, 0), (some 14, 0), (some 0, 0), (some 1, 0)], [2, 4]))
theorem pe67_6 {PT : PTy} (hp : HP6 PT) : PT 67 = P_ffV := hp.1.1.1.1.1.2.2.2.2.1
set_option maxRecDepth 20000 in
theorem v_xo_fault_0_2 {PT : PTy} (hp : HP6 PT) : vcOk PT w_xo_fault_0_2 := vc_iv [(0, 0, 23), (1, 0, 49), (14, 1, 1), (15, (-1), 49)] [2, 4] (by decide +kernel) (fun ρ α => by
  intro r0 g0 b0 r1 g1 b1 r14 g14 b14 r15 g15 b15 a2 h2 a4 h4 f0 f1 f2 f3 f4 tt
  clear f1 f2 f3 f4
  have e67 : PT 67 = P_ffV := pe67_6 hp
  have e111 : PT 111 = P_faX := pe111_6 hp
  simp only [hFp_67, hFp_111, e67, e111, P_ffV, P_faX, den_s, den_c, Int.add_zero, List.map_cons, List.map_nil, g0.eq, g1.eq, g14.eq, g15.eq, h2, h4] at f0 ⊢
  refine ⟨fun h => ?_, fun h => ?_, fun h1 h2 => ?_⟩
  all_goals first
    | (exfalso; omega)
    | rfl
    | trivial
    | exact MISSING
    | exact f0)
def w_xo_fault_0_3 : VC := ((bT ++ [(0, 0), ((-1), 23)]), [(66, [(some 15, 0), (some 0, 0)], [2]), (0, [(some 14, 0), (none, 0)], []), (1, [(none, 1), (none, 0)], []), (3, [(none, 1), (some 14, 0)], []), (3, [(some 14, 0), (none, 0)], [])], (111, [(some 15, 0), (some 14, 0), (some 0, 0), (some 1, 0)], [2, 4]))
theorem pe66_6 {PT : PTy} (hp : HP6 PT) : PT 66 = P_ffP := hp.1.1.1.1.1.2.2.2.1
set_option maxRecDepth 20000 in
theorem v_xo_fault_0_3 {PT : PTy} (hp : HP6 PT) : vcOk PT w_xo_fault_0_3 := vc_iv [(0, 0, 23), (1, 0, 49), (14, 0, 0), (15, (-1), 23)] [2, 4] (by decide +kernel) (fun ρ α => by
  intro r0 g0 b0 r1 g1 b1 r14 g14 b14 r15 g15 b15 a2 h2 a4 h4 f0 f1 f2 f3 f4 tt
  clear f2 f3 f4
  have e66 : PT 66 = P_ffP := pe66_6 hp
  have e111 : PT 111 = P_faX := pe111_6 hp
  simp only [hF0, hFp_66, hFp_111, e66, e111, P_ffP, P_faX, den_s, den_c, Int.add_zero, List.map_cons, List.map_nil, g0.eq, g1.eq, g14.eq, g15.eq, h2, h4] at f0 f1 ⊢
  refine ⟨fun h => ?_, fun h => ?_, fun h1 h2 => ?_⟩
  all_goals first
    | (exfalso; omega)
    | rfl
    | trivial
    | exact f0
    | exact MISSING)
set_option maxRecDepth 1000000 in
theorem k_xo_fault {PT : PTy} (hp : HP6 PT) : wfX c_xo_fault = true ∧ xcOk PT c_xo_fault := xctr (xl (k_FF_P hp.1.1.1.1.1) (xl (k_FF_V hp.1.1.1.1.1) (xl0))) c_xo_fault 47 mX6_fault rfl h_xo_fault (by decide +kernel) (by decide +kernel) (by decide) (vcs_by [w_xo_fault_0_0, w_xo_fault_0_1, w_xo_fault_0_2, w_xo_fault_0_3] (by decide +kernel) (vc (v_xo_fault_0_0 hp) (vc (v_xo_fault_0_1 hp) (vc (v_xo_fault_0_2 hp) (vc (v_xo_fault_0_3 hp) vn))))) fmn
def c_xo_person : XC := (47, 1, (bT ++ [((-2147483648), 2147483647), ((-2147483648), 2147483647)]), [.inr (.inl 0), .inl (some 14, 0), .inl (some 15, 0)], (gX 999), [], [((bT ++ [((-2147483648), 2147483647), ((-2147483648), 2147483647), ((-2), 9)]), some (.inl (some 16, 0)), (gX 999), (List.range 58), 58, [(112, [(some 16, 0), (some 14, 0), (some 15, 0), (some 2, 0)], [7, 8])])])
def h_xo_person : List XH := []
def w_xo_person_0_0 : VC := ((bT ++ [((-2147483648), (-1)), ((-2147483648), 2147483647)]), [(0, [(none, 0), (none, 0)], []), (2, [(some 14, 0), (none, 0)], [])], (112, [(none, (-2)), (some 14, 0), (some 15, 0), (some 2, 0)], [7, 8]))
theorem pe112_6 {PT : PTy} (hp : HP6 PT) : PT 112 = P_peX := hp.2.2.2.2.2.2.1
set_option maxRecDepth 20000 in
theorem v_xo_person_0_0 {PT : PTy} (hp : HP6 PT) : vcOk PT w_xo_person_0_0 := vc_iv [(2, 0, 8), (14, (-2147483648), (-1)), (15, (-2147483648), 2147483647)] [7, 8] (by decide +kernel) (fun ρ α => by
  intro r2 g2 b2 r14 g14 b14 r15 g15 b15 a7 h7 a8 h8 f0 f1 tt
  clear f0 f1
  have e112 : PT 112 = P_peX := pe112_6 hp
  simp only [hFp_112, e112, P_peX, den_s, den_c, Int.add_zero, List.map_cons, List.map_nil, g2.eq, g14.eq, g15.eq, h7, h8] at ⊢
  ((repeat' (first | apply And.intro | intro h)) <;> first | omega | rfl | trivial | (exfalso; omega)))
def w_xo_person_0_1 : VC := ((bT ++ [(0, 2147483647), ((-2147483648), 2147483647)]), [(0, [(none, 0), (none, 0)], []), (3, [(some 14, 0), (some 2, 0)], []), (3, [(some 14, 0), (none, 0)], [])], (112, [(none, (-2)), (some 14, 0), (some 15, 0), (some 2, 0)], [7, 8]))
set_option maxRecDepth 20000 in
theorem v_xo_person_0_1 {PT : PTy} (hp : HP6 PT) : vcOk PT w_xo_person_0_1 := vc_iv [(2, 0, 8), (14, 0, 2147483647), (15, (-2147483648), 2147483647)] [7, 8] (by decide +kernel) (fun ρ α => by
  intro r2 g2 b2 r14 g14 b14 r15 g15 b15 a7 h7 a8 h8 f0 f1 f2 tt
  clear f0 f2
  have e112 : PT 112 = P_peX := pe112_6 hp
  simp only [hF3, hFp_112, e112, P_peX, den_s, den_c, Int.add_zero, List.map_cons, List.map_nil, g2.eq, g14.eq, g15.eq, h7, h8] at f1 ⊢
  ((repeat' (first | apply And.intro | intro h)) <;> first | omega | rfl | trivial | (exfalso; omega)))
def w_xo_person_0_2 : VC := (([(0, 23), (0, 49), (1, 8), (0, 10), (0, 8), (0, 6), (0, 6), (0, 8), (0, 9), (0, 49), (0, 49), ((-2147483648), 2147483647), ((-2147483648), 2147483647), (0, 5), (0, 7), ((-2147483648), (-1))]), [(0, [(none, 0), (none, 0)], []), (2, [(some 15, 0), (none, 0)], []), (1, [(none, 1), (none, 0)], []), (2, [(some 14, 0), (some 2, 0)], []), (3, [(some 14, 0), (none, 0)], [])], (112, [(none, (-2)), (some 14, 0), (some 15, 0), (some 2, 0)], [7, 8]))
set_option maxRecDepth 20000 in
theorem v_xo_person_0_2 {PT : PTy} (hp : HP6 PT) : vcOk PT w_xo_person_0_2 := vc_iv [(2, 1, 8), (14, 0, 7), (15, (-2147483648), (-1))] [7, 8] (by decide +kernel) (fun ρ α => by
  intro r2 g2 b2 r14 g14 b14 r15 g15 b15 a7 h7 a8 h8 f0 f1 f2 f3 f4 tt
  clear f0 f1 f2 f4
  have e112 : PT 112 = P_peX := pe112_6 hp
  simp only [hF2, hFp_112, e112, P_peX, den_s, den_c, Int.add_zero, List.map_cons, List.map_nil, g2.eq, g14.eq, g15.eq, h7, h8] at f3 ⊢
  ((repeat' (first | apply And.intro | intro h)) <;> first | omega | rfl | trivial | (exfalso; omega)))
def w_xo_person_0_3 : VC := (([(0, 23), (0, 49), (1, 8), (0, 10), (0, 8), (0, 6), (0, 6), (0, 8), (0, 9), (0, 49), (0, 49), ((-2147483648), 2147483647), ((-2147483648), 2147483647), (0, 5), (0, 7), (2, 2147483647)]), [(0, [(none, 0), (none, 0)], []), (2, [(none, 1), (some 15, 0)], []), (3, [(some 15, 0), (none, 0)], []), (1, [(none, 1), (none, 0)], []), (2, [(some 14, 0), (some 2, 0)], []), (3, [(some 14, 0), (none, 0)], [])], (112, [(none, (-2)), (some 14, 0), (some 15, 0), (some 2, 0)], [7, 8]))
set_option maxRecDepth 20000 in
theorem v_xo_person_0_3 {PT : PTy} (hp : HP6 PT) : vcOk PT w_xo_person_0_3 := vc_iv [(2, 1, 8), (14, 0, 7), (15, 2, 2147483647)] [7, 8] (by decide +kernel) (fun ρ α => by
  intro r2 g2 b2 r14 g14 b14 r15 g15 b15 a7 h7 a8 h8 f0 f1 f2 f3 f4 f5 tt
  clear f0 f1 f2 f3 f5
  have e112 : PT 112 = P_peX := pe112_6 hp
  simp only [hF2, hFp_112, e112, P_peX, den_s, den_c, Int.add_zero, List.map_cons, List.map_nil, g2.eq, g14.eq, g15.eq, h7, h8] at f4 ⊢
  ((repeat' (first | apply And.intro | intro h)) <;> first | omega | rfl | trivial | (exfalso; omega)))
def w_xo_person_0_4 : VC := (([(0, 23), (0, 49), (1, 8), (0, 10), (0, 8), (0, 6), (0, 6), (0, 8), (0, 9), (0, 49), (0, 49), ((-2147483648), 2147483647), ((-2147483648), 2147483647), (0, 5), (0, 7), (1, 1), (0, 9)]), [(20, [(some 16, 0), (some 14, 0)], [8]), (1, [(some 15, 0), (none, 0)], []), (1, [(none, 1), (none, 0)], []), (3, [(none, 1), (some 15, 0)], []), (3, [(some 15, 0), (none, 0)], []), (1, [(none, 1), (none, 0)], []), (2, [(some 14, 0), (some 2, 0)], []), (3, [(some 14, 0), (none, 0)], [])], (112, [(some 16, 0), (some 14, 0), (some 15, 0), (some 2, 0)], [7, 8]))
set_option maxRecDepth 20000 in
theorem v_xo_person_0_4 {PT : PTy} (hp : HP6 PT) : vcOk PT w_xo_person_0_4 := vc_iv [(2, 1, 8), (14, 0, 7), (15, 1, 1), (16, 0, 9)] [7, 8] (by decide +kernel) (fun ρ α => by
  intro r2 g2 b2 r14 g14 b14 r15 g15 b15 r16 g16 b16 a7 h7 a8 h8 f0 f1 f2 f3 f4 f5 f6 f7 tt
  clear f1 f2 f3 f4 f5 f7
  have e112 : PT 112 = P_peX := pe112_6 hp
  simp only [hF2, hF20, hFp_112, e112, P_peX, den_s, den_c, Int.add_zero, List.map_cons, List.map_nil, g2.eq, g14.eq, g15.eq, g16.eq, h7, h8] at f0 f6 ⊢
  subst f0
  ((repeat' (first | apply And.intro | intro h)) <;> first | omega | rfl | trivial | (exfalso; omega)))
def w_xo_person_0_5 : VC := (([(0, 23), (0, 49), (1, 8), (0, 10), (0, 8), (0, 6), (0, 6), (0, 8), (0, 9), (0, 49), (0, 49), ((-2147483648), 2147483647), ((-2147483648), 2147483647), (0, 5), (0, 7), (0, 0), (0, 2)]), [(20, [(some 16, 0), (some 14, 0)], [7]), (0, [(some 15, 0), (none, 0)], []), (1, [(none, 1), (none, 0)], []), (3, [(none, 1), (some 15, 0)], []), (3, [(some 15, 0), (none, 0)], []), (1, [(none, 1), (none, 0)], []), (2, [(some 14, 0), (some 2, 0)], []), (3, [(some 14, 0), (none, 0)], [])], (112, [(some 16, 0), (some 14, 0), (some 15, 0), (some 2, 0)], [7, 8]))
set_option maxRecDepth 20000 in
theorem v_xo_person_0_5 {PT : PTy} (hp : HP6 PT) : vcOk PT w_xo_person_0_5 := vc_iv [(2, 1, 8), (14, 0, 7), (15, 0, 0), (16, 0, 2)] [7, 8] (by decide +kernel) (fun ρ α => by
  intro r2 g2 b2 r14 g14 b14 r15 g15 b15 r16 g16 b16 a7 h7 a8 h8 f0 f1 f2 f3 f4 f5 f6 f7 tt
  clear f2 f3 f4 f5 f7
  have e112 : PT 112 = P_peX := pe112_6 hp
  simp only [hF0, hF2, hF20, hFp_112, e112, P_peX, den_s, den_c, Int.add_zero, List.map_cons, List.map_nil, g2.eq, g14.eq, g15.eq, g16.eq, h7, h8] at f0 f1 f6 ⊢
  subst f0
  ((repeat' (first | apply And.intro | intro h)) <;> first | omega | rfl | trivial | (exfalso; omega)))
set_option maxRecDepth 1000000 in
theorem k_xo_person {PT : PTy} (hp : HP6 PT) : wfX c_xo_person = true ∧ xcOk PT c_xo_person := xctr (xl0) c_xo_person 55 mX6_person rfl h_xo_person (by decide +kernel) (by decide +kernel) (by decide) (vcs_by [w_xo_person_0_0, w_xo_person_0_1, w_xo_person_0_2, w_xo_person_0_3, w_xo_person_0_4, w_xo_person_0_5] (by decide +kernel) (vc (v_xo_person_0_0 hp) (vc (v_xo_person_0_1 hp) (vc (v_xo_person_0_2 hp) (vc (v_xo_person_0_3 hp) (vc (v_xo_person_0_4 hp) (vc (v_xo_person_0_5 hp) vn))))))) fmn
def c_xo_promise : XC := (48, 1, (bT ++ [((-2147483648), 2147483647), ((-2147483648), 2147483647)]), [.inr (.inl 0), .inl (some 14, 0), .inl (some 15, 0)], (gX 999), [], [((bT ++ [((-2147483648), 2147483647), ((-2147483648), 2147483647), ((-2), 23)]), some (.inl (some 16, 0)), (gX 999), (List.range 58), 58, [(113, [(some 16, 0), (some 14, 0), (some 15, 0), (some 3, 0)], [10, 11, 12, 13])])])
def h_xo_promise : List XH := []
def w_xo_promise_0_0 : VC := ((bT ++ [((-2147483648), (-1)), ((-2147483648), 2147483647)]), [(0, [(none, 0), (none, 0)], []), (2, [(some 14, 0), (none, 0)], [])], (113, [(none, (-2)), (some 14, 0), (some 15, 0), (some 3, 0)], [10, 11, 12, 13]))
theorem pe113_6 {PT : PTy} (hp : HP6 PT) : PT 113 = P_prX := hp.2.2.2.2.2.2.2.1
set_option maxRecDepth 20000 in
theorem v_xo_promise_0_0 {PT : PTy} (hp : HP6 PT) : vcOk PT w_xo_promise_0_0 := vc_iv [(3, 0, 10), (14, (-2147483648), (-1)), (15, (-2147483648), 2147483647)] [10, 11, 12, 13] (by decide +kernel) (fun ρ α => by
  intro r3 g3 b3 r14 g14 b14 r15 g15 b15 a10 h10 a11 h11 a12 h12 a13 h13 f0 f1 tt
  clear f0 f1
  have e113 : PT 113 = P_prX := pe113_6 hp
  simp only [hFp_113, e113, P_prX, den_s, den_c, Int.add_zero, List.map_cons, List.map_nil, g3.eq, g14.eq, g15.eq, h10, h11, h12, h13] at ⊢
  ((repeat' (first | apply And.intro | intro h)) <;> first | omega | rfl | trivial | (exfalso; omega)))
def w_xo_promise_0_1 : VC := ((bT ++ [(0, 2147483647), ((-2147483648), 2147483647)]), [(0, [(none, 0), (none, 0)], []), (3, [(some 14, 0), (some 3, 0)], []), (3, [(some 14, 0), (none, 0)], [])], (113, [(none, (-2)), (some 14, 0), (some 15, 0), (some 3, 0)], [10, 11, 12, 13]))
set_option maxRecDepth 20000 in
theorem v_xo_promise_0_1 {PT : PTy} (hp : HP6 PT) : vcOk PT w_xo_promise_0_1 := vc_iv [(3, 0, 10), (14, 0, 2147483647), (15, (-2147483648), 2147483647)] [10, 11, 12, 13] (by decide +kernel) (fun ρ α => by
  intro r3 g3 b3 r14 g14 b14 r15 g15 b15 a10 h10 a11 h11 a12 h12 a13 h13 f0 f1 f2 tt
  clear f0 f2
  have e113 : PT 113 = P_prX := pe113_6 hp
  simp only [hF3, hFp_113, e113, P_prX, den_s, den_c, Int.add_zero, List.map_cons, List.map_nil, g3.eq, g14.eq, g15.eq, h10, h11, h12, h13] at f1 ⊢
  ((repeat' (first | apply And.intro | intro h)) <;> first | omega | rfl | trivial | (exfalso; omega)))
def w_xo_promise_0_2 : VC := (([(0, 23), (0, 49), (0, 8), (1, 10), (0, 8), (0, 6), (0, 6), (0, 8), (0, 9), (0, 49), (0, 49), ((-2147483648), 2147483647), ((-2147483648), 2147483647), (0, 5), (0, 9), ((-2147483648), (-1))]), [(0, [(none, 0), (none, 0)], []), (2, [(some 15, 0), (none, 0)], []), (1, [(none, 1), (none, 0)], []), (2, [(some 14, 0), (some 3, 0)], []), (3, [(some 14, 0), (none, 0)], [])], (113, [(none, (-2)), (some 14, 0), (some 15, 0), (some 3, 0)], [10, 11, 12, 13]))
set_option maxRecDepth 20000 in
theorem v_xo_promise_0_2 {PT : PTy} (hp : HP6 PT) : vcOk PT w_xo_promise_0_2 := vc_iv [(3, 1, 10), (14, 0, 9), (15, (-2147483648), (-1))] [10, 11, 12, 13] (by decide +kernel) (fun ρ α => by
  intro r3 g3 b3 r14 g14 b14 r15 g15 b15 a10 h10 a11 h11 a12 h12 a13 h13 f0 f1 f2 f3 f4 tt
  clear f0 f1 f2 f4
  have e113 : PT 113 = P_prX := pe113_6 hp
  simp only [hF2, hFp_113, e113, P_prX, den_s, den_c, Int.add_zero, List.map_cons, List.map_nil, g3.eq, g14.eq, g15.eq, h10, h11, h12, h13] at f3 ⊢
  ((repeat' (first | apply And.intro | intro h)) <;> first | omega | rfl | trivial | (exfalso; omega)))
def w_xo_promise_0_3 : VC := (([(0, 23), (0, 49), (0, 8), (1, 10), (0, 8), (0, 6), (0, 6), (0, 8), (0, 9), (0, 49), (0, 49), ((-2147483648), 2147483647), ((-2147483648), 2147483647), (0, 5), (0, 9), (4, 2147483647)]), [(0, [(none, 0), (none, 0)], []), (2, [(none, 3), (some 15, 0)], []), (3, [(some 15, 0), (none, 0)], []), (1, [(none, 1), (none, 0)], []), (2, [(some 14, 0), (some 3, 0)], []), (3, [(some 14, 0), (none, 0)], [])], (113, [(none, (-2)), (some 14, 0), (some 15, 0), (some 3, 0)], [10, 11, 12, 13]))
set_option maxRecDepth 20000 in
theorem v_xo_promise_0_3 {PT : PTy} (hp : HP6 PT) : vcOk PT w_xo_promise_0_3 := vc_iv [(3, 1, 10), (14, 0, 9), (15, 4, 2147483647)] [10, 11, 12, 13] (by decide +kernel) (fun ρ α => by
  intro r3 g3 b3 r14 g14 b14 r15 g15 b15 a10 h10 a11 h11 a12 h12 a13 h13 f0 f1 f2 f3 f4 f5 tt
  clear f0 f1 f2 f3 f5
  have e113 : PT 113 = P_prX := pe113_6 hp
  simp only [hF2, hFp_113, e113, P_prX, den_s, den_c, Int.add_zero, List.map_cons, List.map_nil, g3.eq, g14.eq, g15.eq, h10, h11, h12, h13] at f4 ⊢
  ((repeat' (first | apply And.intro | intro h)) <;> first | omega | rfl | trivial | (exfalso; omega)))
def w_xo_promise_0_4 : VC := (([(0, 23), (0, 49), (0, 8), (1, 10), (0, 8), (0, 6), (0, 6), (0, 8), (0, 9), (0, 49), (0, 49), ((-2147483648), 2147483647), ((-2147483648), 2147483647), (0, 5), (0, 9), (0, 3), ((-1), 23)]), [(20, [(some 16, 0), (some 14, 0)], [13]), (25, [(some 15, 0), (none, 0), (none, 2)], []), (1, [(none, 1), (none, 0)], []), (3, [(none, 3), (some 15, 0)], []), (3, [(some 15, 0), (none, 0)], []), (1, [(none, 1), (none, 0)], []), (2, [(some 14, 0), (some 3, 0)], []), (3, [(some 14, 0), (none, 0)], [])], (113, [(some 16, 0), (some 14, 0), (some 15, 0), (some 3, 0)], [10, 11, 12, 13]))
set_option maxRecDepth 20000 in
theorem v_xo_promise_0_4 {PT : PTy} (hp : HP6 PT) : vcOk PT w_xo_promise_0_4 := vc_iv [(3, 1, 10), (14, 0, 9), (15, 0, 3), (16, (-1), 23)] [10, 11, 12, 13] (by decide +kernel) (fun ρ α => by
  intro r3 g3 b3 r14 g14 b14 r15 g15 b15 r16 g16 b16 a10 h10 a11 h11 a12 h12 a13 h13 f0 f1 f2 f3 f4 f5 f6 f7 tt
  clear f2 f3 f4 f5 f7
  have e113 : PT 113 = P_prX := pe113_6 hp
  simp only [hF2, hF20, hF25, hFp_113, e113, P_prX, den_s, den_c, Int.add_zero, List.map_cons, List.map_nil, g3.eq, g14.eq, g15.eq, g16.eq, h10, h11, h12, h13] at f0 f1 f6 ⊢
  subst f0
  ((repeat' (first | apply And.intro | intro h)) <;> first | omega | rfl | trivial | (exfalso; omega)))
def w_xo_promise_0_5 : VC := (([(0, 23), (0, 49), (0, 8), (1, 10), (0, 8), (0, 6), (0, 6), (0, 8), (0, 9), (0, 49), (0, 49), ((-2147483648), 2147483647), ((-2147483648), 2147483647), (0, 5), (0, 9), (0, 0), (0, 7)]), [(20, [(some 16, 0), (some 14, 0)], [10]), (0, [(some 15, 0), (none, 0)], []), (1, [(none, 1), (none, 0)], []), (3, [(none, 3), (some 15, 0)], []), (3, [(some 15, 0), (none, 0)], []), (1, [(none, 1), (none, 0)], []), (2, [(some 14, 0), (some 3, 0)], []), (3, [(some 14, 0), (none, 0)], [])], (113, [(some 16, 0), (some 14, 0), (some 15, 0), (some 3, 0)], [10, 11, 12, 13]))
set_option maxRecDepth 20000 in
theorem v_xo_promise_0_5 {PT : PTy} (hp : HP6 PT) : vcOk PT w_xo_promise_0_5 := vc_iv [(3, 1, 10), (14, 0, 9), (15, 0, 0), (16, 0, 7)] [10, 11, 12, 13] (by decide +kernel) (fun ρ α => by
  intro r3 g3 b3 r14 g14 b14 r15 g15 b15 r16 g16 b16 a10 h10 a11 h11 a12 h12 a13 h13 f0 f1 f2 f3 f4 f5 f6 f7 tt
  clear f2 f3 f4 f5 f7
  have e113 : PT 113 = P_prX := pe113_6 hp
  simp only [hF0, hF2, hF20, hFp_113, e113, P_prX, den_s, den_c, Int.add_zero, List.map_cons, List.map_nil, g3.eq, g14.eq, g15.eq, g16.eq, h10, h11, h12, h13] at f0 f1 f6 ⊢
  subst f0
  ((repeat' (first | apply And.intro | intro h)) <;> first | omega | rfl | trivial | (exfalso; omega)))
def w_xo_promise_0_6 : VC := (([(0, 23), (0, 49), (0, 8), (1, 10), (0, 8), (0, 6), (0, 6), (0, 8), (0, 9), (0, 49), (0, 49), ((-2147483648), 2147483647), ((-2147483648), 2147483647), (0, 5), (0, 9), (1, 1), (0, 9)]), [(20, [(some 16, 0), (some 14, 0)], [11]), (0, [(some 15, 0), (none, 1)], []), (1, [(none, 1), (none, 0)], []), (3, [(none, 3), (some 15, 0)], []), (3, [(some 15, 0), (none, 0)], []), (1, [(none, 1), (none, 0)], []), (2, [(some 14, 0), (some 3, 0)], []), (3, [(some 14, 0), (none, 0)], [])], (113, [(some 16, 0), (some 14, 0), (some 15, 0), (some 3, 0)], [10, 11, 12, 13]))
set_option maxRecDepth 20000 in
theorem v_xo_promise_0_6 {PT : PTy} (hp : HP6 PT) : vcOk PT w_xo_promise_0_6 := vc_iv [(3, 1, 10), (14, 0, 9), (15, 1, 1), (16, 0, 9)] [10, 11, 12, 13] (by decide +kernel) (fun ρ α => by
  intro r3 g3 b3 r14 g14 b14 r15 g15 b15 r16 g16 b16 a10 h10 a11 h11 a12 h12 a13 h13 f0 f1 f2 f3 f4 f5 f6 f7 tt
  clear f2 f3 f4 f5 f7
  have e113 : PT 113 = P_prX := pe113_6 hp
  simp only [hF0, hF2, hF20, hFp_113, e113, P_prX, den_s, den_c, Int.add_zero, List.map_cons, List.map_nil, g3.eq, g14.eq, g15.eq, g16.eq, h10, h11, h12, h13] at f0 f1 f6 ⊢
  subst f0
  ((repeat' (first | apply And.intro | intro h)) <;> first | omega | rfl | trivial | (exfalso; omega)))
def w_xo_promise_0_7 : VC := (([(0, 23), (0, 49), (0, 8), (1, 10), (0, 8), (0, 6), (0, 6), (0, 8), (0, 9), (0, 49), (0, 49), ((-2147483648), 2147483647), ((-2147483648), 2147483647), (0, 5), (0, 9), (2, 2), (0, 23)]), [(20, [(some 16, 0), (some 14, 0)], [12]), (0, [(some 15, 0), (none, 2)], []), (1, [(none, 1), (none, 0)], []), (3, [(none, 3), (some 15, 0)], []), (3, [(some 15, 0), (none, 0)], []), (1, [(none, 1), (none, 0)], []), (2, [(some 14, 0), (some 3, 0)], []), (3, [(some 14, 0), (none, 0)], [])], (113, [(some 16, 0), (some 14, 0), (some 15, 0), (some 3, 0)], [10, 11, 12, 13]))
set_option maxRecDepth 20000 in
theorem v_xo_promise_0_7 {PT : PTy} (hp : HP6 PT) : vcOk PT w_xo_promise_0_7 := vc_iv [(3, 1, 10), (14, 0, 9), (15, 2, 2), (16, 0, 23)] [10, 11, 12, 13] (by decide +kernel) (fun ρ α => by
  intro r3 g3 b3 r14 g14 b14 r15 g15 b15 r16 g16 b16 a10 h10 a11 h11 a12 h12 a13 h13 f0 f1 f2 f3 f4 f5 f6 f7 tt
  clear f2 f3 f4 f5 f7
  have e113 : PT 113 = P_prX := pe113_6 hp
  simp only [hF0, hF2, hF20, hFp_113, e113, P_prX, den_s, den_c, Int.add_zero, List.map_cons, List.map_nil, g3.eq, g14.eq, g15.eq, g16.eq, h10, h11, h12, h13] at f0 f1 f6 ⊢
  subst f0
  ((repeat' (first | apply And.intro | intro h)) <;> first | omega | rfl | trivial | (exfalso; omega)))
set_option maxRecDepth 1000000 in
theorem k_xo_promise {PT : PTy} (hp : HP6 PT) : wfX c_xo_promise = true ∧ xcOk PT c_xo_promise := xctr (xl0) c_xo_promise 54 mX6_promise rfl h_xo_promise (by decide +kernel) (by decide +kernel) (by decide) (vcs_by [w_xo_promise_0_0, w_xo_promise_0_1, w_xo_promise_0_2, w_xo_promise_0_3, w_xo_promise_0_4, w_xo_promise_0_5, w_xo_promise_0_6, w_xo_promise_0_7] (by decide +kernel) (vc (v_xo_promise_0_0 hp) (vc (v_xo_promise_0_1 hp) (vc (v_xo_promise_0_2 hp) (vc (v_xo_promise_0_3 hp) (vc (v_xo_promise_0_4 hp) (vc (v_xo_promise_0_5 hp) (vc (v_xo_promise_0_6 hp) (vc (v_xo_promise_0_7 hp) vn))))))))) fmn
def c_xo_keeping : XC := (49, 3, (bT ++ [((-2147483648), 2147483647), ((-2147483648), 2147483647)]), [.inr (.inl 0), .inl (some 14, 0), .inl (some 15, 0)], (gX 999), [], [((bT ++ [((-2147483648), 2147483647), ((-2147483648), 2147483647), ((-4), 8), (0, 8)]), some (.inl (some 16, 0)), (hst (gX 999) [(14, .inr (.inr (.inr (4, [.inr (.inl 15), .inr (.inl 16), .inr (.inl 17), .inl (none, 8), .inl (some 17, 0)]))))]), (ansT 58 [(15, 58), (16, 59), (17, 60)]), 61, [(114, [(some 16, 0), (some 14, 0), (some 15, 0), (some 4, 0), (some 17, 0)], [15, 16, 58, 59])])])
def h_xo_keeping : List XH := []
def w_xo_keeping_0_0 : VC := ((bT ++ [((-2147483648), (-1)), ((-2147483648), 2147483647)]), [(0, [(none, 0), (none, 0)], []), (0, [(none, 0), (none, 0)], []), (2, [(some 14, 0), (none, 0)], [])], (114, [(none, (-2)), (some 14, 0), (some 15, 0), (some 4, 0), (some 4, 0)], [15, 16, 15, 16]))
theorem pe114_6 {PT : PTy} (hp : HP6 PT) : PT 114 = P_kgA := hp.2.2.2.2.2.2.2.2.1
set_option maxRecDepth 20000 in
theorem v_xo_keeping_0_0 {PT : PTy} (hp : HP6 PT) : vcOk PT w_xo_keeping_0_0 := vc_iv [(4, 0, 8), (14, (-2147483648), (-1)), (15, (-2147483648), 2147483647)] [15, 16] (by decide +kernel) (fun ρ α => by
  intro r4 g4 b4 r14 g14 b14 r15 g15 b15 a15 h15 a16 h16 f0 f1 f2 tt
  clear f0 f1 f2
  have e114 : PT 114 = P_kgA := pe114_6 hp
  simp only [hFp_114, e114, P_kgA, den_s, den_c, Int.add_zero, List.map_cons, List.map_nil, g4.eq, g14.eq, g15.eq, h15, h16] at ⊢
  ((repeat' (first | apply And.intro | intro h)) <;> first | omega | rfl | trivial | (exfalso; omega)))
def w_xo_keeping_0_1 : VC := ((bT ++ [(24, 2147483647), ((-2147483648), 2147483647)]), [(0, [(none, 0), (none, 0)], []), (0, [(none, 0), (none, 0)], []), (2, [(none, 23), (some 14, 0)], []), (3, [(some 14, 0), (none, 0)], [])], (114, [(none, (-2)), (some 14, 0), (some 15, 0), (some 4, 0), (some 4, 0)], [15, 16, 15, 16]))
set_option maxRecDepth 20000 in
theorem v_xo_keeping_0_1 {PT : PTy} (hp : HP6 PT) : vcOk PT w_xo_keeping_0_1 := vc_iv [(4, 0, 8), (14, 24, 2147483647), (15, (-2147483648), 2147483647)] [15, 16] (by decide +kernel) (fun ρ α => by
  intro r4 g4 b4 r14 g14 b14 r15 g15 b15 a15 h15 a16 h16 f0 f1 f2 f3 tt
  clear f0 f1 f2 f3
  have e114 : PT 114 = P_kgA := pe114_6 hp
  simp only [hFp_114, e114, P_kgA, den_s, den_c, Int.add_zero, List.map_cons, List.map_nil, g4.eq, g14.eq, g15.eq, h15, h16] at ⊢
  ((repeat' (first | apply And.intro | intro h)) <;> first | omega | rfl | trivial | (exfalso; omega)))
def w_xo_keeping_0_2 : VC := ((bT ++ [(0, 23), ((-2147483648), (-1))]), [(0, [(none, 0), (none, 0)], []), (0, [(none, 0), (none, 0)], []), (2, [(some 15, 0), (none, 0)], []), (1, [(none, 1), (none, 0)], []), (3, [(none, 23), (some 14, 0)], []), (3, [(some 14, 0), (none, 0)], [])], (114, [(none, (-2)), (some 14, 0), (some 15, 0), (some 4, 0), (some 4, 0)], [15, 16, 15, 16]))
set_option maxRecDepth 20000 in
theorem v_xo_keeping_0_2 {PT : PTy} (hp : HP6 PT) : vcOk PT w_xo_keeping_0_2 := vc_iv [(4, 0, 8), (14, 0, 23), (15, (-2147483648), (-1))] [15, 16] (by decide +kernel) (fun ρ α => by
  intro r4 g4 b4 r14 g14 b14 r15 g15 b15 a15 h15 a16 h16 f0 f1 f2 f3 f4 f5 tt
  clear f0 f1 f2 f3 f4 f5
  have e114 : PT 114 = P_kgA := pe114_6 hp
  simp only [hFp_114, e114, P_kgA, den_s, den_c, Int.add_zero, List.map_cons, List.map_nil, g4.eq, g14.eq, g15.eq, h15, h16] at ⊢
  ((repeat' (first | apply And.intro | intro h)) <;> first | omega | rfl | trivial | (exfalso; omega)))
def w_xo_keeping_0_3 : VC := ((bT ++ [(0, 23), (10, 2147483647)]), [(0, [(none, 0), (none, 0)], []), (0, [(none, 0), (none, 0)], []), (2, [(none, 9), (some 15, 0)], []), (3, [(some 15, 0), (none, 0)], []), (1, [(none, 1), (none, 0)], []), (3, [(none, 23), (some 14, 0)], []), (3, [(some 14, 0), (none, 0)], [])], (114, [(none, (-2)), (some 14, 0), (some 15, 0), (some 4, 0), (some 4, 0)], [15, 16, 15, 16]))
set_option maxRecDepth 20000 in
theorem v_xo_keeping_0_3 {PT : PTy} (hp : HP6 PT) : vcOk PT w_xo_keeping_0_3 := vc_iv [(4, 0, 8), (14, 0, 23), (15, 10, 2147483647)] [15, 16] (by decide +kernel) (fun ρ α => by
  intro r4 g4 b4 r14 g14 b14 r15 g15 b15 a15 h15 a16 h16 f0 f1 f2 f3 f4 f5 f6 tt
  clear f0 f1 f2 f3 f4 f5 f6
  have e114 : PT 114 = P_kgA := pe114_6 hp
  simp only [hFp_114, e114, P_kgA, den_s, den_c, Int.add_zero, List.map_cons, List.map_nil, g4.eq, g14.eq, g15.eq, h15, h16] at ⊢
  ((repeat' (first | apply And.intro | intro h)) <;> first | omega | rfl | trivial | (exfalso; omega)))
def w_xo_keeping_0_4 : VC := (([(0, 23), (0, 49), (0, 8), (0, 10), (0, 7), (0, 6), (0, 6), (0, 8), (0, 9), (0, 49), (0, 49), ((-2147483648), 2147483647), ((-2147483648), 2147483647), (0, 5), (0, 23), (0, 9)]), [(21, [(some 4, 0), (none, 0)], [60, 17]), (21, [(some 4, 0), (some 15, 0)], [59, 16]), (21, [(some 4, 0), (some 14, 0)], [58, 15]), (2, [(some 4, 0), (none, 9)], []), (0, [(none, 0), (none, 0)], []), (2, [(some 4, 0), (none, 8)], []), (1, [(none, 1), (none, 0)], []), (1, [(none, 1), (none, 0)], []), (3, [(none, 9), (some 15, 0)], []), (3, [(some 15, 0), (none, 0)], []), (1, [(none, 1), (none, 0)], []), (3, [(none, 23), (some 14, 0)], []), (3, [(some 14, 0), (none, 0)], [])], (114, [(some 4, 1), (some 14, 0), (some 15, 0), (some 4, 0), (some 4, 1)], [15, 16, 58, 59]))
set_option maxRecDepth 20000 in
theorem v_xo_keeping_0_4 {PT : PTy} (hp : HP6 PT) : vcOk PT w_xo_keeping_0_4 := vc_iv [(4, 0, 7), (14, 0, 23), (15, 0, 9)] [15, 16, 17, 58, 59, 60] (by decide +kernel) (fun ρ α => by
  intro r4 g4 b4 r14 g14 b14 r15 g15 b15 a15 h15 a16 h16 a17 h17 a58 h58 a59 h59 a60 h60 f0 f1 f2 f3 f4 f5 f6 f7 f8 f9 f10 f11 f12 tt
  clear f3 f4 f5 f6 f7 f8 f9 f10 f11 f12
  have e114 : PT 114 = P_kgA := pe114_6 hp
  simp only [hF21, hFp_114, e114, P_kgA, den_s, den_c, Int.add_zero, List.map_cons, List.map_nil, g4.eq, g14.eq, g15.eq, h15, h16, h17, h58, h59, h60] at f0 f1 f2 ⊢
  subst f0
  subst f1
  subst f2
  ((repeat' (first | apply And.intro | intro h)) <;> first | omega | rfl | trivial | (exfalso; omega)))
def w_xo_keeping_0_5 : VC := (([(0, 23), (0, 49), (0, 8), (0, 10), (8, 8), (0, 6), (0, 6), (0, 8), (0, 9), (0, 49), (0, 49), ((-2147483648), 2147483647), ((-2147483648), 2147483647), (0, 5), (0, 23), (0, 9)]), [(1, [(none, 1), (none, 0)], []), (3, [(some 4, 0), (none, 8)], []), (1, [(none, 1), (none, 0)], []), (1, [(none, 1), (none, 0)], []), (3, [(none, 9), (some 15, 0)], []), (3, [(some 15, 0), (none, 0)], []), (1, [(none, 1), (none, 0)], []), (3, [(none, 23), (some 14, 0)], []), (3, [(some 14, 0), (none, 0)], [])], (114, [(none, (-4)), (some 14, 0), (some 15, 0), (some 4, 0), (some 4, 0)], [15, 16, 15, 16]))
set_option maxRecDepth 20000 in
theorem v_xo_keeping_0_5 {PT : PTy} (hp : HP6 PT) : vcOk PT w_xo_keeping_0_5 := vc_iv [(4, 8, 8), (14, 0, 23), (15, 0, 9)] [15, 16] (by decide +kernel) (fun ρ α => by
  intro r4 g4 b4 r14 g14 b14 r15 g15 b15 a15 h15 a16 h16 f0 f1 f2 f3 f4 f5 f6 f7 f8 tt
  clear f0 f1 f2 f3 f4 f5 f6 f7 f8
  have e114 : PT 114 = P_kgA := pe114_6 hp
  simp only [hFp_114, e114, P_kgA, den_s, den_c, Int.add_zero, List.map_cons, List.map_nil, g4.eq, g14.eq, g15.eq, h15, h16] at ⊢
  ((repeat' (first | apply And.intro | intro h)) <;> first | omega | rfl | trivial | (exfalso; omega)))
set_option maxRecDepth 1000000 in
theorem k_xo_keeping {PT : PTy} (hp : HP6 PT) : wfX c_xo_keeping = true ∧ xcOk PT c_xo_keeping := xctr (xl0) c_xo_keeping 103 mX6_keeping rfl h_xo_keeping (by decide +kernel) (by decide +kernel) (by decide) (vcs_by [w_xo_keeping_0_0, w_xo_keeping_0_1, w_xo_keeping_0_2, w_xo_keeping_0_3, w_xo_keeping_0_4, w_xo_keeping_0_5] (by decide +kernel) (vc (v_xo_keeping_0_0 hp) (vc (v_xo_keeping_0_1 hp) (vc (v_xo_keeping_0_2 hp) (vc (v_xo_keeping_0_3 hp) (vc (v_xo_keeping_0_4 hp) (vc (v_xo_keeping_0_5 hp) vn))))))) fmn
def c_xo_lie : XC := (50, 2, (bT ++ [((-2147483648), 2147483647), ((-2147483648), 2147483647), ((-2147483648), 2147483647)]), [.inr (.inl 0), .inl (some 14, 0), .inl (some 15, 0), .inl (some 16, 0)], (gX 999), [], [((bT ++ [((-2147483648), 2147483647), ((-2147483648), 2147483647), ((-2147483648), 2147483647), ((-4), 6), (0, 6)]), some (.inl (some 17, 0)), (hst (gX 999) [(18, .inr (.inr (.inr (4, [.inr (.inl 19), .inr (.inl 20), .inr (.inl 21), .inl (none, 6), .inl (some 18, 0)]))))]), (ansT 58 [(19, 58), (20, 59), (21, 60)]), 61, [(115, [(some 17, 0), (some 14, 0), (some 15, 0), (some 16, 0), (some 5, 0), (some 18, 0)], [19, 20, 21, 58, 59, 60])])])
def h_xo_lie : List XH := []
def w_xo_lie_0_0 : VC := ((bT ++ [((-2147483648), (-1)), ((-2147483648), 2147483647), ((-2147483648), 2147483647)]), [(0, [(none, 0), (none, 0)], []), (2, [(some 14, 0), (none, 0)], [])], (115, [(none, (-2)), (some 14, 0), (some 15, 0), (some 16, 0), (some 5, 0), (some 5, 0)], [19, 20, 21, 19, 20, 21]))
theorem pe115_6 {PT : PTy} (hp : HP6 PT) : PT 115 = P_tlA := hp.2.2.2.2.2.2.2.2.2.1
set_option maxRecDepth 20000 in
theorem v_xo_lie_0_0 {PT : PTy} (hp : HP6 PT) : vcOk PT w_xo_lie_0_0 := vc_iv [(5, 0, 6), (14, (-2147483648), (-1)), (15, (-2147483648), 2147483647), (16, (-2147483648), 2147483647)] [19, 20, 21] (by decide +kernel) (fun ρ α => by
  intro r5 g5 b5 r14 g14 b14 r15 g15 b15 r16 g16 b16 a19 h19 a20 h20 a21 h21 f0 f1 tt
  clear f0 f1
  have e115 : PT 115 = P_tlA := pe115_6 hp
  simp only [hFp_115, e115, P_tlA, den_s, den_c, Int.add_zero, List.map_cons, List.map_nil, g5.eq, g14.eq, g15.eq, g16.eq, h19, h20, h21] at ⊢
  ((repeat' (first | apply And.intro | intro h)) <;> first | omega | rfl | trivial | (exfalso; omega)))
def w_xo_lie_0_1 : VC := ((bT ++ [(24, 2147483647), ((-2147483648), 2147483647), ((-2147483648), 2147483647)]), [(0, [(none, 0), (none, 0)], []), (2, [(none, 23), (some 14, 0)], []), (3, [(some 14, 0), (none, 0)], [])], (115, [(none, (-2)), (some 14, 0), (some 15, 0), (some 16, 0), (some 5, 0), (some 5, 0)], [19, 20, 21, 19, 20, 21]))
set_option maxRecDepth 20000 in
theorem v_xo_lie_0_1 {PT : PTy} (hp : HP6 PT) : vcOk PT w_xo_lie_0_1 := vc_iv [(5, 0, 6), (14, 24, 2147483647), (15, (-2147483648), 2147483647), (16, (-2147483648), 2147483647)] [19, 20, 21] (by decide +kernel) (fun ρ α => by
  intro r5 g5 b5 r14 g14 b14 r15 g15 b15 r16 g16 b16 a19 h19 a20 h20 a21 h21 f0 f1 f2 tt
  clear f0 f1 f2
  have e115 : PT 115 = P_tlA := pe115_6 hp
  simp only [hFp_115, e115, P_tlA, den_s, den_c, Int.add_zero, List.map_cons, List.map_nil, g5.eq, g14.eq, g15.eq, g16.eq, h19, h20, h21] at ⊢
  ((repeat' (first | apply And.intro | intro h)) <;> first | omega | rfl | trivial | (exfalso; omega)))
def w_xo_lie_0_2 : VC := ((bT ++ [(0, 23), ((-2147483648), (-1)), ((-2147483648), 2147483647)]), [(0, [(none, 0), (none, 0)], []), (2, [(some 15, 0), (none, 0)], []), (1, [(none, 1), (none, 0)], []), (3, [(none, 23), (some 14, 0)], []), (3, [(some 14, 0), (none, 0)], [])], (115, [(none, (-2)), (some 14, 0), (some 15, 0), (some 16, 0), (some 5, 0), (some 5, 0)], [19, 20, 21, 19, 20, 21]))
set_option maxRecDepth 20000 in
theorem v_xo_lie_0_2 {PT : PTy} (hp : HP6 PT) : vcOk PT w_xo_lie_0_2 := vc_iv [(5, 0, 6), (14, 0, 23), (15, (-2147483648), (-1)), (16, (-2147483648), 2147483647)] [19, 20, 21] (by decide +kernel) (fun ρ α => by
  intro r5 g5 b5 r14 g14 b14 r15 g15 b15 r16 g16 b16 a19 h19 a20 h20 a21 h21 f0 f1 f2 f3 f4 tt
  clear f0 f1 f2 f3 f4
  have e115 : PT 115 = P_tlA := pe115_6 hp
  simp only [hFp_115, e115, P_tlA, den_s, den_c, Int.add_zero, List.map_cons, List.map_nil, g5.eq, g14.eq, g15.eq, g16.eq, h19, h20, h21] at ⊢
  ((repeat' (first | apply And.intro | intro h)) <;> first | omega | rfl | trivial | (exfalso; omega)))
def w_xo_lie_0_3 : VC := ((bT ++ [(0, 23), (8, 2147483647), ((-2147483648), 2147483647)]), [(0, [(none, 0), (none, 0)], []), (2, [(none, 7), (some 15, 0)], []), (3, [(some 15, 0), (none, 0)], []), (1, [(none, 1), (none, 0)], []), (3, [(none, 23), (some 14, 0)], []), (3, [(some 14, 0), (none, 0)], [])], (115, [(none, (-2)), (some 14, 0), (some 15, 0), (some 16, 0), (some 5, 0), (some 5, 0)], [19, 20, 21, 19, 20, 21]))
set_option maxRecDepth 20000 in
theorem v_xo_lie_0_3 {PT : PTy} (hp : HP6 PT) : vcOk PT w_xo_lie_0_3 := vc_iv [(5, 0, 6), (14, 0, 23), (15, 8, 2147483647), (16, (-2147483648), 2147483647)] [19, 20, 21] (by decide +kernel) (fun ρ α => by
  intro r5 g5 b5 r14 g14 b14 r15 g15 b15 r16 g16 b16 a19 h19 a20 h20 a21 h21 f0 f1 f2 f3 f4 f5 tt
  clear f0 f1 f2 f3 f4 f5
  have e115 : PT 115 = P_tlA := pe115_6 hp
  simp only [hFp_115, e115, P_tlA, den_s, den_c, Int.add_zero, List.map_cons, List.map_nil, g5.eq, g14.eq, g15.eq, g16.eq, h19, h20, h21] at ⊢
  ((repeat' (first | apply And.intro | intro h)) <;> first | omega | rfl | trivial | (exfalso; omega)))
def w_xo_lie_0_4 : VC := ((bT ++ [(0, 23), (0, 7), ((-2147483648), 0)]), [(0, [(none, 0), (none, 0)], []), (2, [(some 16, 0), (none, 1)], []), (1, [(none, 1), (none, 0)], []), (3, [(none, 7), (some 15, 0)], []), (3, [(some 15, 0), (none, 0)], []), (1, [(none, 1), (none, 0)], []), (3, [(none, 23), (some 14, 0)], []), (3, [(some 14, 0), (none, 0)], [])], (115, [(none, (-2)), (some 14, 0), (some 15, 0), (some 16, 0), (some 5, 0), (some 5, 0)], [19, 20, 21, 19, 20, 21]))
set_option maxRecDepth 20000 in
theorem v_xo_lie_0_4 {PT : PTy} (hp : HP6 PT) : vcOk PT w_xo_lie_0_4 := vc_iv [(5, 0, 6), (14, 0, 23), (15, 0, 7), (16, (-2147483648), 0)] [19, 20, 21] (by decide +kernel) (fun ρ α => by
  intro r5 g5 b5 r14 g14 b14 r15 g15 b15 r16 g16 b16 a19 h19 a20 h20 a21 h21 f0 f1 f2 f3 f4 f5 f6 f7 tt
  clear f0 f1 f2 f3 f4 f5 f6 f7
  have e115 : PT 115 = P_tlA := pe115_6 hp
  simp only [hFp_115, e115, P_tlA, den_s, den_c, Int.add_zero, List.map_cons, List.map_nil, g5.eq, g14.eq, g15.eq, g16.eq, h19, h20, h21] at ⊢
  ((repeat' (first | apply And.intro | intro h)) <;> first | omega | rfl | trivial | (exfalso; omega)))
def w_xo_lie_0_5 : VC := ((bT ++ [(0, 23), (0, 7), (10, 2147483647)]), [(0, [(none, 0), (none, 0)], []), (2, [(none, 9), (some 16, 0)], []), (3, [(some 16, 0), (none, 1)], []), (1, [(none, 1), (none, 0)], []), (3, [(none, 7), (some 15, 0)], []), (3, [(some 15, 0), (none, 0)], []), (1, [(none, 1), (none, 0)], []), (3, [(none, 23), (some 14, 0)], []), (3, [(some 14, 0), (none, 0)], [])], (115, [(none, (-2)), (some 14, 0), (some 15, 0), (some 16, 0), (some 5, 0), (some 5, 0)], [19, 20, 21, 19, 20, 21]))
set_option maxRecDepth 20000 in
theorem v_xo_lie_0_5 {PT : PTy} (hp : HP6 PT) : vcOk PT w_xo_lie_0_5 := vc_iv [(5, 0, 6), (14, 0, 23), (15, 0, 7), (16, 10, 2147483647)] [19, 20, 21] (by decide +kernel) (fun ρ α => by
  intro r5 g5 b5 r14 g14 b14 r15 g15 b15 r16 g16 b16 a19 h19 a20 h20 a21 h21 f0 f1 f2 f3 f4 f5 f6 f7 f8 tt
  clear f0 f1 f2 f3 f4 f5 f6 f7 f8
  have e115 : PT 115 = P_tlA := pe115_6 hp
  simp only [hFp_115, e115, P_tlA, den_s, den_c, Int.add_zero, List.map_cons, List.map_nil, g5.eq, g14.eq, g15.eq, g16.eq, h19, h20, h21] at ⊢
  ((repeat' (first | apply And.intro | intro h)) <;> first | omega | rfl | trivial | (exfalso; omega)))
def w_xo_lie_0_6 : VC := (([(0, 23), (0, 49), (0, 8), (0, 10), (0, 8), (0, 5), (0, 6), (0, 8), (0, 9), (0, 49), (0, 49), ((-2147483648), 2147483647), ((-2147483648), 2147483647), (0, 5), (0, 23), (0, 7), (1, 9)]), [(21, [(some 5, 0), (some 16, 0)], [60, 21]), (21, [(some 5, 0), (some 15, 0)], [59, 20]), (21, [(some 5, 0), (some 14, 0)], [58, 19]), (2, [(some 5, 0), (none, 9)], []), (0, [(none, 0), (none, 0)], []), (2, [(some 5, 0), (none, 6)], []), (1, [(none, 1), (none, 0)], []), (3, [(none, 9), (some 16, 0)], []), (3, [(some 16, 0), (none, 1)], []), (1, [(none, 1), (none, 0)], []), (3, [(none, 7), (some 15, 0)], []), (3, [(some 15, 0), (none, 0)], []), (1, [(none, 1), (none, 0)], []), (3, [(none, 23), (some 14, 0)], []), (3, [(some 14, 0), (none, 0)], [])], (115, [(some 5, 1), (some 14, 0), (some 15, 0), (some 16, 0), (some 5, 0), (some 5, 1)], [19, 20, 21, 58, 59, 60]))
set_option maxRecDepth 20000 in
theorem v_xo_lie_0_6 {PT : PTy} (hp : HP6 PT) : vcOk PT w_xo_lie_0_6 := vc_iv [(5, 0, 5), (14, 0, 23), (15, 0, 7), (16, 1, 9)] [19, 20, 21, 58, 59, 60] (by decide +kernel) (fun ρ α => by
  intro r5 g5 b5 r14 g14 b14 r15 g15 b15 r16 g16 b16 a19 h19 a20 h20 a21 h21 a58 h58 a59 h59 a60 h60 f0 f1 f2 f3 f4 f5 f6 f7 f8 f9 f10 f11 f12 f13 f14 tt
  clear f3 f4 f5 f6 f7 f8 f9 f10 f11 f12 f13 f14
  have e115 : PT 115 = P_tlA := pe115_6 hp
  simp only [hF21, hFp_115, e115, P_tlA, den_s, den_c, Int.add_zero, List.map_cons, List.map_nil, g5.eq, g14.eq, g15.eq, g16.eq, h19, h20, h21, h58, h59, h60] at f0 f1 f2 ⊢
  subst f0
  subst f1
  subst f2
  ((repeat' (first | apply And.intro | intro h)) <;> first | omega | rfl | trivial | (exfalso; omega)))
def w_xo_lie_0_7 : VC := (([(0, 23), (0, 49), (0, 8), (0, 10), (0, 8), (6, 6), (0, 6), (0, 8), (0, 9), (0, 49), (0, 49), ((-2147483648), 2147483647), ((-2147483648), 2147483647), (0, 5), (0, 23), (0, 7), (1, 9)]), [(1, [(none, 1), (none, 0)], []), (3, [(some 5, 0), (none, 6)], []), (1, [(none, 1), (none, 0)], []), (3, [(none, 9), (some 16, 0)], []), (3, [(some 16, 0), (none, 1)], []), (1, [(none, 1), (none, 0)], []), (3, [(none, 7), (some 15, 0)], []), (3, [(some 15, 0), (none, 0)], []), (1, [(none, 1), (none, 0)], []), (3, [(none, 23), (some 14, 0)], []), (3, [(some 14, 0), (none, 0)], [])], (115, [(none, (-4)), (some 14, 0), (some 15, 0), (some 16, 0), (some 5, 0), (some 5, 0)], [19, 20, 21, 19, 20, 21]))
set_option maxRecDepth 20000 in
theorem v_xo_lie_0_7 {PT : PTy} (hp : HP6 PT) : vcOk PT w_xo_lie_0_7 := vc_iv [(5, 6, 6), (14, 0, 23), (15, 0, 7), (16, 1, 9)] [19, 20, 21] (by decide +kernel) (fun ρ α => by
  intro r5 g5 b5 r14 g14 b14 r15 g15 b15 r16 g16 b16 a19 h19 a20 h20 a21 h21 f0 f1 f2 f3 f4 f5 f6 f7 f8 f9 f10 tt
  clear f0 f1 f2 f3 f4 f5 f6 f7 f8 f9 f10
  have e115 : PT 115 = P_tlA := pe115_6 hp
  simp only [hFp_115, e115, P_tlA, den_s, den_c, Int.add_zero, List.map_cons, List.map_nil, g5.eq, g14.eq, g15.eq, g16.eq, h19, h20, h21] at ⊢
  ((repeat' (first | apply And.intro | intro h)) <;> first | omega | rfl | trivial | (exfalso; omega)))
set_option maxRecDepth 1000000 in
theorem k_xo_lie {PT : PTy} (hp : HP6 PT) : wfX c_xo_lie = true ∧ xcOk PT c_xo_lie := xctr (xl0) c_xo_lie 111 mX6_lie rfl h_xo_lie (by decide +kernel) (by decide +kernel) (by decide) (vcs_by [w_xo_lie_0_0, w_xo_lie_0_1, w_xo_lie_0_2, w_xo_lie_0_3, w_xo_lie_0_4, w_xo_lie_0_5, w_xo_lie_0_6, w_xo_lie_0_7] (by decide +kernel) (vc (v_xo_lie_0_0 hp) (vc (v_xo_lie_0_1 hp) (vc (v_xo_lie_0_2 hp) (vc (v_xo_lie_0_3 hp) (vc (v_xo_lie_0_4 hp) (vc (v_xo_lie_0_5 hp) (vc (v_xo_lie_0_6 hp) (vc (v_xo_lie_0_7 hp) vn))))))))) fmn
def c_xo_letting : XC := (51, 2, (bT ++ [((-2147483648), 2147483647), ((-2147483648), 2147483647), ((-2147483648), 2147483647)]), [.inr (.inl 0), .inl (some 14, 0), .inl (some 15, 0), .inl (some 16, 0)], (gX 999), [], [((bT ++ [((-2147483648), 2147483647), ((-2147483648), 2147483647), ((-2147483648), 2147483647), ((-4), 6), (0, 6)]), some (.inl (some 17, 0)), (hst (gX 999) [(22, .inr (.inr (.inr (4, [.inr (.inl 23), .inr (.inl 24), .inr (.inl 25), .inl (none, 6), .inl (some 18, 0)]))))]), (ansT 58 [(23, 58), (24, 59), (25, 60)]), 61, [(115, [(some 17, 0), (some 14, 0), (some 15, 0), (some 16, 0), (some 6, 0), (some 18, 0)], [23, 24, 25, 58, 59, 60])])])
def h_xo_letting : List XH := []
def w_xo_letting_0_0 : VC := ((bT ++ [((-2147483648), (-1)), ((-2147483648), 2147483647), ((-2147483648), 2147483647)]), [(0, [(none, 0), (none, 0)], []), (2, [(some 14, 0), (none, 0)], [])], (115, [(none, (-2)), (some 14, 0), (some 15, 0), (some 16, 0), (some 6, 0), (some 6, 0)], [23, 24, 25, 23, 24, 25]))
set_option maxRecDepth 20000 in
theorem v_xo_letting_0_0 {PT : PTy} (hp : HP6 PT) : vcOk PT w_xo_letting_0_0 := vc_iv [(6, 0, 6), (14, (-2147483648), (-1)), (15, (-2147483648), 2147483647), (16, (-2147483648), 2147483647)] [23, 24, 25] (by decide +kernel) (fun ρ α => by
  intro r6 g6 b6 r14 g14 b14 r15 g15 b15 r16 g16 b16 a23 h23 a24 h24 a25 h25 f0 f1 tt
  clear f0 f1
  have e115 : PT 115 = P_tlA := pe115_6 hp
  simp only [hFp_115, e115, P_tlA, den_s, den_c, Int.add_zero, List.map_cons, List.map_nil, g6.eq, g14.eq, g15.eq, g16.eq, h23, h24, h25] at ⊢
  ((repeat' (first | apply And.intro | intro h)) <;> first | omega | rfl | trivial | (exfalso; omega)))
def w_xo_letting_0_1 : VC := ((bT ++ [(24, 2147483647), ((-2147483648), 2147483647), ((-2147483648), 2147483647)]), [(0, [(none, 0), (none, 0)], []), (2, [(none, 23), (some 14, 0)], []), (3, [(some 14, 0), (none, 0)], [])], (115, [(none, (-2)), (some 14, 0), (some 15, 0), (some 16, 0), (some 6, 0), (some 6, 0)], [23, 24, 25, 23, 24, 25]))
set_option maxRecDepth 20000 in
theorem v_xo_letting_0_1 {PT : PTy} (hp : HP6 PT) : vcOk PT w_xo_letting_0_1 := vc_iv [(6, 0, 6), (14, 24, 2147483647), (15, (-2147483648), 2147483647), (16, (-2147483648), 2147483647)] [23, 24, 25] (by decide +kernel) (fun ρ α => by
  intro r6 g6 b6 r14 g14 b14 r15 g15 b15 r16 g16 b16 a23 h23 a24 h24 a25 h25 f0 f1 f2 tt
  clear f0 f1 f2
  have e115 : PT 115 = P_tlA := pe115_6 hp
  simp only [hFp_115, e115, P_tlA, den_s, den_c, Int.add_zero, List.map_cons, List.map_nil, g6.eq, g14.eq, g15.eq, g16.eq, h23, h24, h25] at ⊢
  ((repeat' (first | apply And.intro | intro h)) <;> first | omega | rfl | trivial | (exfalso; omega)))
def w_xo_letting_0_2 : VC := ((bT ++ [(0, 23), ((-2147483648), (-1)), ((-2147483648), 2147483647)]), [(0, [(none, 0), (none, 0)], []), (2, [(some 15, 0), (none, 0)], []), (1, [(none, 1), (none, 0)], []), (3, [(none, 23), (some 14, 0)], []), (3, [(some 14, 0), (none, 0)], [])], (115, [(none, (-2)), (some 14, 0), (some 15, 0), (some 16, 0), (some 6, 0), (some 6, 0)], [23, 24, 25, 23, 24, 25]))
set_option maxRecDepth 20000 in
theorem v_xo_letting_0_2 {PT : PTy} (hp : HP6 PT) : vcOk PT w_xo_letting_0_2 := vc_iv [(6, 0, 6), (14, 0, 23), (15, (-2147483648), (-1)), (16, (-2147483648), 2147483647)] [23, 24, 25] (by decide +kernel) (fun ρ α => by
  intro r6 g6 b6 r14 g14 b14 r15 g15 b15 r16 g16 b16 a23 h23 a24 h24 a25 h25 f0 f1 f2 f3 f4 tt
  clear f0 f1 f2 f3 f4
  have e115 : PT 115 = P_tlA := pe115_6 hp
  simp only [hFp_115, e115, P_tlA, den_s, den_c, Int.add_zero, List.map_cons, List.map_nil, g6.eq, g14.eq, g15.eq, g16.eq, h23, h24, h25] at ⊢
  ((repeat' (first | apply And.intro | intro h)) <;> first | omega | rfl | trivial | (exfalso; omega)))
def w_xo_letting_0_3 : VC := ((bT ++ [(0, 23), (8, 2147483647), ((-2147483648), 2147483647)]), [(0, [(none, 0), (none, 0)], []), (2, [(none, 7), (some 15, 0)], []), (3, [(some 15, 0), (none, 0)], []), (1, [(none, 1), (none, 0)], []), (3, [(none, 23), (some 14, 0)], []), (3, [(some 14, 0), (none, 0)], [])], (115, [(none, (-2)), (some 14, 0), (some 15, 0), (some 16, 0), (some 6, 0), (some 6, 0)], [23, 24, 25, 23, 24, 25]))
set_option maxRecDepth 20000 in
theorem v_xo_letting_0_3 {PT : PTy} (hp : HP6 PT) : vcOk PT w_xo_letting_0_3 := vc_iv [(6, 0, 6), (14, 0, 23), (15, 8, 2147483647), (16, (-2147483648), 2147483647)] [23, 24, 25] (by decide +kernel) (fun ρ α => by
  intro r6 g6 b6 r14 g14 b14 r15 g15 b15 r16 g16 b16 a23 h23 a24 h24 a25 h25 f0 f1 f2 f3 f4 f5 tt
  clear f0 f1 f2 f3 f4 f5
  have e115 : PT 115 = P_tlA := pe115_6 hp
  simp only [hFp_115, e115, P_tlA, den_s, den_c, Int.add_zero, List.map_cons, List.map_nil, g6.eq, g14.eq, g15.eq, g16.eq, h23, h24, h25] at ⊢
  ((repeat' (first | apply And.intro | intro h)) <;> first | omega | rfl | trivial | (exfalso; omega)))
def w_xo_letting_0_4 : VC := ((bT ++ [(0, 23), (0, 7), ((-2147483648), 0)]), [(0, [(none, 0), (none, 0)], []), (2, [(some 16, 0), (none, 1)], []), (1, [(none, 1), (none, 0)], []), (3, [(none, 7), (some 15, 0)], []), (3, [(some 15, 0), (none, 0)], []), (1, [(none, 1), (none, 0)], []), (3, [(none, 23), (some 14, 0)], []), (3, [(some 14, 0), (none, 0)], [])], (115, [(none, (-2)), (some 14, 0), (some 15, 0), (some 16, 0), (some 6, 0), (some 6, 0)], [23, 24, 25, 23, 24, 25]))
set_option maxRecDepth 20000 in
theorem v_xo_letting_0_4 {PT : PTy} (hp : HP6 PT) : vcOk PT w_xo_letting_0_4 := vc_iv [(6, 0, 6), (14, 0, 23), (15, 0, 7), (16, (-2147483648), 0)] [23, 24, 25] (by decide +kernel) (fun ρ α => by
  intro r6 g6 b6 r14 g14 b14 r15 g15 b15 r16 g16 b16 a23 h23 a24 h24 a25 h25 f0 f1 f2 f3 f4 f5 f6 f7 tt
  clear f0 f1 f2 f3 f4 f5 f6 f7
  have e115 : PT 115 = P_tlA := pe115_6 hp
  simp only [hFp_115, e115, P_tlA, den_s, den_c, Int.add_zero, List.map_cons, List.map_nil, g6.eq, g14.eq, g15.eq, g16.eq, h23, h24, h25] at ⊢
  ((repeat' (first | apply And.intro | intro h)) <;> first | omega | rfl | trivial | (exfalso; omega)))
def w_xo_letting_0_5 : VC := ((bT ++ [(0, 23), (0, 7), (10, 2147483647)]), [(0, [(none, 0), (none, 0)], []), (2, [(none, 9), (some 16, 0)], []), (3, [(some 16, 0), (none, 1)], []), (1, [(none, 1), (none, 0)], []), (3, [(none, 7), (some 15, 0)], []), (3, [(some 15, 0), (none, 0)], []), (1, [(none, 1), (none, 0)], []), (3, [(none, 23), (some 14, 0)], []), (3, [(some 14, 0), (none, 0)], [])], (115, [(none, (-2)), (some 14, 0), (some 15, 0), (some 16, 0), (some 6, 0), (some 6, 0)], [23, 24, 25, 23, 24, 25]))
set_option maxRecDepth 20000 in
theorem v_xo_letting_0_5 {PT : PTy} (hp : HP6 PT) : vcOk PT w_xo_letting_0_5 := vc_iv [(6, 0, 6), (14, 0, 23), (15, 0, 7), (16, 10, 2147483647)] [23, 24, 25] (by decide +kernel) (fun ρ α => by
  intro r6 g6 b6 r14 g14 b14 r15 g15 b15 r16 g16 b16 a23 h23 a24 h24 a25 h25 f0 f1 f2 f3 f4 f5 f6 f7 f8 tt
  clear f0 f1 f2 f3 f4 f5 f6 f7 f8
  have e115 : PT 115 = P_tlA := pe115_6 hp
  simp only [hFp_115, e115, P_tlA, den_s, den_c, Int.add_zero, List.map_cons, List.map_nil, g6.eq, g14.eq, g15.eq, g16.eq, h23, h24, h25] at ⊢
  ((repeat' (first | apply And.intro | intro h)) <;> first | omega | rfl | trivial | (exfalso; omega)))
def w_xo_letting_0_6 : VC := (([(0, 23), (0, 49), (0, 8), (0, 10), (0, 8), (0, 6), (0, 5), (0, 8), (0, 9), (0, 49), (0, 49), ((-2147483648), 2147483647), ((-2147483648), 2147483647), (0, 5), (0, 23), (0, 7), (1, 9)]), [(21, [(some 6, 0), (some 16, 0)], [60, 25]), (21, [(some 6, 0), (some 15, 0)], [59, 24]), (21, [(some 6, 0), (some 14, 0)], [58, 23]), (2, [(some 6, 0), (none, 9)], []), (0, [(none, 0), (none, 0)], []), (2, [(some 6, 0), (none, 6)], []), (1, [(none, 1), (none, 0)], []), (3, [(none, 9), (some 16, 0)], []), (3, [(some 16, 0), (none, 1)], []), (1, [(none, 1), (none, 0)], []), (3, [(none, 7), (some 15, 0)], []), (3, [(some 15, 0), (none, 0)], []), (1, [(none, 1), (none, 0)], []), (3, [(none, 23), (some 14, 0)], []), (3, [(some 14, 0), (none, 0)], [])], (115, [(some 6, 1), (some 14, 0), (some 15, 0), (some 16, 0), (some 6, 0), (some 6, 1)], [23, 24, 25, 58, 59, 60]))
set_option maxRecDepth 20000 in
theorem v_xo_letting_0_6 {PT : PTy} (hp : HP6 PT) : vcOk PT w_xo_letting_0_6 := vc_iv [(6, 0, 5), (14, 0, 23), (15, 0, 7), (16, 1, 9)] [23, 24, 25, 58, 59, 60] (by decide +kernel) (fun ρ α => by
  intro r6 g6 b6 r14 g14 b14 r15 g15 b15 r16 g16 b16 a23 h23 a24 h24 a25 h25 a58 h58 a59 h59 a60 h60 f0 f1 f2 f3 f4 f5 f6 f7 f8 f9 f10 f11 f12 f13 f14 tt
  clear f3 f4 f5 f6 f7 f8 f9 f10 f11 f12 f13 f14
  have e115 : PT 115 = P_tlA := pe115_6 hp
  simp only [hF21, hFp_115, e115, P_tlA, den_s, den_c, Int.add_zero, List.map_cons, List.map_nil, g6.eq, g14.eq, g15.eq, g16.eq, h23, h24, h25, h58, h59, h60] at f0 f1 f2 ⊢
  subst f0
  subst f1
  subst f2
  ((repeat' (first | apply And.intro | intro h)) <;> first | omega | rfl | trivial | (exfalso; omega)))
def w_xo_letting_0_7 : VC := (([(0, 23), (0, 49), (0, 8), (0, 10), (0, 8), (0, 6), (6, 6), (0, 8), (0, 9), (0, 49), (0, 49), ((-2147483648), 2147483647), ((-2147483648), 2147483647), (0, 5), (0, 23), (0, 7), (1, 9)]), [(1, [(none, 1), (none, 0)], []), (3, [(some 6, 0), (none, 6)], []), (1, [(none, 1), (none, 0)], []), (3, [(none, 9), (some 16, 0)], []), (3, [(some 16, 0), (none, 1)], []), (1, [(none, 1), (none, 0)], []), (3, [(none, 7), (some 15, 0)], []), (3, [(some 15, 0), (none, 0)], []), (1, [(none, 1), (none, 0)], []), (3, [(none, 23), (some 14, 0)], []), (3, [(some 14, 0), (none, 0)], [])], (115, [(none, (-4)), (some 14, 0), (some 15, 0), (some 16, 0), (some 6, 0), (some 6, 0)], [23, 24, 25, 23, 24, 25]))
set_option maxRecDepth 20000 in
theorem v_xo_letting_0_7 {PT : PTy} (hp : HP6 PT) : vcOk PT w_xo_letting_0_7 := vc_iv [(6, 6, 6), (14, 0, 23), (15, 0, 7), (16, 1, 9)] [23, 24, 25] (by decide +kernel) (fun ρ α => by
  intro r6 g6 b6 r14 g14 b14 r15 g15 b15 r16 g16 b16 a23 h23 a24 h24 a25 h25 f0 f1 f2 f3 f4 f5 f6 f7 f8 f9 f10 tt
  clear f0 f1 f2 f3 f4 f5 f6 f7 f8 f9 f10
  have e115 : PT 115 = P_tlA := pe115_6 hp
  simp only [hFp_115, e115, P_tlA, den_s, den_c, Int.add_zero, List.map_cons, List.map_nil, g6.eq, g14.eq, g15.eq, g16.eq, h23, h24, h25] at ⊢
  ((repeat' (first | apply And.intro | intro h)) <;> first | omega | rfl | trivial | (exfalso; omega)))
set_option maxRecDepth 1000000 in
theorem k_xo_letting {PT : PTy} (hp : HP6 PT) : wfX c_xo_letting = true ∧ xcOk PT c_xo_letting := xctr (xl0) c_xo_letting 111 mX6_letting rfl h_xo_letting (by decide +kernel) (by decide +kernel) (by decide) (vcs_by [w_xo_letting_0_0, w_xo_letting_0_1, w_xo_letting_0_2, w_xo_letting_0_3, w_xo_letting_0_4, w_xo_letting_0_5, w_xo_letting_0_6, w_xo_letting_0_7] (by decide +kernel) (vc (v_xo_letting_0_0 hp) (vc (v_xo_letting_0_1 hp) (vc (v_xo_letting_0_2 hp) (vc (v_xo_letting_0_3 hp) (vc (v_xo_letting_0_4 hp) (vc (v_xo_letting_0_5 hp) (vc (v_xo_letting_0_6 hp) (vc (v_xo_letting_0_7 hp) vn))))))))) fmn
def c_xo_seen : XC := (65, 2, (bT ++ [((-2147483648), 2147483647), ((-2147483648), 2147483647), ((-2147483648), 2147483647)]), [.inr (.inl 0), .inl (some 14, 0), .inl (some 15, 0), .inl (some 16, 0)], (gX 999), [], [((bT ++ [((-2147483648), 2147483647), ((-2147483648), 2147483647), ((-2147483648), 2147483647), ((-4), 8), (0, 8)]), some (.inl (some 17, 0)), (hst (gX 999) [(31, .inr (.inr (.inr (4, [.inr (.inl 32), .inr (.inl 33), .inr (.inl 34), .inl (none, 8), .inl (some 18, 0)]))))]), (ansT 58 [(32, 58), (33, 59), (34, 60)]), 61, [(116, [(some 17, 0), (some 14, 0), (some 15, 0), (some 16, 0), (some 7, 0), (some 18, 0)], [32, 33, 34, 58, 59, 60])])])
def h_xo_seen : List XH := []
def w_xo_seen_0_0 : VC := ((bT ++ [((-2147483648), (-1)), ((-2147483648), 2147483647), ((-2147483648), 2147483647)]), [(0, [(none, 0), (none, 0)], []), (2, [(some 14, 0), (none, 0)], [])], (116, [(none, (-2)), (some 14, 0), (some 15, 0), (some 16, 0), (some 7, 0), (some 7, 0)], [32, 33, 34, 32, 33, 34]))
theorem pe116_6 {PT : PTy} (hp : HP6 PT) : PT 116 = P_seA := hp.2.2.2.2.2.2.2.2.2.2.1
set_option maxRecDepth 20000 in
theorem v_xo_seen_0_0 {PT : PTy} (hp : HP6 PT) : vcOk PT w_xo_seen_0_0 := vc_iv [(7, 0, 8), (14, (-2147483648), (-1)), (15, (-2147483648), 2147483647), (16, (-2147483648), 2147483647)] [32, 33, 34] (by decide +kernel) (fun ρ α => by
  intro r7 g7 b7 r14 g14 b14 r15 g15 b15 r16 g16 b16 a32 h32 a33 h33 a34 h34 f0 f1 tt
  clear f0 f1
  have e116 : PT 116 = P_seA := pe116_6 hp
  simp only [hFp_116, e116, P_seA, den_s, den_c, Int.add_zero, List.map_cons, List.map_nil, g7.eq, g14.eq, g15.eq, g16.eq, h32, h33, h34] at ⊢
  ((repeat' (first | apply And.intro | intro h)) <;> first | omega | rfl | trivial | (exfalso; omega)))
def w_xo_seen_0_1 : VC := ((bT ++ [(24, 2147483647), ((-2147483648), 2147483647), ((-2147483648), 2147483647)]), [(0, [(none, 0), (none, 0)], []), (2, [(none, 23), (some 14, 0)], []), (3, [(some 14, 0), (none, 0)], [])], (116, [(none, (-2)), (some 14, 0), (some 15, 0), (some 16, 0), (some 7, 0), (some 7, 0)], [32, 33, 34, 32, 33, 34]))
set_option maxRecDepth 20000 in
theorem v_xo_seen_0_1 {PT : PTy} (hp : HP6 PT) : vcOk PT w_xo_seen_0_1 := vc_iv [(7, 0, 8), (14, 24, 2147483647), (15, (-2147483648), 2147483647), (16, (-2147483648), 2147483647)] [32, 33, 34] (by decide +kernel) (fun ρ α => by
  intro r7 g7 b7 r14 g14 b14 r15 g15 b15 r16 g16 b16 a32 h32 a33 h33 a34 h34 f0 f1 f2 tt
  clear f0 f1 f2
  have e116 : PT 116 = P_seA := pe116_6 hp
  simp only [hFp_116, e116, P_seA, den_s, den_c, Int.add_zero, List.map_cons, List.map_nil, g7.eq, g14.eq, g15.eq, g16.eq, h32, h33, h34] at ⊢
  ((repeat' (first | apply And.intro | intro h)) <;> first | omega | rfl | trivial | (exfalso; omega)))
def w_xo_seen_0_2 : VC := ((bT ++ [(0, 23), ((-2147483648), (-1)), ((-2147483648), 2147483647)]), [(0, [(none, 0), (none, 0)], []), (2, [(some 15, 0), (none, 0)], []), (1, [(none, 1), (none, 0)], []), (3, [(none, 23), (some 14, 0)], []), (3, [(some 14, 0), (none, 0)], [])], (116, [(none, (-2)), (some 14, 0), (some 15, 0), (some 16, 0), (some 7, 0), (some 7, 0)], [32, 33, 34, 32, 33, 34]))
set_option maxRecDepth 20000 in
theorem v_xo_seen_0_2 {PT : PTy} (hp : HP6 PT) : vcOk PT w_xo_seen_0_2 := vc_iv [(7, 0, 8), (14, 0, 23), (15, (-2147483648), (-1)), (16, (-2147483648), 2147483647)] [32, 33, 34] (by decide +kernel) (fun ρ α => by
  intro r7 g7 b7 r14 g14 b14 r15 g15 b15 r16 g16 b16 a32 h32 a33 h33 a34 h34 f0 f1 f2 f3 f4 tt
  clear f0 f1 f2 f3 f4
  have e116 : PT 116 = P_seA := pe116_6 hp
  simp only [hFp_116, e116, P_seA, den_s, den_c, Int.add_zero, List.map_cons, List.map_nil, g7.eq, g14.eq, g15.eq, g16.eq, h32, h33, h34] at ⊢
  ((repeat' (first | apply And.intro | intro h)) <;> first | omega | rfl | trivial | (exfalso; omega)))
def w_xo_seen_0_3 : VC := ((bT ++ [(0, 23), (8, 2147483647), ((-2147483648), 2147483647)]), [(0, [(none, 0), (none, 0)], []), (2, [(none, 7), (some 15, 0)], []), (3, [(some 15, 0), (none, 0)], []), (1, [(none, 1), (none, 0)], []), (3, [(none, 23), (some 14, 0)], []), (3, [(some 14, 0), (none, 0)], [])], (116, [(none, (-2)), (some 14, 0), (some 15, 0), (some 16, 0), (some 7, 0), (some 7, 0)], [32, 33, 34, 32, 33, 34]))
set_option maxRecDepth 20000 in
theorem v_xo_seen_0_3 {PT : PTy} (hp : HP6 PT) : vcOk PT w_xo_seen_0_3 := vc_iv [(7, 0, 8), (14, 0, 23), (15, 8, 2147483647), (16, (-2147483648), 2147483647)] [32, 33, 34] (by decide +kernel) (fun ρ α => by
  intro r7 g7 b7 r14 g14 b14 r15 g15 b15 r16 g16 b16 a32 h32 a33 h33 a34 h34 f0 f1 f2 f3 f4 f5 tt
  clear f0 f1 f2 f3 f4 f5
  have e116 : PT 116 = P_seA := pe116_6 hp
  simp only [hFp_116, e116, P_seA, den_s, den_c, Int.add_zero, List.map_cons, List.map_nil, g7.eq, g14.eq, g15.eq, g16.eq, h32, h33, h34] at ⊢
  ((repeat' (first | apply And.intro | intro h)) <;> first | omega | rfl | trivial | (exfalso; omega)))
def w_xo_seen_0_4 : VC := ((bT ++ [(0, 23), (0, 7), ((-2147483648), (-1))]), [(0, [(none, 0), (none, 0)], []), (2, [(some 16, 0), (none, 0)], []), (1, [(none, 1), (none, 0)], []), (3, [(none, 7), (some 15, 0)], []), (3, [(some 15, 0), (none, 0)], []), (1, [(none, 1), (none, 0)], []), (3, [(none, 23), (some 14, 0)], []), (3, [(some 14, 0), (none, 0)], [])], (116, [(none, (-2)), (some 14, 0), (some 15, 0), (some 16, 0), (some 7, 0), (some 7, 0)], [32, 33, 34, 32, 33, 34]))
set_option maxRecDepth 20000 in
theorem v_xo_seen_0_4 {PT : PTy} (hp : HP6 PT) : vcOk PT w_xo_seen_0_4 := vc_iv [(7, 0, 8), (14, 0, 23), (15, 0, 7), (16, (-2147483648), (-1))] [32, 33, 34] (by decide +kernel) (fun ρ α => by
  intro r7 g7 b7 r14 g14 b14 r15 g15 b15 r16 g16 b16 a32 h32 a33 h33 a34 h34 f0 f1 f2 f3 f4 f5 f6 f7 tt
  clear f0 f1 f2 f3 f4 f5 f6 f7
  have e116 : PT 116 = P_seA := pe116_6 hp
  simp only [hFp_116, e116, P_seA, den_s, den_c, Int.add_zero, List.map_cons, List.map_nil, g7.eq, g14.eq, g15.eq, g16.eq, h32, h33, h34] at ⊢
  ((repeat' (first | apply And.intro | intro h)) <;> first | omega | rfl | trivial | (exfalso; omega)))
def w_xo_seen_0_5 : VC := ((bT ++ [(0, 23), (0, 7), (100, 2147483647)]), [(0, [(none, 0), (none, 0)], []), (2, [(none, 99), (some 16, 0)], []), (3, [(some 16, 0), (none, 0)], []), (1, [(none, 1), (none, 0)], []), (3, [(none, 7), (some 15, 0)], []), (3, [(some 15, 0), (none, 0)], []), (1, [(none, 1), (none, 0)], []), (3, [(none, 23), (some 14, 0)], []), (3, [(some 14, 0), (none, 0)], [])], (116, [(none, (-2)), (some 14, 0), (some 15, 0), (some 16, 0), (some 7, 0), (some 7, 0)], [32, 33, 34, 32, 33, 34]))
set_option maxRecDepth 20000 in
theorem v_xo_seen_0_5 {PT : PTy} (hp : HP6 PT) : vcOk PT w_xo_seen_0_5 := vc_iv [(7, 0, 8), (14, 0, 23), (15, 0, 7), (16, 100, 2147483647)] [32, 33, 34] (by decide +kernel) (fun ρ α => by
  intro r7 g7 b7 r14 g14 b14 r15 g15 b15 r16 g16 b16 a32 h32 a33 h33 a34 h34 f0 f1 f2 f3 f4 f5 f6 f7 f8 tt
  clear f0 f1 f2 f3 f4 f5 f6 f7 f8
  have e116 : PT 116 = P_seA := pe116_6 hp
  simp only [hFp_116, e116, P_seA, den_s, den_c, Int.add_zero, List.map_cons, List.map_nil, g7.eq, g14.eq, g15.eq, g16.eq, h32, h33, h34] at ⊢
  ((repeat' (first | apply And.intro | intro h)) <;> first | omega | rfl | trivial | (exfalso; omega)))
def w_xo_seen_0_6 : VC := (([(0, 23), (0, 49), (0, 8), (0, 10), (0, 8), (0, 6), (0, 6), (0, 7), (0, 9), (0, 49), (0, 49), ((-2147483648), 2147483647), ((-2147483648), 2147483647), (0, 5), (0, 23), (0, 7), (0, 99)]), [(21, [(some 7, 0), (some 16, 0)], [60, 34]), (21, [(some 7, 0), (some 15, 0)], [59, 33]), (21, [(some 7, 0), (some 14, 0)], [58, 32]), (2, [(some 7, 0), (none, 9)], []), (0, [(none, 0), (none, 0)], []), (2, [(some 7, 0), (none, 8)], []), (1, [(none, 1), (none, 0)], []), (3, [(none, 99), (some 16, 0)], []), (3, [(some 16, 0), (none, 0)], []), (1, [(none, 1), (none, 0)], []), (3, [(none, 7), (some 15, 0)], []), (3, [(some 15, 0), (none, 0)], []), (1, [(none, 1), (none, 0)], []), (3, [(none, 23), (some 14, 0)], []), (3, [(some 14, 0), (none, 0)], [])], (116, [(some 7, 1), (some 14, 0), (some 15, 0), (some 16, 0), (some 7, 0), (some 7, 1)], [32, 33, 34, 58, 59, 60]))
set_option maxRecDepth 20000 in
theorem v_xo_seen_0_6 {PT : PTy} (hp : HP6 PT) : vcOk PT w_xo_seen_0_6 := vc_iv [(7, 0, 7), (14, 0, 23), (15, 0, 7), (16, 0, 99)] [32, 33, 34, 58, 59, 60] (by decide +kernel) (fun ρ α => by
  intro r7 g7 b7 r14 g14 b14 r15 g15 b15 r16 g16 b16 a32 h32 a33 h33 a34 h34 a58 h58 a59 h59 a60 h60 f0 f1 f2 f3 f4 f5 f6 f7 f8 f9 f10 f11 f12 f13 f14 tt
  clear f3 f4 f5 f6 f7 f8 f9 f10 f11 f12 f13 f14
  have e116 : PT 116 = P_seA := pe116_6 hp
  simp only [hF21, hFp_116, e116, P_seA, den_s, den_c, Int.add_zero, List.map_cons, List.map_nil, g7.eq, g14.eq, g15.eq, g16.eq, h32, h33, h34, h58, h59, h60] at f0 f1 f2 ⊢
  subst f0
  subst f1
  subst f2
  ((repeat' (first | apply And.intro | intro h)) <;> first | omega | rfl | trivial | (exfalso; omega)))
def w_xo_seen_0_7 : VC := (([(0, 23), (0, 49), (0, 8), (0, 10), (0, 8), (0, 6), (0, 6), (8, 8), (0, 9), (0, 49), (0, 49), ((-2147483648), 2147483647), ((-2147483648), 2147483647), (0, 5), (0, 23), (0, 7), (0, 99)]), [(1, [(none, 1), (none, 0)], []), (3, [(some 7, 0), (none, 8)], []), (1, [(none, 1), (none, 0)], []), (3, [(none, 99), (some 16, 0)], []), (3, [(some 16, 0), (none, 0)], []), (1, [(none, 1), (none, 0)], []), (3, [(none, 7), (some 15, 0)], []), (3, [(some 15, 0), (none, 0)], []), (1, [(none, 1), (none, 0)], []), (3, [(none, 23), (some 14, 0)], []), (3, [(some 14, 0), (none, 0)], [])], (116, [(none, (-4)), (some 14, 0), (some 15, 0), (some 16, 0), (some 7, 0), (some 7, 0)], [32, 33, 34, 32, 33, 34]))
set_option maxRecDepth 20000 in
theorem v_xo_seen_0_7 {PT : PTy} (hp : HP6 PT) : vcOk PT w_xo_seen_0_7 := vc_iv [(7, 8, 8), (14, 0, 23), (15, 0, 7), (16, 0, 99)] [32, 33, 34] (by decide +kernel) (fun ρ α => by
  intro r7 g7 b7 r14 g14 b14 r15 g15 b15 r16 g16 b16 a32 h32 a33 h33 a34 h34 f0 f1 f2 f3 f4 f5 f6 f7 f8 f9 f10 tt
  clear f0 f1 f2 f3 f4 f5 f6 f7 f8 f9 f10
  have e116 : PT 116 = P_seA := pe116_6 hp
  simp only [hFp_116, e116, P_seA, den_s, den_c, Int.add_zero, List.map_cons, List.map_nil, g7.eq, g14.eq, g15.eq, g16.eq, h32, h33, h34] at ⊢
  ((repeat' (first | apply And.intro | intro h)) <;> first | omega | rfl | trivial | (exfalso; omega)))
set_option maxRecDepth 1000000 in
theorem k_xo_seen {PT : PTy} (hp : HP6 PT) : wfX c_xo_seen = true ∧ xcOk PT c_xo_seen := xctr (xl0) c_xo_seen 111 mX6_seen rfl h_xo_seen (by decide +kernel) (by decide +kernel) (by decide) (vcs_by [w_xo_seen_0_0, w_xo_seen_0_1, w_xo_seen_0_2, w_xo_seen_0_3, w_xo_seen_0_4, w_xo_seen_0_5, w_xo_seen_0_6, w_xo_seen_0_7] (by decide +kernel) (vc (v_xo_seen_0_0 hp) (vc (v_xo_seen_0_1 hp) (vc (v_xo_seen_0_2 hp) (vc (v_xo_seen_0_3 hp) (vc (v_xo_seen_0_4 hp) (vc (v_xo_seen_0_5 hp) (vc (v_xo_seen_0_6 hp) (vc (v_xo_seen_0_7 hp) vn))))))))) fmn
def c_xo_back : XC := (52, 1, (bT ++ [((-2147483648), 2147483647)]), [.inr (.inl 0), .inl (some 14, 0)], (gX 999), [], [((bT ++ [((-2147483648), 2147483647), ((-3), 7), (0, 8), (0, 6), (0, 6)]), some (.inl (some 15, 0)), (hst (gX 999) [(14, .inr (.inr (.inr (4, [.inr (.inl 15), .inr (.inl 16), .inr (.inl 17), .inl (none, 8), .inl (some 16, 0)])))), (18, .inr (.inr (.inr (4, [.inr (.inl 19), .inr (.inl 20), .inr (.inl 21), .inl (none, 6), .inl (some 17, 0)])))), (22, .inr (.inr (.inr (4, [.inr (.inl 23), .inr (.inl 24), .inr (.inl 25), .inl (none, 6), .inl (some 18, 0)]))))]), (List.range 58), 58, [(117, [(some 15, 0), (some 14, 0), (some 4, 0), (some 5, 0), (some 6, 0), (some 16, 0), (some 17, 0), (some 18, 0)], [])])])
def h_xo_back : List XH := []
def w_xo_back_0_0 : VC := ((bT ++ [((-2147483648), (-1))]), [(0, [(none, 0), (none, 0)], []), (2, [(some 14, 0), (none, 0)], [])], (117, [(none, (-2)), (some 14, 0), (some 4, 0), (some 5, 0), (some 6, 0), (some 4, 0), (some 5, 0), (some 6, 0)], []))
theorem pe117_6 {PT : PTy} (hp : HP6 PT) : PT 117 = P_baA := hp.2.2.2.2.2.2.2.2.2.2.2.1
set_option maxRecDepth 20000 in
theorem v_xo_back_0_0 {PT : PTy} (hp : HP6 PT) : vcOk PT w_xo_back_0_0 := vc_iv [(4, 0, 8), (5, 0, 6), (6, 0, 6), (14, (-2147483648), (-1))] [] (by decide +kernel) (fun ρ α => by
  intro r4 g4 b4 r5 g5 b5 r6 g6 b6 r14 g14 b14 f0 f1 tt
  clear f0 f1
  have e117 : PT 117 = P_baA := pe117_6 hp
  simp only [hFp_117, e117, P_baA, den_s, den_c, Int.add_zero, List.map_cons, List.map_nil, g4.eq, g5.eq, g6.eq, g14.eq] at ⊢
  ((repeat' (first | apply And.intro | intro h)) <;> first | omega | rfl | trivial | (exfalso; omega)))
def w_xo_back_0_1 : VC := ((bT ++ [(3, 2147483647)]), [(0, [(none, 0), (none, 0)], []), (2, [(none, 2), (some 14, 0)], []), (3, [(some 14, 0), (none, 0)], [])], (117, [(none, (-2)), (some 14, 0), (some 4, 0), (some 5, 0), (some 6, 0), (some 4, 0), (some 5, 0), (some 6, 0)], []))
set_option maxRecDepth 20000 in
theorem v_xo_back_0_1 {PT : PTy} (hp : HP6 PT) : vcOk PT w_xo_back_0_1 := vc_iv [(4, 0, 8), (5, 0, 6), (6, 0, 6), (14, 3, 2147483647)] [] (by decide +kernel) (fun ρ α => by
  intro r4 g4 b4 r5 g5 b5 r6 g6 b6 r14 g14 b14 f0 f1 f2 tt
  clear f0 f1 f2
  have e117 : PT 117 = P_baA := pe117_6 hp
  simp only [hFp_117, e117, P_baA, den_s, den_c, Int.add_zero, List.map_cons, List.map_nil, g4.eq, g5.eq, g6.eq, g14.eq] at ⊢
  ((repeat' (first | apply And.intro | intro h)) <;> first | omega | rfl | trivial | (exfalso; omega)))
def w_xo_back_0_2 : VC := (([(0, 23), (0, 49), (0, 8), (0, 10), (0, 8), (0, 6), (1, 6), (0, 8), (0, 9), (0, 49), (0, 49), ((-2147483648), 2147483647), ((-2147483648), 2147483647), (0, 5), (2, 2)]), [(2, [(none, 0), (some 6, 0)], []), (1, [(some 6, 0), (none, 0)], []), (1, [(some 14, 0), (none, 1)], []), (1, [(some 14, 0), (none, 0)], []), (1, [(none, 1), (none, 0)], []), (3, [(none, 2), (some 14, 0)], []), (3, [(some 14, 0), (none, 0)], [])], (117, [(some 6, (-1)), (some 14, 0), (some 4, 0), (some 5, 0), (some 6, 0), (some 4, 0), (some 5, 0), (some 6, (-1))], []))
set_option maxRecDepth 20000 in
theorem v_xo_back_0_2 {PT : PTy} (hp : HP6 PT) : vcOk PT w_xo_back_0_2 := vc_iv [(4, 0, 8), (5, 0, 6), (6, 1, 6), (14, 2, 2)] [] (by decide +kernel) (fun ρ α => by
  intro r4 g4 b4 r5 g5 b5 r6 g6 b6 r14 g14 b14 f0 f1 f2 f3 f4 f5 f6 tt
  clear f0 f1 f2 f3 f4 f5 f6
  have e117 : PT 117 = P_baA := pe117_6 hp
  simp only [hFp_117, e117, P_baA, den_s, den_c, Int.add_zero, List.map_cons, List.map_nil, g4.eq, g5.eq, g6.eq, g14.eq] at ⊢
  ((repeat' (first | apply And.intro | intro h)) <;> first | omega | rfl | trivial | (exfalso; omega)))
def w_xo_back_0_3 : VC := (([(0, 23), (0, 49), (0, 8), (0, 10), (0, 8), (0, 6), (0, 0), (0, 8), (0, 9), (0, 49), (0, 49), ((-2147483648), 2147483647), ((-2147483648), 2147483647), (0, 5), (2, 2)]), [(0, [(some 6, 0), (none, 0)], []), (1, [(some 14, 0), (none, 1)], []), (1, [(some 14, 0), (none, 0)], []), (1, [(none, 1), (none, 0)], []), (3, [(none, 2), (some 14, 0)], []), (3, [(some 14, 0), (none, 0)], [])], (117, [(none, (-3)), (some 14, 0), (some 4, 0), (some 5, 0), (some 6, 0), (some 4, 0), (some 5, 0), (some 6, 0)], []))
set_option maxRecDepth 20000 in
theorem v_xo_back_0_3 {PT : PTy} (hp : HP6 PT) : vcOk PT w_xo_back_0_3 := vc_iv [(4, 0, 8), (5, 0, 6), (6, 0, 0), (14, 2, 2)] [] (by decide +kernel) (fun ρ α => by
  intro r4 g4 b4 r5 g5 b5 r6 g6 b6 r14 g14 b14 f0 f1 f2 f3 f4 f5 tt
  clear f1 f2 f3 f4 f5
  have e117 : PT 117 = P_baA := pe117_6 hp
  simp only [hF0, hFp_117, e117, P_baA, den_s, den_c, Int.add_zero, List.map_cons, List.map_nil, g4.eq, g5.eq, g6.eq, g14.eq] at f0 ⊢
  ((repeat' (first | apply And.intro | intro h)) <;> first | omega | rfl | trivial | (exfalso; omega)))
def w_xo_back_0_4 : VC := (([(0, 23), (0, 49), (0, 8), (0, 10), (0, 8), (1, 6), (0, 6), (0, 8), (0, 9), (0, 49), (0, 49), ((-2147483648), 2147483647), ((-2147483648), 2147483647), (0, 5), (1, 1)]), [(2, [(none, 0), (some 5, 0)], []), (1, [(some 5, 0), (none, 0)], []), (0, [(some 14, 0), (none, 1)], []), (1, [(some 14, 0), (none, 0)], []), (1, [(none, 1), (none, 0)], []), (3, [(none, 2), (some 14, 0)], []), (3, [(some 14, 0), (none, 0)], [])], (117, [(some 5, (-1)), (some 14, 0), (some 4, 0), (some 5, 0), (some 6, 0), (some 4, 0), (some 5, (-1)), (some 6, 0)], []))
set_option maxRecDepth 20000 in
theorem v_xo_back_0_4 {PT : PTy} (hp : HP6 PT) : vcOk PT w_xo_back_0_4 := vc_iv [(4, 0, 8), (5, 1, 6), (6, 0, 6), (14, 1, 1)] [] (by decide +kernel) (fun ρ α => by
  intro r4 g4 b4 r5 g5 b5 r6 g6 b6 r14 g14 b14 f0 f1 f2 f3 f4 f5 f6 tt
  clear f0 f1 f3 f4 f5 f6
  have e117 : PT 117 = P_baA := pe117_6 hp
  simp only [hF0, hFp_117, e117, P_baA, den_s, den_c, Int.add_zero, List.map_cons, List.map_nil, g4.eq, g5.eq, g6.eq, g14.eq] at f2 ⊢
  ((repeat' (first | apply And.intro | intro h)) <;> first | omega | rfl | trivial | (exfalso; omega)))
def w_xo_back_0_5 : VC := (([(0, 23), (0, 49), (0, 8), (0, 10), (0, 8), (0, 0), (0, 6), (0, 8), (0, 9), (0, 49), (0, 49), ((-2147483648), 2147483647), ((-2147483648), 2147483647), (0, 5), (1, 1)]), [(0, [(some 5, 0), (none, 0)], []), (0, [(some 14, 0), (none, 1)], []), (1, [(some 14, 0), (none, 0)], []), (1, [(none, 1), (none, 0)], []), (3, [(none, 2), (some 14, 0)], []), (3, [(some 14, 0), (none, 0)], [])], (117, [(none, (-3)), (some 14, 0), (some 4, 0), (some 5, 0), (some 6, 0), (some 4, 0), (some 5, 0), (some 6, 0)], []))
set_option maxRecDepth 20000 in
theorem v_xo_back_0_5 {PT : PTy} (hp : HP6 PT) : vcOk PT w_xo_back_0_5 := vc_iv [(4, 0, 8), (5, 0, 0), (6, 0, 6), (14, 1, 1)] [] (by decide +kernel) (fun ρ α => by
  intro r4 g4 b4 r5 g5 b5 r6 g6 b6 r14 g14 b14 f0 f1 f2 f3 f4 f5 tt
  clear f2 f3 f4 f5
  have e117 : PT 117 = P_baA := pe117_6 hp
  simp only [hF0, hFp_117, e117, P_baA, den_s, den_c, Int.add_zero, List.map_cons, List.map_nil, g4.eq, g5.eq, g6.eq, g14.eq] at f0 f1 ⊢
  ((repeat' (first | apply And.intro | intro h)) <;> first | omega | rfl | trivial | (exfalso; omega)))
def w_xo_back_0_6 : VC := (([(0, 23), (0, 49), (0, 8), (0, 10), (1, 8), (0, 6), (0, 6), (0, 8), (0, 9), (0, 49), (0, 49), ((-2147483648), 2147483647), ((-2147483648), 2147483647), (0, 5), (0, 0)]), [(2, [(none, 0), (some 4, 0)], []), (1, [(some 4, 0), (none, 0)], []), (0, [(some 14, 0), (none, 0)], []), (1, [(none, 1), (none, 0)], []), (3, [(none, 2), (some 14, 0)], []), (3, [(some 14, 0), (none, 0)], [])], (117, [(some 4, (-1)), (some 14, 0), (some 4, 0), (some 5, 0), (some 6, 0), (some 4, (-1)), (some 5, 0), (some 6, 0)], []))
set_option maxRecDepth 20000 in
theorem v_xo_back_0_6 {PT : PTy} (hp : HP6 PT) : vcOk PT w_xo_back_0_6 := vc_iv [(4, 1, 8), (5, 0, 6), (6, 0, 6), (14, 0, 0)] [] (by decide +kernel) (fun ρ α => by
  intro r4 g4 b4 r5 g5 b5 r6 g6 b6 r14 g14 b14 f0 f1 f2 f3 f4 f5 tt
  clear f0 f1 f3 f4 f5
  have e117 : PT 117 = P_baA := pe117_6 hp
  simp only [hF0, hFp_117, e117, P_baA, den_s, den_c, Int.add_zero, List.map_cons, List.map_nil, g4.eq, g5.eq, g6.eq, g14.eq] at f2 ⊢
  ((repeat' (first | apply And.intro | intro h)) <;> first | omega | rfl | trivial | (exfalso; omega)))
def w_xo_back_0_7 : VC := (([(0, 23), (0, 49), (0, 8), (0, 10), (0, 0), (0, 6), (0, 6), (0, 8), (0, 9), (0, 49), (0, 49), ((-2147483648), 2147483647), ((-2147483648), 2147483647), (0, 5), (0, 0)]), [(0, [(some 4, 0), (none, 0)], []), (0, [(some 14, 0), (none, 0)], []), (1, [(none, 1), (none, 0)], []), (3, [(none, 2), (some 14, 0)], []), (3, [(some 14, 0), (none, 0)], [])], (117, [(none, (-3)), (some 14, 0), (some 4, 0), (some 5, 0), (some 6, 0), (some 4, 0), (some 5, 0), (some 6, 0)], []))
set_option maxRecDepth 20000 in
theorem v_xo_back_0_7 {PT : PTy} (hp : HP6 PT) : vcOk PT w_xo_back_0_7 := vc_iv [(4, 0, 0), (5, 0, 6), (6, 0, 6), (14, 0, 0)] [] (by decide +kernel) (fun ρ α => by
  intro r4 g4 b4 r5 g5 b5 r6 g6 b6 r14 g14 b14 f0 f1 f2 f3 f4 tt
  clear f2 f3 f4
  have e117 : PT 117 = P_baA := pe117_6 hp
  simp only [hF0, hFp_117, e117, P_baA, den_s, den_c, Int.add_zero, List.map_cons, List.map_nil, g4.eq, g5.eq, g6.eq, g14.eq] at f0 f1 ⊢
  ((repeat' (first | apply And.intro | intro h)) <;> first | omega | rfl | trivial | (exfalso; omega)))
set_option maxRecDepth 1000000 in
theorem k_xo_back {PT : PTy} (hp : HP6 PT) : wfX c_xo_back = true ∧ xcOk PT c_xo_back := xctr (xl0) c_xo_back 59 mX6_back rfl h_xo_back (by decide +kernel) (by decide +kernel) (by decide) (vcs_by [w_xo_back_0_0, w_xo_back_0_1, w_xo_back_0_2, w_xo_back_0_3, w_xo_back_0_4, w_xo_back_0_5, w_xo_back_0_6, w_xo_back_0_7] (by decide +kernel) (vc (v_xo_back_0_0 hp) (vc (v_xo_back_0_1 hp) (vc (v_xo_back_0_2 hp) (vc (v_xo_back_0_3 hp) (vc (v_xo_back_0_4 hp) (vc (v_xo_back_0_5 hp) (vc (v_xo_back_0_6 hp) (vc (v_xo_back_0_7 hp) vn))))))))) fmn
def c_xo_forget : XC := (66, 0, (bT), [.inr (.inl 0)], (gX 999), [], [((bT ++ [(0, 8)]), some (.inl (some 7, 0)), (hst (gX 999) [(31, .inr (.inr (.inr (4, [.inr (.inl 32), .inr (.inl 33), .inr (.inl 34), .inl (none, 8), .inl (some 14, 0)]))))]), (List.range 58), 58, [(118, [(some 7, 0), (some 7, 0), (some 14, 0)], [])])])
def h_xo_forget : List XH := []
def w_xo_forget_0_0 : VC := ((bT), [], (118, [(some 7, 0), (some 7, 0), (none, 0)], []))
theorem pe118_6 {PT : PTy} (hp : HP6 PT) : PT 118 = P_foA := hp.2.2.2.2.2.2.2.2.2.2.2.2.1
set_option maxRecDepth 20000 in
theorem v_xo_forget_0_0 {PT : PTy} (hp : HP6 PT) : vcOk PT w_xo_forget_0_0 := vc_iv [(7, 0, 8)] [] (by decide +kernel) (fun ρ α => by
  intro r7 g7 b7 tt
  have e118 : PT 118 = P_foA := pe118_6 hp
  simp only [hFp_118, e118, P_foA, den_s, den_c, Int.add_zero, List.map_cons, List.map_nil, g7.eq] at ⊢
  ((repeat' (first | apply And.intro | intro h)) <;> first | omega | rfl | trivial | (exfalso; omega)))
set_option maxRecDepth 1000000 in
theorem k_xo_forget {PT : PTy} (hp : HP6 PT) : wfX c_xo_forget = true ∧ xcOk PT c_xo_forget := xctr (xl0) c_xo_forget 30 mX6_forget rfl h_xo_forget (by decide +kernel) (by decide +kernel) (by decide) (vcs_by [w_xo_forget_0_0] (by decide +kernel) (vc (v_xo_forget_0_0 hp) vn)) fmn
/-! ===== the reference: operations that run no year; printed by wip/gen/x ===== -/
def P_tyY (l : List Int) (a : List (Int → Int)) : Prop := match l, a with
  | [r, t, b], [L, T, L2, T2] => (¬ (0 ≤ t ∧ t ≤ 1 ∧ 0 ≤ b ∧ b ≤ 255) → r = -2 ∧ L2 = L ∧ T2 = T) ∧ (0 ≤ t ∧ t ≤ 1 ∧ 0 ≤ b ∧ b ≤ 255 → (t = 0 → ¬ L t = 23) → (¬ t = 0 → ¬ L t = 49) → r = L t + 1 ∧ L2 = updI L t (L t + 1) ∧ T2 = updI T (49 * t + L t) b) ∧ (0 ≤ t ∧ t ≤ 1 ∧ 0 ≤ b ∧ b ≤ 255 → (t = 0 ∧ L t = 23) ∨ (t = 1 ∧ L t = 49) → r = -4 ∧ L2 = L ∧ T2 = T)
  | _, _ => False
theorem hFp_119 {PT : PTy} {ρ : Nat → Int} {α : Nat → Int → Int} (l : List AN) (a : List Nat) : hF PT ρ α (119, l, a) = PT 119 (l.map (den ρ)) (a.map α) := rfl
def P_wiY (l : List Int) (a : List (Int → Int)) : Prop := match l, a with
  | [r, t], [L, L2] => (0 ≤ t ∧ t ≤ 1 → r = L t ∧ L2 = updI L t 0) ∧ (¬ (0 ≤ t ∧ t ≤ 1) → r = -2 ∧ L2 = L)
  | _, _ => False
theorem hFp_120 {PT : PTy} {ρ : Nat → Int} {α : Nat → Int → Int} (l : List AN) (a : List Nat) : hF PT ρ α (120, l, a) = PT 120 (l.map (den ρ)) (a.map α) := rfl
def P_unY (l : List Int) (a : List (Int → Int)) : Prop := match l, a with
  | [r, t], [L, L2] => (0 ≤ t ∧ t ≤ 1 → ¬ L t = 0 → r = L t - 1 ∧ L2 = updI L t (L t - 1)) ∧ (0 ≤ t ∧ t ≤ 1 → L t = 0 → r = -3 ∧ L2 = L) ∧ (¬ (0 ≤ t ∧ t ≤ 1) → r = -2 ∧ L2 = L)
  | _, _ => False
theorem hFp_121 {PT : PTy} {ρ : Nat → Int} {α : Nat → Int → Int} (l : List AN) (a : List Nat) : hF PT ρ α (121, l, a) = PT 121 (l.map (den ρ)) (a.map α) := rfl
def P_faY (l : List Int) (a : List (Int → Int)) : Prop := match l, a with
  | [r, t], [L, T] => (t = 0 → ffP r (L 0) T) ∧ (t = 1 → ffV r (L 1) (sh T)) ∧ (¬ t = 0 → ¬ t = 1 → r = -2)
  | _, _ => False
theorem hFp_122 {PT : PTy} {ρ : Nat → Int} {α : Nat → Int → Int} (l : List AN) (a : List Nat) : hF PT ρ α (122, l, a) = PT 122 (l.map (den ρ)) (a.map α) := rfl
def P_peY (l : List Int) (a : List (Int → Int)) : Prop := match l, a with
  | [r, k, w, n], [L, T, so, sz] => nP n (L 0) T ∧ tkP n T so sz ∧ (0 ≤ k → k < n → w = 0 → r = so k) ∧ (0 ≤ k → k < n → w = 1 → r = sz k) ∧ (¬ (0 ≤ k ∧ k < n ∧ 0 ≤ w ∧ w ≤ 1) → r = -2)
  | _, _ => False
theorem hFp_123 {PT : PTy} {ρ : Nat → Int} {α : Nat → Int → Int} (l : List AN) (a : List Nat) : hF PT ρ α (123, l, a) = PT 123 (l.map (den ρ)) (a.map α) := rfl
def P_prY (l : List Int) (a : List (Int → Int)) : Prop := match l, a with
  | [r, k, w, n], [L, T, wh, gr, md, du] => nV n (L 1) (sh T) ∧ tkV n (sh T) wh gr md du ∧ (0 ≤ k → k < n → w = 0 → r = wh k) ∧ (0 ≤ k → k < n → w = 1 → r = gr k) ∧ (0 ≤ k → k < n → w = 2 → r = md k) ∧ (0 ≤ k → k < n → w = 3 → r = du k) ∧ (¬ (0 ≤ k ∧ k < n ∧ 0 ≤ w ∧ w ≤ 3) → r = -2)
  | _, _ => False
theorem hFp_124 {PT : PTy} {ρ : Nat → Int} {α : Nat → Int → Int} (l : List AN) (a : List Nat) : hF PT ρ α (124, l, a) = PT 124 (l.map (den ρ)) (a.map α) := rfl
def HP7 (PT : PTy) : Prop := HP6 PT ∧ (PT 119 = P_tyY ∧ PT 120 = P_wiY ∧ PT 121 = P_unY ∧ PT 122 = P_faY ∧ PT 123 = P_peY ∧ PT 124 = P_prY ∧ True)
def c_yo_type : XC := (111, 2, (bY ++ [((-2147483648), 2147483647), ((-2147483648), 2147483647)]), [.inr (.inl 0), .inl (some 13, 0), .inl (some 14, 0)], gY2, [(78, [], [1])], [((bY ++ [((-2147483648), 2147483647), ((-2147483648), 2147483647), ((-4), 49)]), some (.inl (some 15, 0)), gY2, (ansT 35 [(1, 35), (2, 36)]), 37, [(119, [(some 15, 0), (some 13, 0), (some 14, 0)], [1, 2, 35, 36])])])
def h_yo_type : List XH := []
def w_yo_type_0_0 : VC := ((bY ++ [((-2147483648), (-1)), ((-2147483648), 2147483647)]), [(0, [(none, 0), (none, 0)], []), (2, [(some 13, 0), (none, 0)], []), (78, [], [1])], (119, [(none, (-2)), (some 13, 0), (some 14, 0)], [1, 2, 1, 2]))
theorem pe78_7 {PT : PTy} (hp : HP7 PT) : PT 78 = P_ly := hp.1.1.1.1.1.2.2.2.2.2.2.2.1
theorem pe119_7 {PT : PTy} (hp : HP7 PT) : PT 119 = P_tyY := hp.2.1
set_option maxRecDepth 20000 in
theorem v_yo_type_0_0 {PT : PTy} (hp : HP7 PT) : vcOk PT w_yo_type_0_0 := vc_iv [(13, (-2147483648), (-1)), (14, (-2147483648), 2147483647)] [1, 2] (by decide +kernel) (fun ρ α => by
  intro r13 g13 b13 r14 g14 b14 a1 h1 a2 h2 f0 f1 f2 tt
  clear f0 f1
  have e78 : PT 78 = P_ly := pe78_7 hp
  have e119 : PT 119 = P_tyY := pe119_7 hp
  simp only [hFp_78, hFp_119, e78, e119, P_ly, P_tyY, den_s, den_c, Int.add_zero, List.map_cons, List.map_nil, g13.eq, g14.eq, h1, h2] at f2 ⊢
  try simp only [updI_at]
  ((repeat' (first | apply And.intro | intro h)) <;> first | omega | rfl | trivial | (exfalso; omega) | (congr 1; omega) | (exfalso; rcases (show r13 = 0 ∨ r13 = 1 by omega) with z | z <;> subst z <;> omega)))
def w_yo_type_0_1 : VC := ((bY ++ [(2, 2147483647), ((-2147483648), 2147483647)]), [(0, [(none, 0), (none, 0)], []), (2, [(none, 1), (some 13, 0)], []), (3, [(some 13, 0), (none, 0)], []), (78, [], [1])], (119, [(none, (-2)), (some 13, 0), (some 14, 0)], [1, 2, 1, 2]))
set_option maxRecDepth 20000 in
theorem v_yo_type_0_1 {PT : PTy} (hp : HP7 PT) : vcOk PT w_yo_type_0_1 := vc_iv [(13, 2, 2147483647), (14, (-2147483648), 2147483647)] [1, 2] (by decide +kernel) (fun ρ α => by
  intro r13 g13 b13 r14 g14 b14 a1 h1 a2 h2 f0 f1 f2 f3 tt
  clear f0 f1 f2
  have e78 : PT 78 = P_ly := pe78_7 hp
  have e119 : PT 119 = P_tyY := pe119_7 hp
  simp only [hFp_78, hFp_119, e78, e119, P_ly, P_tyY, den_s, den_c, Int.add_zero, List.map_cons, List.map_nil, g13.eq, g14.eq, h1, h2] at f3 ⊢
  try simp only [updI_at]
  ((repeat' (first | apply And.intro | intro h)) <;> first | omega | rfl | trivial | (exfalso; omega) | (congr 1; omega) | (exfalso; rcases (show r13 = 0 ∨ r13 = 1 by omega) with z | z <;> subst z <;> omega)))
def w_yo_type_0_2 : VC := ((bY ++ [(0, 1), ((-2147483648), (-1))]), [(0, [(none, 0), (none, 0)], []), (2, [(some 14, 0), (none, 0)], []), (1, [(none, 1), (none, 0)], []), (3, [(none, 1), (some 13, 0)], []), (3, [(some 13, 0), (none, 0)], []), (78, [], [1])], (119, [(none, (-2)), (some 13, 0), (some 14, 0)], [1, 2, 1, 2]))
set_option maxRecDepth 20000 in
theorem v_yo_type_0_2 {PT : PTy} (hp : HP7 PT) : vcOk PT w_yo_type_0_2 := vc_iv [(13, 0, 1), (14, (-2147483648), (-1))] [1, 2] (by decide +kernel) (fun ρ α => by
  intro r13 g13 b13 r14 g14 b14 a1 h1 a2 h2 f0 f1 f2 f3 f4 f5 tt
  clear f0 f1 f2 f3 f4
  have e78 : PT 78 = P_ly := pe78_7 hp
  have e119 : PT 119 = P_tyY := pe119_7 hp
  simp only [hFp_78, hFp_119, e78, e119, P_ly, P_tyY, den_s, den_c, Int.add_zero, List.map_cons, List.map_nil, g13.eq, g14.eq, h1, h2] at f5 ⊢
  try simp only [updI_at]
  ((repeat' (first | apply And.intro | intro h)) <;> first | omega | rfl | trivial | (exfalso; omega) | (congr 1; omega) | (exfalso; rcases (show r13 = 0 ∨ r13 = 1 by omega) with z | z <;> subst z <;> omega)))
def w_yo_type_0_3 : VC := ((bY ++ [(0, 1), (256, 2147483647)]), [(0, [(none, 0), (none, 0)], []), (2, [(none, 255), (some 14, 0)], []), (3, [(some 14, 0), (none, 0)], []), (1, [(none, 1), (none, 0)], []), (3, [(none, 1), (some 13, 0)], []), (3, [(some 13, 0), (none, 0)], []), (78, [], [1])], (119, [(none, (-2)), (some 13, 0), (some 14, 0)], [1, 2, 1, 2]))
set_option maxRecDepth 20000 in
theorem v_yo_type_0_3 {PT : PTy} (hp : HP7 PT) : vcOk PT w_yo_type_0_3 := vc_iv [(13, 0, 1), (14, 256, 2147483647)] [1, 2] (by decide +kernel) (fun ρ α => by
  intro r13 g13 b13 r14 g14 b14 a1 h1 a2 h2 f0 f1 f2 f3 f4 f5 f6 tt
  clear f0 f1 f2 f3 f4 f5
  have e78 : PT 78 = P_ly := pe78_7 hp
  have e119 : PT 119 = P_tyY := pe119_7 hp
  simp only [hFp_78, hFp_119, e78, e119, P_ly, P_tyY, den_s, den_c, Int.add_zero, List.map_cons, List.map_nil, g13.eq, g14.eq, h1, h2] at f6 ⊢
  try simp only [updI_at]
  ((repeat' (first | apply And.intro | intro h)) <;> first | omega | rfl | trivial | (exfalso; omega) | (congr 1; omega) | (exfalso; rcases (show r13 = 0 ∨ r13 = 1 by omega) with z | z <;> subst z <;> omega)))
def w_yo_type_0_4 : VC := ((bY ++ [(1, 1), (0, 255), (0, 48), (0, 49)]), [(20, [(some 16, 0), (some 13, 0)], [1]), (1, [(some 15, 0), (none, 49)], []), (1, [(some 13, 0), (none, 0)], []), (20, [(some 15, 0), (some 13, 0)], [1]), (1, [(none, 1), (none, 0)], []), (3, [(none, 255), (some 14, 0)], []), (3, [(some 14, 0), (none, 0)], []), (1, [(none, 1), (none, 0)], []), (3, [(none, 1), (some 13, 0)], []), (3, [(some 13, 0), (none, 0)], []), (78, [], [1])], (3, [(some 16, 49), (none, 0)], []))
set_option maxRecDepth 20000 in
theorem v_yo_type_0_4 {PT : PTy} (hp : HP7 PT) : vcOk PT w_yo_type_0_4 := vc_iv [(13, 1, 1), (15, 0, 48), (16, 0, 49)] [1] (by decide +kernel) (fun ρ α => by
  intro r13 g13 b13 r15 g15 b15 r16 g16 b16 a1 h1 f0 f1 f2 f3 f4 f5 f6 f7 f8 f9 f10 tt
  clear f1 f2 f4 f5 f6 f7 f8 f9
  have e78 : PT 78 = P_ly := pe78_7 hp
  simp only [hF3, hF20, hFp_78, e78, P_ly, den_s, den_c, Int.add_zero, List.map_cons, List.map_nil, g13.eq, g15.eq, g16.eq, h1] at f0 f3 f10 ⊢
  subst f0
  subst f3
  first
    | omega
    | (rcases (show r13 = 0 ∨ r13 = 1 by omega) with h | h <;> subst h <;> omega))
def w_yo_type_0_5 : VC := ((bY ++ [(1, 1), (0, 255), (0, 48), (0, 49)]), [(20, [(some 16, 0), (some 13, 0)], [1]), (1, [(some 15, 0), (none, 49)], []), (1, [(some 13, 0), (none, 0)], []), (20, [(some 15, 0), (some 13, 0)], [1]), (1, [(none, 1), (none, 0)], []), (3, [(none, 255), (some 14, 0)], []), (3, [(some 14, 0), (none, 0)], []), (1, [(none, 1), (none, 0)], []), (3, [(none, 1), (some 13, 0)], []), (3, [(some 13, 0), (none, 0)], []), (78, [], [1])], (3, [(none, 97), (some 16, 49)], []))
set_option maxRecDepth 20000 in
theorem v_yo_type_0_5 {PT : PTy} (hp : HP7 PT) : vcOk PT w_yo_type_0_5 := vc_iv [(13, 1, 1), (15, 0, 48), (16, 0, 49)] [1] (by decide +kernel) (fun ρ α => by
  intro r13 g13 b13 r15 g15 b15 r16 g16 b16 a1 h1 f0 f1 f2 f3 f4 f5 f6 f7 f8 f9 f10 tt
  clear f1 f2 f4 f5 f6 f7 f8 f9
  have e78 : PT 78 = P_ly := pe78_7 hp
  simp only [hF3, hF20, hFp_78, e78, P_ly, den_s, den_c, Int.add_zero, List.map_cons, List.map_nil, g13.eq, g15.eq, g16.eq, h1] at f0 f3 f10 ⊢
  subst f0
  subst f3
  first
    | omega
    | (rcases (show r13 = 0 ∨ r13 = 1 by omega) with h | h <;> subst h <;> omega))
def w_yo_type_0_6 : VC := ((bY ++ [(1, 1), (0, 255), (0, 48), (0, 48), (0, 49)]), [(20, [(some 17, 0), (some 13, 0)], [1]), (21, [(some 16, 49), (some 14, 0)], [35, 2]), (20, [(some 16, 0), (some 13, 0)], [1]), (1, [(some 15, 0), (none, 49)], []), (1, [(some 13, 0), (none, 0)], []), (20, [(some 15, 0), (some 13, 0)], [1]), (1, [(none, 1), (none, 0)], []), (3, [(none, 255), (some 14, 0)], []), (3, [(some 14, 0), (none, 0)], []), (1, [(none, 1), (none, 0)], []), (3, [(none, 1), (some 13, 0)], []), (3, [(some 13, 0), (none, 0)], []), (78, [], [1])], (3, [(some 17, 1), (none, 0)], []))
set_option maxRecDepth 20000 in
theorem v_yo_type_0_6 {PT : PTy} (hp : HP7 PT) : vcOk PT w_yo_type_0_6 := vc_iv [(13, 1, 1), (14, 0, 255), (15, 0, 48), (16, 0, 48), (17, 0, 49)] [1, 2, 35] (by decide +kernel) (fun ρ α => by
  intro r13 g13 b13 r14 g14 b14 r15 g15 b15 r16 g16 b16 r17 g17 b17 a1 h1 a2 h2 a35 h35 f0 f1 f2 f3 f4 f5 f6 f7 f8 f9 f10 f11 f12 tt
  clear f3 f4 f6 f7 f8 f9 f10 f11
  have e78 : PT 78 = P_ly := pe78_7 hp
  simp only [hF3, hF20, hF21, hFp_78, e78, P_ly, den_s, den_c, Int.add_zero, List.map_cons, List.map_nil, g13.eq, g14.eq, g15.eq, g16.eq, g17.eq, h1, h2, h35] at f0 f1 f2 f5 f12 ⊢
  subst f0
  subst f1
  subst f2
  subst f5
  first
    | omega
    | (rcases (show r13 = 0 ∨ r13 = 1 by omega) with h | h <;> subst h <;> omega))
def w_yo_type_0_7 : VC := ((bY ++ [(1, 1), (0, 255), (0, 48), (0, 48), (0, 49)]), [(20, [(some 17, 0), (some 13, 0)], [1]), (21, [(some 16, 49), (some 14, 0)], [35, 2]), (20, [(some 16, 0), (some 13, 0)], [1]), (1, [(some 15, 0), (none, 49)], []), (1, [(some 13, 0), (none, 0)], []), (20, [(some 15, 0), (some 13, 0)], [1]), (1, [(none, 1), (none, 0)], []), (3, [(none, 255), (some 14, 0)], []), (3, [(some 14, 0), (none, 0)], []), (1, [(none, 1), (none, 0)], []), (3, [(none, 1), (some 13, 0)], []), (3, [(some 13, 0), (none, 0)], []), (78, [], [1])], (3, [(none, 49), (some 17, 1)], []))
set_option maxRecDepth 20000 in
theorem v_yo_type_0_7 {PT : PTy} (hp : HP7 PT) : vcOk PT w_yo_type_0_7 := vc_iv [(13, 1, 1), (14, 0, 255), (15, 0, 48), (16, 0, 48), (17, 0, 49)] [1, 2, 35] (by decide +kernel) (fun ρ α => by
  intro r13 g13 b13 r14 g14 b14 r15 g15 b15 r16 g16 b16 r17 g17 b17 a1 h1 a2 h2 a35 h35 f0 f1 f2 f3 f4 f5 f6 f7 f8 f9 f10 f11 f12 tt
  clear f3 f4 f6 f7 f8 f9 f10 f11
  have e78 : PT 78 = P_ly := pe78_7 hp
  simp only [hF3, hF20, hF21, hFp_78, e78, P_ly, den_s, den_c, Int.add_zero, List.map_cons, List.map_nil, g13.eq, g14.eq, g15.eq, g16.eq, g17.eq, h1, h2, h35] at f0 f1 f2 f5 f12 ⊢
  subst f0
  subst f1
  subst f2
  subst f5
  first
    | omega
    | (rcases (show r13 = 0 ∨ r13 = 1 by omega) with h | h <;> subst h <;> omega))
def w_yo_type_0_8 : VC := ((bY ++ [(1, 1), (0, 255), (0, 48), (0, 48), (0, 48), (0, 49)]), [(20, [(some 18, 0), (some 13, 0)], [36]), (21, [(some 13, 0), (some 17, 1)], [36, 1]), (20, [(some 17, 0), (some 13, 0)], [1]), (21, [(some 16, 49), (some 14, 0)], [35, 2]), (20, [(some 16, 0), (some 13, 0)], [1]), (1, [(some 15, 0), (none, 49)], []), (1, [(some 13, 0), (none, 0)], []), (20, [(some 15, 0), (some 13, 0)], [1]), (1, [(none, 1), (none, 0)], []), (3, [(none, 255), (some 14, 0)], []), (3, [(some 14, 0), (none, 0)], []), (1, [(none, 1), (none, 0)], []), (3, [(none, 1), (some 13, 0)], []), (3, [(some 13, 0), (none, 0)], []), (78, [], [1])], (119, [(some 18, 0), (some 13, 0), (some 14, 0)], [1, 2, 36, 35]))
set_option maxRecDepth 20000 in
theorem v_yo_type_0_8 {PT : PTy} (hp : HP7 PT) : vcOk PT w_yo_type_0_8 := vc_iv [(13, 1, 1), (14, 0, 255), (15, 0, 48), (16, 0, 48), (17, 0, 48), (18, 0, 49)] [1, 2, 35, 36] (by decide +kernel) (fun ρ α => by
  intro r13 g13 b13 r14 g14 b14 r15 g15 b15 r16 g16 b16 r17 g17 b17 r18 g18 b18 a1 h1 a2 h2 a35 h35 a36 h36 f0 f1 f2 f3 f4 f5 f6 f7 f8 f9 f10 f11 f12 f13 f14 tt
  clear f5 f6 f8 f9 f10 f11 f12 f13
  have e78 : PT 78 = P_ly := pe78_7 hp
  have e119 : PT 119 = P_tyY := pe119_7 hp
  simp only [hF20, hF21, hFp_78, hFp_119, e78, e119, P_ly, P_tyY, den_s, den_c, Int.add_zero, List.map_cons, List.map_nil, g13.eq, g14.eq, g15.eq, g16.eq, g17.eq, g18.eq, h1, h2, h35, h36] at f0 f1 f2 f3 f4 f7 f14 ⊢
  subst f0
  subst f1
  subst f2
  subst f3
  subst f4
  subst f7
  try simp only [updI_at]
  ((repeat' (first | apply And.intro | intro h)) <;> first | omega | rfl | trivial | (exfalso; omega) | (congr 1; omega) | (exfalso; rcases (show r13 = 0 ∨ r13 = 1 by omega) with z | z <;> subst z <;> omega)))
def w_yo_type_0_9 : VC := ((bY ++ [(1, 1), (0, 255), (49, 49)]), [(0, [(some 15, 0), (none, 49)], []), (1, [(some 13, 0), (none, 0)], []), (20, [(some 15, 0), (some 13, 0)], [1]), (1, [(none, 1), (none, 0)], []), (3, [(none, 255), (some 14, 0)], []), (3, [(some 14, 0), (none, 0)], []), (1, [(none, 1), (none, 0)], []), (3, [(none, 1), (some 13, 0)], []), (3, [(some 13, 0), (none, 0)], []), (78, [], [1])], (119, [(none, (-4)), (some 13, 0), (some 14, 0)], [1, 2, 1, 2]))
set_option maxRecDepth 20000 in
theorem v_yo_type_0_9 {PT : PTy} (hp : HP7 PT) : vcOk PT w_yo_type_0_9 := vc_iv [(13, 1, 1), (14, 0, 255), (15, 49, 49)] [1, 2] (by decide +kernel) (fun ρ α => by
  intro r13 g13 b13 r14 g14 b14 r15 g15 b15 a1 h1 a2 h2 f0 f1 f2 f3 f4 f5 f6 f7 f8 f9 tt
  clear f1 f3 f4 f5 f6 f7 f8
  have e78 : PT 78 = P_ly := pe78_7 hp
  have e119 : PT 119 = P_tyY := pe119_7 hp
  simp only [hF0, hF20, hFp_78, hFp_119, e78, e119, P_ly, P_tyY, den_s, den_c, Int.add_zero, List.map_cons, List.map_nil, g13.eq, g14.eq, g15.eq, h1, h2] at f0 f2 f9 ⊢
  subst f2
  try simp only [updI_at]
  ((repeat' (first | apply And.intro | intro h)) <;> first | omega | rfl | trivial | (exfalso; omega) | (congr 1; omega) | (exfalso; rcases (show r13 = 0 ∨ r13 = 1 by omega) with z | z <;> subst z <;> omega)))
def w_yo_type_0_10 : VC := ((bY ++ [(0, 0), (0, 255), (0, 49), (0, 49), (0, 49)]), [(20, [(some 17, 0), (some 13, 0)], [1]), (21, [(some 16, 0), (some 14, 0)], [35, 2]), (20, [(some 16, 0), (some 13, 0)], [1]), (1, [(some 15, 0), (none, 23)], []), (0, [(some 13, 0), (none, 0)], []), (20, [(some 15, 0), (some 13, 0)], [1]), (1, [(none, 1), (none, 0)], []), (3, [(none, 255), (some 14, 0)], []), (3, [(some 14, 0), (none, 0)], []), (1, [(none, 1), (none, 0)], []), (3, [(none, 1), (some 13, 0)], []), (3, [(some 13, 0), (none, 0)], []), (78, [], [1])], (3, [(some 17, 1), (none, 0)], []))
set_option maxRecDepth 20000 in
theorem v_yo_type_0_10 {PT : PTy} (hp : HP7 PT) : vcOk PT w_yo_type_0_10 := vc_iv [(13, 0, 0), (14, 0, 255), (15, 0, 49), (16, 0, 49), (17, 0, 49)] [1, 2, 35] (by decide +kernel) (fun ρ α => by
  intro r13 g13 b13 r14 g14 b14 r15 g15 b15 r16 g16 b16 r17 g17 b17 a1 h1 a2 h2 a35 h35 f0 f1 f2 f3 f4 f5 f6 f7 f8 f9 f10 f11 f12 tt
  clear f6 f7 f8 f9 f10 f11
  have e78 : PT 78 = P_ly := pe78_7 hp
  simp only [hF0, hF1, hF3, hF20, hF21, hFp_78, e78, P_ly, den_s, den_c, Int.add_zero, List.map_cons, List.map_nil, g13.eq, g14.eq, g15.eq, g16.eq, g17.eq, h1, h2, h35] at f0 f1 f2 f3 f4 f5 f12 ⊢
  subst f0
  subst f1
  subst f2
  subst f5
  first
    | omega
    | (rcases (show r13 = 0 ∨ r13 = 1 by omega) with h | h <;> subst h <;> omega))
def w_yo_type_0_11 : VC := ((bY ++ [(0, 0), (0, 255), (0, 49), (0, 49), (0, 49)]), [(20, [(some 17, 0), (some 13, 0)], [1]), (21, [(some 16, 0), (some 14, 0)], [35, 2]), (20, [(some 16, 0), (some 13, 0)], [1]), (1, [(some 15, 0), (none, 23)], []), (0, [(some 13, 0), (none, 0)], []), (20, [(some 15, 0), (some 13, 0)], [1]), (1, [(none, 1), (none, 0)], []), (3, [(none, 255), (some 14, 0)], []), (3, [(some 14, 0), (none, 0)], []), (1, [(none, 1), (none, 0)], []), (3, [(none, 1), (some 13, 0)], []), (3, [(some 13, 0), (none, 0)], []), (78, [], [1])], (3, [(none, 49), (some 17, 1)], []))
set_option maxRecDepth 20000 in
theorem v_yo_type_0_11 {PT : PTy} (hp : HP7 PT) : vcOk PT w_yo_type_0_11 := vc_iv [(13, 0, 0), (14, 0, 255), (15, 0, 49), (16, 0, 49), (17, 0, 49)] [1, 2, 35] (by decide +kernel) (fun ρ α => by
  intro r13 g13 b13 r14 g14 b14 r15 g15 b15 r16 g16 b16 r17 g17 b17 a1 h1 a2 h2 a35 h35 f0 f1 f2 f3 f4 f5 f6 f7 f8 f9 f10 f11 f12 tt
  clear f6 f7 f8 f9 f10 f11
  have e78 : PT 78 = P_ly := pe78_7 hp
  simp only [hF0, hF1, hF3, hF20, hF21, hFp_78, e78, P_ly, den_s, den_c, Int.add_zero, List.map_cons, List.map_nil, g13.eq, g14.eq, g15.eq, g16.eq, g17.eq, h1, h2, h35] at f0 f1 f2 f3 f4 f5 f12 ⊢
  subst f0
  subst f1
  subst f2
  subst f5
  first
    | omega
    | (rcases (show r13 = 0 ∨ r13 = 1 by omega) with h | h <;> subst h <;> omega))
def w_yo_type_0_12 : VC := ((bY ++ [(0, 0), (0, 255), (0, 49), (0, 49), (0, 48), (0, 49)]), [(20, [(some 18, 0), (some 13, 0)], [36]), (21, [(some 13, 0), (some 17, 1)], [36, 1]), (20, [(some 17, 0), (some 13, 0)], [1]), (21, [(some 16, 0), (some 14, 0)], [35, 2]), (20, [(some 16, 0), (some 13, 0)], [1]), (1, [(some 15, 0), (none, 23)], []), (0, [(some 13, 0), (none, 0)], []), (20, [(some 15, 0), (some 13, 0)], [1]), (1, [(none, 1), (none, 0)], []), (3, [(none, 255), (some 14, 0)], []), (3, [(some 14, 0), (none, 0)], []), (1, [(none, 1), (none, 0)], []), (3, [(none, 1), (some 13, 0)], []), (3, [(some 13, 0), (none, 0)], []), (78, [], [1])], (119, [(some 18, 0), (some 13, 0), (some 14, 0)], [1, 2, 36, 35]))
set_option maxRecDepth 20000 in
theorem v_yo_type_0_12 {PT : PTy} (hp : HP7 PT) : vcOk PT w_yo_type_0_12 := vc_iv [(13, 0, 0), (14, 0, 255), (15, 0, 49), (16, 0, 49), (17, 0, 48), (18, 0, 49)] [1, 2, 35, 36] (by decide +kernel) (fun ρ α => by
  intro r13 g13 b13 r14 g14 b14 r15 g15 b15 r16 g16 b16 r17 g17 b17 r18 g18 b18 a1 h1 a2 h2 a35 h35 a36 h36 f0 f1 f2 f3 f4 f5 f6 f7 f8 f9 f10 f11 f12 f13 f14 tt
  clear f8 f9 f10 f11 f12 f13
  have e78 : PT 78 = P_ly := pe78_7 hp
  have e119 : PT 119 = P_tyY := pe119_7 hp
  simp only [hF0, hF1, hF20, hF21, hFp_78, hFp_119, e78, e119, P_ly, P_tyY, den_s, den_c, Int.add_zero, List.map_cons, List.map_nil, g13.eq, g14.eq, g15.eq, g16.eq, g17.eq, g18.eq, h1, h2, h35, h36] at f0 f1 f2 f3 f4 f5 f6 f7 f14 ⊢
  subst f0
  subst f1
  subst f2
  subst f3
  subst f4
  subst f7
  try simp only [updI_at]
  ((repeat' (first | apply And.intro | intro h)) <;> first | omega | rfl | trivial | (exfalso; omega) | (congr 1; omega) | (exfalso; rcases (show r13 = 0 ∨ r13 = 1 by omega) with z | z <;> subst z <;> omega)))
def w_yo_type_0_13 : VC := ((bY ++ [(0, 0), (0, 255), (23, 23)]), [(0, [(some 15, 0), (none, 23)], []), (0, [(some 13, 0), (none, 0)], []), (20, [(some 15, 0), (some 13, 0)], [1]), (1, [(none, 1), (none, 0)], []), (3, [(none, 255), (some 14, 0)], []), (3, [(some 14, 0), (none, 0)], []), (1, [(none, 1), (none, 0)], []), (3, [(none, 1), (some 13, 0)], []), (3, [(some 13, 0), (none, 0)], []), (78, [], [1])], (119, [(none, (-4)), (some 13, 0), (some 14, 0)], [1, 2, 1, 2]))
set_option maxRecDepth 20000 in
theorem v_yo_type_0_13 {PT : PTy} (hp : HP7 PT) : vcOk PT w_yo_type_0_13 := vc_iv [(13, 0, 0), (14, 0, 255), (15, 23, 23)] [1, 2] (by decide +kernel) (fun ρ α => by
  intro r13 g13 b13 r14 g14 b14 r15 g15 b15 a1 h1 a2 h2 f0 f1 f2 f3 f4 f5 f6 f7 f8 f9 tt
  clear f3 f4 f5 f6 f7 f8
  have e78 : PT 78 = P_ly := pe78_7 hp
  have e119 : PT 119 = P_tyY := pe119_7 hp
  simp only [hF0, hF20, hFp_78, hFp_119, e78, e119, P_ly, P_tyY, den_s, den_c, Int.add_zero, List.map_cons, List.map_nil, g13.eq, g14.eq, g15.eq, h1, h2] at f0 f1 f2 f9 ⊢
  subst f2
  try simp only [updI_at]
  ((repeat' (first | apply And.intro | intro h)) <;> first | omega | rfl | trivial | (exfalso; omega) | (congr 1; omega) | (exfalso; rcases (show r13 = 0 ∨ r13 = 1 by omega) with z | z <;> subst z <;> omega)))
set_option maxRecDepth 1000000 in
theorem k_yo_type {PT : PTy} (hp : HP7 PT) : wfX c_yo_type = true ∧ xcOk PT c_yo_type := xctr (xl0) c_yo_type 85 mX7_type rfl h_yo_type (by decide +kernel) (by decide +kernel) (by decide) (vcs_by [w_yo_type_0_0, w_yo_type_0_1, w_yo_type_0_2, w_yo_type_0_3, w_yo_type_0_4, w_yo_type_0_5, w_yo_type_0_6, w_yo_type_0_7, w_yo_type_0_8, w_yo_type_0_9, w_yo_type_0_10, w_yo_type_0_11, w_yo_type_0_12, w_yo_type_0_13] (by decide +kernel) (vc (v_yo_type_0_0 hp) (vc (v_yo_type_0_1 hp) (vc (v_yo_type_0_2 hp) (vc (v_yo_type_0_3 hp) (vc (v_yo_type_0_4 hp) (vc (v_yo_type_0_5 hp) (vc (v_yo_type_0_6 hp) (vc (v_yo_type_0_7 hp) (vc (v_yo_type_0_8 hp) (vc (v_yo_type_0_9 hp) (vc (v_yo_type_0_10 hp) (vc (v_yo_type_0_11 hp) (vc (v_yo_type_0_12 hp) (vc (v_yo_type_0_13 hp) vn))))))))))))))) fmn
def c_yo_wipe : XC := (112, 2, (bY ++ [((-2147483648), 2147483647)]), [.inr (.inl 0), .inl (some 13, 0)], gY2, [], [((bY ++ [((-2147483648), 2147483647), ((-2), 49)]), some (.inl (some 14, 0)), gY2, (ansT 35 [(1, 35)]), 36, [(120, [(some 14, 0), (some 13, 0)], [1, 35])])])
def h_yo_wipe : List XH := []
def w_yo_wipe_0_0 : VC := ((bY ++ [((-2147483648), (-1))]), [(0, [(none, 0), (none, 0)], []), (2, [(some 13, 0), (none, 0)], [])], (120, [(none, (-2)), (some 13, 0)], [1, 1]))
theorem pe120_7 {PT : PTy} (hp : HP7 PT) : PT 120 = P_wiY := hp.2.2.1
set_option maxRecDepth 20000 in
theorem v_yo_wipe_0_0 {PT : PTy} (hp : HP7 PT) : vcOk PT w_yo_wipe_0_0 := vc_iv [(13, (-2147483648), (-1))] [1] (by decide +kernel) (fun ρ α => by
  intro r13 g13 b13 a1 h1 f0 f1 tt
  clear f0 f1
  have e120 : PT 120 = P_wiY := pe120_7 hp
  simp only [hFp_120, e120, P_wiY, den_s, den_c, Int.add_zero, List.map_cons, List.map_nil, g13.eq, h1] at ⊢
  try simp only [updI_at]
  ((repeat' (first | apply And.intro | intro h)) <;> first | omega | rfl | trivial | (exfalso; omega) | (congr 1; omega) | (exfalso; rcases (show r13 = 0 ∨ r13 = 1 by omega) with z | z <;> subst z <;> omega)))
def w_yo_wipe_0_1 : VC := ((bY ++ [(2, 2147483647)]), [(0, [(none, 0), (none, 0)], []), (2, [(none, 1), (some 13, 0)], []), (3, [(some 13, 0), (none, 0)], [])], (120, [(none, (-2)), (some 13, 0)], [1, 1]))
set_option maxRecDepth 20000 in
theorem v_yo_wipe_0_1 {PT : PTy} (hp : HP7 PT) : vcOk PT w_yo_wipe_0_1 := vc_iv [(13, 2, 2147483647)] [1] (by decide +kernel) (fun ρ α => by
  intro r13 g13 b13 a1 h1 f0 f1 f2 tt
  clear f0 f1 f2
  have e120 : PT 120 = P_wiY := pe120_7 hp
  simp only [hFp_120, e120, P_wiY, den_s, den_c, Int.add_zero, List.map_cons, List.map_nil, g13.eq, h1] at ⊢
  try simp only [updI_at]
  ((repeat' (first | apply And.intro | intro h)) <;> first | omega | rfl | trivial | (exfalso; omega) | (congr 1; omega) | (exfalso; rcases (show r13 = 0 ∨ r13 = 1 by omega) with z | z <;> subst z <;> omega)))
def w_yo_wipe_0_2 : VC := ((bY ++ [(0, 1), (0, 49)]), [(21, [(some 13, 0), (none, 0)], [35, 1]), (20, [(some 14, 0), (some 13, 0)], [1]), (1, [(none, 1), (none, 0)], []), (3, [(none, 1), (some 13, 0)], []), (3, [(some 13, 0), (none, 0)], [])], (120, [(some 14, 0), (some 13, 0)], [1, 35]))
set_option maxRecDepth 20000 in
theorem v_yo_wipe_0_2 {PT : PTy} (hp : HP7 PT) : vcOk PT w_yo_wipe_0_2 := vc_iv [(13, 0, 1), (14, 0, 49)] [1, 35] (by decide +kernel) (fun ρ α => by
  intro r13 g13 b13 r14 g14 b14 a1 h1 a35 h35 f0 f1 f2 f3 f4 tt
  clear f2 f3 f4
  have e120 : PT 120 = P_wiY := pe120_7 hp
  simp only [hF20, hF21, hFp_120, e120, P_wiY, den_s, den_c, Int.add_zero, List.map_cons, List.map_nil, g13.eq, g14.eq, h1, h35] at f0 f1 ⊢
  subst f0
  subst f1
  try simp only [updI_at]
  ((repeat' (first | apply And.intro | intro h)) <;> first | omega | rfl | trivial | (exfalso; omega) | (congr 1; omega) | (exfalso; rcases (show r13 = 0 ∨ r13 = 1 by omega) with z | z <;> subst z <;> omega)))
set_option maxRecDepth 1000000 in
theorem k_yo_wipe {PT : PTy} (hp : HP7 PT) : wfX c_yo_wipe = true ∧ xcOk PT c_yo_wipe := xctr (xl0) c_yo_wipe 49 mX7_wipe rfl h_yo_wipe (by decide +kernel) (by decide +kernel) (by decide) (vcs_by [w_yo_wipe_0_0, w_yo_wipe_0_1, w_yo_wipe_0_2] (by decide +kernel) (vc (v_yo_wipe_0_0 hp) (vc (v_yo_wipe_0_1 hp) (vc (v_yo_wipe_0_2 hp) vn)))) fmn
def c_yo_undo : XC := (113, 2, (bY ++ [((-2147483648), 2147483647)]), [.inr (.inl 0), .inl (some 13, 0)], gY2, [], [((bY ++ [((-2147483648), 2147483647), ((-3), 49)]), some (.inl (some 14, 0)), gY2, (ansT 35 [(1, 35)]), 36, [(121, [(some 14, 0), (some 13, 0)], [1, 35])])])
def h_yo_undo : List XH := []
def w_yo_undo_0_0 : VC := ((bY ++ [((-2147483648), (-1))]), [(0, [(none, 0), (none, 0)], []), (2, [(some 13, 0), (none, 0)], [])], (121, [(none, (-2)), (some 13, 0)], [1, 1]))
theorem pe121_7 {PT : PTy} (hp : HP7 PT) : PT 121 = P_unY := hp.2.2.2.1
set_option maxRecDepth 20000 in
theorem v_yo_undo_0_0 {PT : PTy} (hp : HP7 PT) : vcOk PT w_yo_undo_0_0 := vc_iv [(13, (-2147483648), (-1))] [1] (by decide +kernel) (fun ρ α => by
  intro r13 g13 b13 a1 h1 f0 f1 tt
  clear f0 f1
  have e121 : PT 121 = P_unY := pe121_7 hp
  simp only [hFp_121, e121, P_unY, den_s, den_c, Int.add_zero, List.map_cons, List.map_nil, g13.eq, h1] at ⊢
  try simp only [updI_at]
  ((repeat' (first | apply And.intro | intro h)) <;> first | omega | rfl | trivial | (exfalso; omega) | (congr 1; omega) | (exfalso; rcases (show r13 = 0 ∨ r13 = 1 by omega) with z | z <;> subst z <;> omega)))
def w_yo_undo_0_1 : VC := ((bY ++ [(2, 2147483647)]), [(0, [(none, 0), (none, 0)], []), (2, [(none, 1), (some 13, 0)], []), (3, [(some 13, 0), (none, 0)], [])], (121, [(none, (-2)), (some 13, 0)], [1, 1]))
set_option maxRecDepth 20000 in
theorem v_yo_undo_0_1 {PT : PTy} (hp : HP7 PT) : vcOk PT w_yo_undo_0_1 := vc_iv [(13, 2, 2147483647)] [1] (by decide +kernel) (fun ρ α => by
  intro r13 g13 b13 a1 h1 f0 f1 f2 tt
  clear f0 f1 f2
  have e121 : PT 121 = P_unY := pe121_7 hp
  simp only [hFp_121, e121, P_unY, den_s, den_c, Int.add_zero, List.map_cons, List.map_nil, g13.eq, h1] at ⊢
  try simp only [updI_at]
  ((repeat' (first | apply And.intro | intro h)) <;> first | omega | rfl | trivial | (exfalso; omega) | (congr 1; omega) | (exfalso; rcases (show r13 = 0 ∨ r13 = 1 by omega) with z | z <;> subst z <;> omega)))
def w_yo_undo_0_2 : VC := ((bY ++ [(0, 1), (1, 49), (0, 49)]), [(20, [(some 15, 0), (some 13, 0)], [1]), (1, [(some 14, 0), (none, 0)], []), (20, [(some 14, 0), (some 13, 0)], [1]), (1, [(none, 1), (none, 0)], []), (3, [(none, 1), (some 13, 0)], []), (3, [(some 13, 0), (none, 0)], [])], (3, [(some 15, (-1)), (none, 0)], []))
set_option maxRecDepth 20000 in
theorem v_yo_undo_0_2 {PT : PTy} (hp : HP7 PT) : vcOk PT w_yo_undo_0_2 := vc_iv [(13, 0, 1), (14, 1, 49), (15, 0, 49)] [1] (by decide +kernel) (fun ρ α => by
  intro r13 g13 b13 r14 g14 b14 r15 g15 b15 a1 h1 f0 f1 f2 f3 f4 f5 tt
  clear f1 f3 f4 f5
  simp only [hF3, hF20, den_s, den_c, Int.add_zero, List.map_cons, List.map_nil, g13.eq, g14.eq, g15.eq, h1] at f0 f2 ⊢
  subst f0
  subst f2
  first
    | omega
    | (rcases (show r13 = 0 ∨ r13 = 1 by omega) with h | h <;> subst h <;> omega))
def w_yo_undo_0_3 : VC := ((bY ++ [(0, 1), (1, 49), (0, 49)]), [(20, [(some 15, 0), (some 13, 0)], [1]), (1, [(some 14, 0), (none, 0)], []), (20, [(some 14, 0), (some 13, 0)], [1]), (1, [(none, 1), (none, 0)], []), (3, [(none, 1), (some 13, 0)], []), (3, [(some 13, 0), (none, 0)], [])], (3, [(none, 49), (some 15, (-1))], []))
set_option maxRecDepth 20000 in
theorem v_yo_undo_0_3 {PT : PTy} (hp : HP7 PT) : vcOk PT w_yo_undo_0_3 := vc_iv [(13, 0, 1), (14, 1, 49), (15, 0, 49)] [1] (by decide +kernel) (fun ρ α => by
  intro r13 g13 b13 r14 g14 b14 r15 g15 b15 a1 h1 f0 f1 f2 f3 f4 f5 tt
  clear f1 f3 f4 f5
  simp only [hF3, hF20, den_s, den_c, Int.add_zero, List.map_cons, List.map_nil, g13.eq, g14.eq, g15.eq, h1] at f0 f2 ⊢
  subst f0
  subst f2
  first
    | omega
    | (rcases (show r13 = 0 ∨ r13 = 1 by omega) with h | h <;> subst h <;> omega))
def w_yo_undo_0_4 : VC := ((bY ++ [(0, 1), (1, 49), (1, 49), (0, 49)]), [(20, [(some 16, 0), (some 13, 0)], [35]), (21, [(some 13, 0), (some 15, (-1))], [35, 1]), (20, [(some 15, 0), (some 13, 0)], [1]), (1, [(some 14, 0), (none, 0)], []), (20, [(some 14, 0), (some 13, 0)], [1]), (1, [(none, 1), (none, 0)], []), (3, [(none, 1), (some 13, 0)], []), (3, [(some 13, 0), (none, 0)], [])], (121, [(some 16, 0), (some 13, 0)], [1, 35]))
set_option maxRecDepth 20000 in
theorem v_yo_undo_0_4 {PT : PTy} (hp : HP7 PT) : vcOk PT w_yo_undo_0_4 := vc_iv [(13, 0, 1), (14, 1, 49), (15, 1, 49), (16, 0, 49)] [1, 35] (by decide +kernel) (fun ρ α => by
  intro r13 g13 b13 r14 g14 b14 r15 g15 b15 r16 g16 b16 a1 h1 a35 h35 f0 f1 f2 f3 f4 f5 f6 f7 tt
  clear f3 f5 f6 f7
  have e121 : PT 121 = P_unY := pe121_7 hp
  simp only [hF20, hF21, hFp_121, e121, P_unY, den_s, den_c, Int.add_zero, List.map_cons, List.map_nil, g13.eq, g14.eq, g15.eq, g16.eq, h1, h35] at f0 f1 f2 f4 ⊢
  subst f0
  subst f1
  subst f2
  subst f4
  try simp only [updI_at]
  ((repeat' (first | apply And.intro | intro h)) <;> first | omega | rfl | trivial | (exfalso; omega) | (congr 1; omega) | (exfalso; rcases (show r13 = 0 ∨ r13 = 1 by omega) with z | z <;> subst z <;> omega)))
def w_yo_undo_0_5 : VC := ((bY ++ [(0, 1), (0, 0)]), [(0, [(some 14, 0), (none, 0)], []), (20, [(some 14, 0), (some 13, 0)], [1]), (1, [(none, 1), (none, 0)], []), (3, [(none, 1), (some 13, 0)], []), (3, [(some 13, 0), (none, 0)], [])], (121, [(none, (-3)), (some 13, 0)], [1, 1]))
set_option maxRecDepth 20000 in
theorem v_yo_undo_0_5 {PT : PTy} (hp : HP7 PT) : vcOk PT w_yo_undo_0_5 := vc_iv [(13, 0, 1), (14, 0, 0)] [1] (by decide +kernel) (fun ρ α => by
  intro r13 g13 b13 r14 g14 b14 a1 h1 f0 f1 f2 f3 f4 tt
  clear f2 f3 f4
  have e121 : PT 121 = P_unY := pe121_7 hp
  simp only [hF0, hF20, hFp_121, e121, P_unY, den_s, den_c, Int.add_zero, List.map_cons, List.map_nil, g13.eq, g14.eq, h1] at f0 f1 ⊢
  subst f1
  try simp only [updI_at]
  ((repeat' (first | apply And.intro | intro h)) <;> first | omega | rfl | trivial | (exfalso; omega) | (congr 1; omega) | (exfalso; rcases (show r13 = 0 ∨ r13 = 1 by omega) with z | z <;> subst z <;> omega)))
set_option maxRecDepth 1000000 in
theorem k_yo_undo {PT : PTy} (hp : HP7 PT) : wfX c_yo_undo = true ∧ xcOk PT c_yo_undo := xctr (xl0) c_yo_undo 55 mX7_undo rfl h_yo_undo (by decide +kernel) (by decide +kernel) (by decide) (vcs_by [w_yo_undo_0_0, w_yo_undo_0_1, w_yo_undo_0_2, w_yo_undo_0_3, w_yo_undo_0_4, w_yo_undo_0_5] (by decide +kernel) (vc (v_yo_undo_0_0 hp) (vc (v_yo_undo_0_1 hp) (vc (v_yo_undo_0_2 hp) (vc (v_yo_undo_0_3 hp) (vc (v_yo_undo_0_4 hp) (vc (v_yo_undo_0_5 hp) vn))))))) fmn
def c_yo_fault : XC := (120, 4, (bY ++ [((-2147483648), 2147483647)]), [.inr (.inl 0), .inl (some 13, 0)], gY2, [(78, [], [1])], [((bY ++ [((-2147483648), 2147483647), ((-2), 54), (0, 8), (0, 10)]), some (.inl (some 14, 0)), (hst gY2 [(0, .inr (.inr (.inr (7, [.inr (.inl 1), .inr (.inl 2), .inl (some 15, 0), .inr (.inl 3), .inr (.inl 4), .inl (some 16, 0), .inr (.inl 5), .inr (.inl 6), .inr (.inl 7), .inr (.inl 8), .inl (some 4, 0), .inr (.inl 9), .inr (.inl 10), .inl (some 5, 0), .inr (.inl 11), .inr (.inl 12), .inr (.inl 13), .inl (some 6, 0), .inr (.inl 14), .inr (.inl 15), .inr (.inl 16), .inl (some 8, 0), .inl (some 9, 0), .inr (.inl 17), .inr (.inl 18), .inl (some 10, 0), .inl (some 11, 0), .inr (.inl 19), .inr (.inl 20), .inr (.inl 21), .inr (.inl 22), .inr (.inl 23), .inr (.inl 24), .inr (.inl 25), .inl (some 7, 0), .inr (.inl 26), .inr (.inl 27), .inr (.inl 28), .inr (.inl 29), .inr (.inl 30), .inr (.inl 31), .inr (.inl 32), .inr (.inl 33), .inr (.inl 34), .inl (some 12, 0)]))))]), (ansT 35 [(3, 35), (4, 36), (5, 37), (6, 38), (7, 39), (8, 40)]), 41, [(122, [(some 14, 0), (some 13, 0)], [1, 2])])])
def h_yo_fault : List XH := []
def w_yo_fault_0_0 : VC := ((bY ++ [((-2147483648), (-1))]), [(0, [(none, 0), (none, 0)], []), (2, [(some 13, 0), (none, 0)], []), (78, [], [1])], (122, [(none, (-2)), (some 13, 0)], [1, 2]))
theorem pe122_7 {PT : PTy} (hp : HP7 PT) : PT 122 = P_faY := hp.2.2.2.2.1
set_option maxRecDepth 20000 in
theorem v_yo_fault_0_0 {PT : PTy} (hp : HP7 PT) : vcOk PT w_yo_fault_0_0 := vc_iv [(13, (-2147483648), (-1))] [1, 2] (by decide +kernel) (fun ρ α => by
  intro r13 g13 b13 a1 h1 a2 h2 f0 f1 f2 tt
  clear f0 f1
  have e78 : PT 78 = P_ly := pe78_7 hp
  have e122 : PT 122 = P_faY := pe122_7 hp
  simp only [hFp_78, hFp_122, e78, e122, P_ly, P_faY, den_s, den_c, Int.add_zero, List.map_cons, List.map_nil, g13.eq, h1, h2] at f2 ⊢
  first
    | (obtain ⟨x, y, h1, h2, h3⟩ := MISSING
       refine ⟨fun h => ?_, fun h => ?_, fun h h' => ?_⟩
       · rw [h3, if_pos h]; exact h1.1
       · rw [h3, if_neg (by omega)]; exact h2.1
       · exfalso; omega)
    | (refine ⟨fun h => ?_, fun h => ?_, fun h h' => ?_⟩
       all_goals first
         | rfl
         | trivial
         | (exfalso; omega)))
def w_yo_fault_0_1 : VC := ((bY ++ [(2, 2147483647)]), [(0, [(none, 0), (none, 0)], []), (2, [(none, 1), (some 13, 0)], []), (3, [(some 13, 0), (none, 0)], []), (78, [], [1])], (122, [(none, (-2)), (some 13, 0)], [1, 2]))
set_option maxRecDepth 20000 in
theorem v_yo_fault_0_1 {PT : PTy} (hp : HP7 PT) : vcOk PT w_yo_fault_0_1 := vc_iv [(13, 2, 2147483647)] [1, 2] (by decide +kernel) (fun ρ α => by
  intro r13 g13 b13 a1 h1 a2 h2 f0 f1 f2 f3 tt
  clear f0 f1 f2
  have e78 : PT 78 = P_ly := pe78_7 hp
  have e122 : PT 122 = P_faY := pe122_7 hp
  simp only [hFp_78, hFp_122, e78, e122, P_ly, P_faY, den_s, den_c, Int.add_zero, List.map_cons, List.map_nil, g13.eq, h1, h2] at f3 ⊢
  first
    | (obtain ⟨x, y, h1, h2, h3⟩ := MISSING
       refine ⟨fun h => ?_, fun h => ?_, fun h h' => ?_⟩
       · rw [h3, if_pos h]; exact h1.1
       · rw [h3, if_neg (by omega)]; exact h2.1
       · exfalso; omega)
    | (refine ⟨fun h => ?_, fun h => ?_, fun h h' => ?_⟩
       all_goals first
         | rfl
         | trivial
         | (exfalso; omega)))
def w_yo_fault_0_2 : VC := ((bY ++ [(0, 1), ((-1), 54), (0, 8), (0, 10)]), [(79, [(some 14, 0), (some 13, 0), (some 15, 0), (some 16, 0)], [1, 2, 35, 36, 37, 38, 39, 40]), (1, [(none, 1), (none, 0)], []), (3, [(none, 1), (some 13, 0)], []), (3, [(some 13, 0), (none, 0)], []), (78, [], [1])], (122, [(some 14, 0), (some 13, 0)], [1, 2]))
theorem pe79_7 {PT : PTy} (hp : HP7 PT) : PT 79 = P_fo := hp.1.1.1.1.1.2.2.2.2.2.2.2.2.1
set_option maxRecDepth 20000 in
theorem v_yo_fault_0_2 {PT : PTy} (hp : HP7 PT) : vcOk PT w_yo_fault_0_2 := vc_iv [(13, 0, 1), (14, (-1), 54), (15, 0, 8), (16, 0, 10)] [1, 2, 35, 36, 37, 38, 39, 40] (by decide +kernel) (fun ρ α => by
  intro r13 g13 b13 r14 g14 b14 r15 g15 b15 r16 g16 b16 a1 h1 a2 h2 a35 h35 a36 h36 a37 h37 a38 h38 a39 h39 a40 h40 f0 f1 f2 f3 f4 tt
  clear f1 f2 f3
  have e78 : PT 78 = P_ly := pe78_7 hp
  have e79 : PT 79 = P_fo := pe79_7 hp
  have e122 : PT 122 = P_faY := pe122_7 hp
  simp only [hFp_78, hFp_79, hFp_122, e78, e79, e122, P_ly, P_fo, P_faY, den_s, den_c, Int.add_zero, List.map_cons, List.map_nil, g13.eq, g14.eq, g15.eq, g16.eq, h1, h2, h35, h36, h37, h38, h39, h40] at f0 f4 ⊢
  first
    | (obtain ⟨x, y, h1, h2, h3⟩ := f0
       refine ⟨fun h => ?_, fun h => ?_, fun h h' => ?_⟩
       · rw [h3, if_pos h]; exact h1.1
       · rw [h3, if_neg (by omega)]; exact h2.1
       · exfalso; omega)
    | (refine ⟨fun h => ?_, fun h => ?_, fun h h' => ?_⟩
       all_goals first
         | rfl
         | trivial
         | (exfalso; omega)))
set_option maxRecDepth 1000000 in
theorem k_yo_fault {PT : PTy} (hp : HP7 PT) : wfX c_yo_fault = true ∧ xcOk PT c_yo_fault := xctr (xl (k_faultOf hp.1.1.1.1.1) (xl0)) c_yo_fault 42 mX7_fault rfl h_yo_fault (by decide +kernel) (by decide +kernel) (by decide) (vcs_by [w_yo_fault_0_0, w_yo_fault_0_1, w_yo_fault_0_2] (by decide +kernel) (vc (v_yo_fault_0_0 hp) (vc (v_yo_fault_0_1 hp) (vc (v_yo_fault_0_2 hp) vn)))) fmn
def c_yo_person : XC := (124, 6, (bY ++ [((-2147483648), 2147483647), ((-2147483648), 2147483647)]), [.inr (.inl 0), .inl (some 13, 0), .inl (some 14, 0)], gY2, [(78, [], [1])], [((bY ++ [((-2147483648), 2147483647), ((-2147483648), 2147483647), ((-2), 9), (0, 8), (0, 10)]), some (.inl (some 15, 0)), (hst gY2 [(0, .inr (.inr (.inr (7, [.inr (.inl 1), .inr (.inl 2), .inl (some 16, 0), .inr (.inl 3), .inr (.inl 4), .inl (some 17, 0), .inr (.inl 5), .inr (.inl 6), .inr (.inl 7), .inr (.inl 8), .inl (some 4, 0), .inr (.inl 9), .inr (.inl 10), .inl (some 5, 0), .inr (.inl 11), .inr (.inl 12), .inr (.inl 13), .inl (some 6, 0), .inr (.inl 14), .inr (.inl 15), .inr (.inl 16), .inl (some 8, 0), .inl (some 9, 0), .inr (.inl 17), .inr (.inl 18), .inl (some 10, 0), .inl (some 11, 0), .inr (.inl 19), .inr (.inl 20), .inr (.inl 21), .inr (.inl 22), .inr (.inl 23), .inr (.inl 24), .inr (.inl 25), .inl (some 7, 0), .inr (.inl 26), .inr (.inl 27), .inr (.inl 28), .inr (.inl 29), .inr (.inl 30), .inr (.inl 31), .inr (.inl 32), .inr (.inl 33), .inr (.inl 34), .inl (some 12, 0)]))))]), (ansT 35 [(3, 35), (4, 36), (5, 37), (6, 38), (7, 39), (8, 40)]), 41, [(123, [(some 15, 0), (some 13, 0), (some 14, 0), (some 16, 0)], [1, 2, 35, 36])])])
def h_yo_person : List XH := []
def w_yo_person_0_0 : VC := ((bY ++ [((-2147483648), (-1)), ((-2147483648), 2147483647), ((-1), 54), (0, 8), (0, 10)]), [(0, [(none, 0), (none, 0)], []), (2, [(some 13, 0), (none, 0)], []), (79, [(some 15, 0), (none, 0), (some 16, 0), (some 17, 0)], [1, 2, 35, 36, 37, 38, 39, 40]), (78, [], [1])], (123, [(none, (-2)), (some 13, 0), (some 14, 0), (some 16, 0)], [1, 2, 35, 36]))
theorem pe123_7 {PT : PTy} (hp : HP7 PT) : PT 123 = P_peY := hp.2.2.2.2.2.1
set_option maxRecDepth 20000 in
theorem v_yo_person_0_0 {PT : PTy} (hp : HP7 PT) : vcOk PT w_yo_person_0_0 := vc_iv [(13, (-2147483648), (-1)), (14, (-2147483648), 2147483647), (15, (-1), 54), (16, 0, 8), (17, 0, 10)] [1, 2, 35, 36, 37, 38, 39, 40] (by decide +kernel) (fun ρ α => by
  intro r13 g13 b13 r14 g14 b14 r15 g15 b15 r16 g16 b16 r17 g17 b17 a1 h1 a2 h2 a35 h35 a36 h36 a37 h37 a38 h38 a39 h39 a40 h40 f0 f1 f2 f3 tt
  clear f0 f1
  have e78 : PT 78 = P_ly := pe78_7 hp
  have e79 : PT 79 = P_fo := pe79_7 hp
  have e123 : PT 123 = P_peY := pe123_7 hp
  simp only [hFp_78, hFp_79, hFp_123, e78, e79, e123, P_ly, P_fo, P_peY, den_s, den_c, Int.add_zero, List.map_cons, List.map_nil, g13.eq, g14.eq, g15.eq, g16.eq, g17.eq, h1, h2, h35, h36, h37, h38, h39, h40] at f2 f3 ⊢
  obtain ⟨x, y, h1, h2, h3⟩ := f2
  refine ⟨h1.2.1, h1.2.2, ?_⟩
  ((repeat' (first | apply And.intro | intro h)) <;> first | omega | rfl | trivial | (exfalso; omega)))
def w_yo_person_0_1 : VC := ((bY ++ [(0, 2147483647), ((-2147483648), 2147483647), ((-1), 54), (0, 8), (0, 10)]), [(0, [(none, 0), (none, 0)], []), (2, [(some 16, (-1)), (some 13, 0)], []), (3, [(some 13, 0), (none, 0)], []), (79, [(some 15, 0), (none, 0), (some 16, 0), (some 17, 0)], [1, 2, 35, 36, 37, 38, 39, 40]), (78, [], [1])], (123, [(none, (-2)), (some 13, 0), (some 14, 0), (some 16, 0)], [1, 2, 35, 36]))
set_option maxRecDepth 20000 in
theorem v_yo_person_0_1 {PT : PTy} (hp : HP7 PT) : vcOk PT w_yo_person_0_1 := vc_iv [(13, 0, 2147483647), (14, (-2147483648), 2147483647), (15, (-1), 54), (16, 0, 8), (17, 0, 10)] [1, 2, 35, 36, 37, 38, 39, 40] (by decide +kernel) (fun ρ α => by
  intro r13 g13 b13 r14 g14 b14 r15 g15 b15 r16 g16 b16 r17 g17 b17 a1 h1 a2 h2 a35 h35 a36 h36 a37 h37 a38 h38 a39 h39 a40 h40 f0 f1 f2 f3 f4 tt
  clear f0 f2
  have e78 : PT 78 = P_ly := pe78_7 hp
  have e79 : PT 79 = P_fo := pe79_7 hp
  have e123 : PT 123 = P_peY := pe123_7 hp
  simp only [hF2, hFp_78, hFp_79, hFp_123, e78, e79, e123, P_ly, P_fo, P_peY, den_s, den_c, Int.add_zero, List.map_cons, List.map_nil, g13.eq, g14.eq, g15.eq, g16.eq, g17.eq, h1, h2, h35, h36, h37, h38, h39, h40] at f1 f3 f4 ⊢
  obtain ⟨x, y, h1, h2, h3⟩ := f3
  refine ⟨h1.2.1, h1.2.2, ?_⟩
  ((repeat' (first | apply And.intro | intro h)) <;> first | omega | rfl | trivial | (exfalso; omega)))
def w_yo_person_0_2 : VC := ((bY ++ [(0, 7), ((-2147483648), (-1)), ((-1), 54), (1, 8), (0, 10)]), [(0, [(none, 0), (none, 0)], []), (2, [(some 14, 0), (none, 0)], []), (1, [(none, 1), (none, 0)], []), (3, [(some 16, (-1)), (some 13, 0)], []), (3, [(some 13, 0), (none, 0)], []), (79, [(some 15, 0), (none, 0), (some 16, 0), (some 17, 0)], [1, 2, 35, 36, 37, 38, 39, 40]), (78, [], [1])], (123, [(none, (-2)), (some 13, 0), (some 14, 0), (some 16, 0)], [1, 2, 35, 36]))
set_option maxRecDepth 20000 in
theorem v_yo_person_0_2 {PT : PTy} (hp : HP7 PT) : vcOk PT w_yo_person_0_2 := vc_iv [(13, 0, 7), (14, (-2147483648), (-1)), (15, (-1), 54), (16, 1, 8), (17, 0, 10)] [1, 2, 35, 36, 37, 38, 39, 40] (by decide +kernel) (fun ρ α => by
  intro r13 g13 b13 r14 g14 b14 r15 g15 b15 r16 g16 b16 r17 g17 b17 a1 h1 a2 h2 a35 h35 a36 h36 a37 h37 a38 h38 a39 h39 a40 h40 f0 f1 f2 f3 f4 f5 f6 tt
  clear f0 f1 f2 f4
  have e78 : PT 78 = P_ly := pe78_7 hp
  have e79 : PT 79 = P_fo := pe79_7 hp
  have e123 : PT 123 = P_peY := pe123_7 hp
  simp only [hF3, hFp_78, hFp_79, hFp_123, e78, e79, e123, P_ly, P_fo, P_peY, den_s, den_c, Int.add_zero, List.map_cons, List.map_nil, g13.eq, g14.eq, g15.eq, g16.eq, g17.eq, h1, h2, h35, h36, h37, h38, h39, h40] at f3 f5 f6 ⊢
  obtain ⟨x, y, h1, h2, h3⟩ := f5
  refine ⟨h1.2.1, h1.2.2, ?_⟩
  ((repeat' (first | apply And.intro | intro h)) <;> first | omega | rfl | trivial | (exfalso; omega)))
def w_yo_person_0_3 : VC := ((bY ++ [(0, 7), (2, 2147483647), ((-1), 54), (1, 8), (0, 10)]), [(0, [(none, 0), (none, 0)], []), (2, [(none, 1), (some 14, 0)], []), (3, [(some 14, 0), (none, 0)], []), (1, [(none, 1), (none, 0)], []), (3, [(some 16, (-1)), (some 13, 0)], []), (3, [(some 13, 0), (none, 0)], []), (79, [(some 15, 0), (none, 0), (some 16, 0), (some 17, 0)], [1, 2, 35, 36, 37, 38, 39, 40]), (78, [], [1])], (123, [(none, (-2)), (some 13, 0), (some 14, 0), (some 16, 0)], [1, 2, 35, 36]))
set_option maxRecDepth 20000 in
theorem v_yo_person_0_3 {PT : PTy} (hp : HP7 PT) : vcOk PT w_yo_person_0_3 := vc_iv [(13, 0, 7), (14, 2, 2147483647), (15, (-1), 54), (16, 1, 8), (17, 0, 10)] [1, 2, 35, 36, 37, 38, 39, 40] (by decide +kernel) (fun ρ α => by
  intro r13 g13 b13 r14 g14 b14 r15 g15 b15 r16 g16 b16 r17 g17 b17 a1 h1 a2 h2 a35 h35 a36 h36 a37 h37 a38 h38 a39 h39 a40 h40 f0 f1 f2 f3 f4 f5 f6 f7 tt
  clear f0 f1 f2 f3 f5
  have e78 : PT 78 = P_ly := pe78_7 hp
  have e79 : PT 79 = P_fo := pe79_7 hp
  have e123 : PT 123 = P_peY := pe123_7 hp
  simp only [hF3, hFp_78, hFp_79, hFp_123, e78, e79, e123, P_ly, P_fo, P_peY, den_s, den_c, Int.add_zero, List.map_cons, List.map_nil, g13.eq, g14.eq, g15.eq, g16.eq, g17.eq, h1, h2, h35, h36, h37, h38, h39, h40] at f4 f6 f7 ⊢
  obtain ⟨x, y, h1, h2, h3⟩ := f6
  refine ⟨h1.2.1, h1.2.2, ?_⟩
  ((repeat' (first | apply And.intro | intro h)) <;> first | omega | rfl | trivial | (exfalso; omega)))
def w_yo_person_0_4 : VC := ((bY ++ [(0, 7), (1, 1), ((-1), 54), (1, 8), (0, 10), (0, 9)]), [(20, [(some 18, 0), (some 13, 0)], [36]), (1, [(some 14, 0), (none, 0)], []), (1, [(none, 1), (none, 0)], []), (3, [(none, 1), (some 14, 0)], []), (3, [(some 14, 0), (none, 0)], []), (1, [(none, 1), (none, 0)], []), (3, [(some 16, (-1)), (some 13, 0)], []), (3, [(some 13, 0), (none, 0)], []), (79, [(some 15, 0), (none, 0), (some 16, 0), (some 17, 0)], [1, 2, 35, 36, 37, 38, 39, 40]), (78, [], [1])], (123, [(some 18, 0), (some 13, 0), (some 14, 0), (some 16, 0)], [1, 2, 35, 36]))
set_option maxRecDepth 20000 in
theorem v_yo_person_0_4 {PT : PTy} (hp : HP7 PT) : vcOk PT w_yo_person_0_4 := vc_iv [(13, 0, 7), (14, 1, 1), (15, (-1), 54), (16, 1, 8), (17, 0, 10), (18, 0, 9)] [1, 2, 35, 36, 37, 38, 39, 40] (by decide +kernel) (fun ρ α => by
  intro r13 g13 b13 r14 g14 b14 r15 g15 b15 r16 g16 b16 r17 g17 b17 r18 g18 b18 a1 h1 a2 h2 a35 h35 a36 h36 a37 h37 a38 h38 a39 h39 a40 h40 f0 f1 f2 f3 f4 f5 f6 f7 f8 f9 tt
  clear f1 f2 f3 f4 f5 f7
  have e78 : PT 78 = P_ly := pe78_7 hp
  have e79 : PT 79 = P_fo := pe79_7 hp
  have e123 : PT 123 = P_peY := pe123_7 hp
  simp only [hF3, hF20, hFp_78, hFp_79, hFp_123, e78, e79, e123, P_ly, P_fo, P_peY, den_s, den_c, Int.add_zero, List.map_cons, List.map_nil, g13.eq, g14.eq, g15.eq, g16.eq, g17.eq, g18.eq, h1, h2, h35, h36, h37, h38, h39, h40] at f0 f6 f8 f9 ⊢
  subst f0
  obtain ⟨x, y, h1, h2, h3⟩ := f8
  refine ⟨h1.2.1, h1.2.2, ?_⟩
  ((repeat' (first | apply And.intro | intro h)) <;> first | omega | rfl | trivial | (exfalso; omega)))
def w_yo_person_0_5 : VC := ((bY ++ [(0, 7), (0, 0), ((-1), 54), (1, 8), (0, 10), (0, 2)]), [(20, [(some 18, 0), (some 13, 0)], [35]), (0, [(some 14, 0), (none, 0)], []), (1, [(none, 1), (none, 0)], []), (3, [(none, 1), (some 14, 0)], []), (3, [(some 14, 0), (none, 0)], []), (1, [(none, 1), (none, 0)], []), (3, [(some 16, (-1)), (some 13, 0)], []), (3, [(some 13, 0), (none, 0)], []), (79, [(some 15, 0), (none, 0), (some 16, 0), (some 17, 0)], [1, 2, 35, 36, 37, 38, 39, 40]), (78, [], [1])], (123, [(some 18, 0), (some 13, 0), (some 14, 0), (some 16, 0)], [1, 2, 35, 36]))
set_option maxRecDepth 20000 in
theorem v_yo_person_0_5 {PT : PTy} (hp : HP7 PT) : vcOk PT w_yo_person_0_5 := vc_iv [(13, 0, 7), (14, 0, 0), (15, (-1), 54), (16, 1, 8), (17, 0, 10), (18, 0, 2)] [1, 2, 35, 36, 37, 38, 39, 40] (by decide +kernel) (fun ρ α => by
  intro r13 g13 b13 r14 g14 b14 r15 g15 b15 r16 g16 b16 r17 g17 b17 r18 g18 b18 a1 h1 a2 h2 a35 h35 a36 h36 a37 h37 a38 h38 a39 h39 a40 h40 f0 f1 f2 f3 f4 f5 f6 f7 f8 f9 tt
  clear f2 f3 f4 f5 f7
  have e78 : PT 78 = P_ly := pe78_7 hp
  have e79 : PT 79 = P_fo := pe79_7 hp
  have e123 : PT 123 = P_peY := pe123_7 hp
  simp only [hF0, hF3, hF20, hFp_78, hFp_79, hFp_123, e78, e79, e123, P_ly, P_fo, P_peY, den_s, den_c, Int.add_zero, List.map_cons, List.map_nil, g13.eq, g14.eq, g15.eq, g16.eq, g17.eq, g18.eq, h1, h2, h35, h36, h37, h38, h39, h40] at f0 f1 f6 f8 f9 ⊢
  subst f0
  obtain ⟨x, y, h1, h2, h3⟩ := f8
  refine ⟨h1.2.1, h1.2.2, ?_⟩
  ((repeat' (first | apply And.intro | intro h)) <;> first | omega | rfl | trivial | (exfalso; omega)))
set_option maxRecDepth 1000000 in
theorem k_yo_person {PT : PTy} (hp : HP7 PT) : wfX c_yo_person = true ∧ xcOk PT c_yo_person := xctr (xl (k_faultOf hp.1.1.1.1.1) (xl0)) c_yo_person 76 mX7_person rfl h_yo_person (by decide +kernel) (by decide +kernel) (by decide) (vcs_by [w_yo_person_0_0, w_yo_person_0_1, w_yo_person_0_2, w_yo_person_0_3, w_yo_person_0_4, w_yo_person_0_5] (by decide +kernel) (vc (v_yo_person_0_0 hp) (vc (v_yo_person_0_1 hp) (vc (v_yo_person_0_2 hp) (vc (v_yo_person_0_3 hp) (vc (v_yo_person_0_4 hp) (vc (v_yo_person_0_5 hp) vn))))))) fmn
def c_yo_promise : XC := (126, 6, (bY ++ [((-2147483648), 2147483647), ((-2147483648), 2147483647)]), [.inr (.inl 0), .inl (some 13, 0), .inl (some 14, 0)], gY2, [(78, [], [1])], [((bY ++ [((-2147483648), 2147483647), ((-2147483648), 2147483647), ((-2), 23), (0, 8), (0, 10)]), some (.inl (some 15, 0)), (hst gY2 [(0, .inr (.inr (.inr (7, [.inr (.inl 1), .inr (.inl 2), .inl (some 16, 0), .inr (.inl 3), .inr (.inl 4), .inl (some 17, 0), .inr (.inl 5), .inr (.inl 6), .inr (.inl 7), .inr (.inl 8), .inl (some 4, 0), .inr (.inl 9), .inr (.inl 10), .inl (some 5, 0), .inr (.inl 11), .inr (.inl 12), .inr (.inl 13), .inl (some 6, 0), .inr (.inl 14), .inr (.inl 15), .inr (.inl 16), .inl (some 8, 0), .inl (some 9, 0), .inr (.inl 17), .inr (.inl 18), .inl (some 10, 0), .inl (some 11, 0), .inr (.inl 19), .inr (.inl 20), .inr (.inl 21), .inr (.inl 22), .inr (.inl 23), .inr (.inl 24), .inr (.inl 25), .inl (some 7, 0), .inr (.inl 26), .inr (.inl 27), .inr (.inl 28), .inr (.inl 29), .inr (.inl 30), .inr (.inl 31), .inr (.inl 32), .inr (.inl 33), .inr (.inl 34), .inl (some 12, 0)]))))]), (ansT 35 [(3, 35), (4, 36), (5, 37), (6, 38), (7, 39), (8, 40)]), 41, [(124, [(some 15, 0), (some 13, 0), (some 14, 0), (some 17, 0)], [1, 2, 37, 38, 39, 40])])])
def h_yo_promise : List XH := []
def w_yo_promise_0_0 : VC := ((bY ++ [((-2147483648), (-1)), ((-2147483648), 2147483647), ((-1), 54), (0, 8), (0, 10)]), [(0, [(none, 0), (none, 0)], []), (2, [(some 13, 0), (none, 0)], []), (79, [(some 15, 0), (none, 0), (some 16, 0), (some 17, 0)], [1, 2, 35, 36, 37, 38, 39, 40]), (78, [], [1])], (124, [(none, (-2)), (some 13, 0), (some 14, 0), (some 17, 0)], [1, 2, 37, 38, 39, 40]))
theorem pe124_7 {PT : PTy} (hp : HP7 PT) : PT 124 = P_prY := hp.2.2.2.2.2.2.1
set_option maxRecDepth 20000 in
theorem v_yo_promise_0_0 {PT : PTy} (hp : HP7 PT) : vcOk PT w_yo_promise_0_0 := vc_iv [(13, (-2147483648), (-1)), (14, (-2147483648), 2147483647), (15, (-1), 54), (16, 0, 8), (17, 0, 10)] [1, 2, 35, 36, 37, 38, 39, 40] (by decide +kernel) (fun ρ α => by
  intro r13 g13 b13 r14 g14 b14 r15 g15 b15 r16 g16 b16 r17 g17 b17 a1 h1 a2 h2 a35 h35 a36 h36 a37 h37 a38 h38 a39 h39 a40 h40 f0 f1 f2 f3 tt
  clear f0 f1
  have e78 : PT 78 = P_ly := pe78_7 hp
  have e79 : PT 79 = P_fo := pe79_7 hp
  have e124 : PT 124 = P_prY := pe124_7 hp
  simp only [hFp_78, hFp_79, hFp_124, e78, e79, e124, P_ly, P_fo, P_prY, den_s, den_c, Int.add_zero, List.map_cons, List.map_nil, g13.eq, g14.eq, g15.eq, g16.eq, g17.eq, h1, h2, h35, h36, h37, h38, h39, h40] at f2 f3 ⊢
  obtain ⟨x, y, h1, h2, h3⟩ := f2
  refine ⟨h2.2.1, h2.2.2, ?_⟩
  ((repeat' (first | apply And.intro | intro h)) <;> first | omega | rfl | trivial | (exfalso; omega)))
def w_yo_promise_0_1 : VC := ((bY ++ [(0, 2147483647), ((-2147483648), 2147483647), ((-1), 54), (0, 8), (0, 10)]), [(0, [(none, 0), (none, 0)], []), (2, [(some 17, (-1)), (some 13, 0)], []), (3, [(some 13, 0), (none, 0)], []), (79, [(some 15, 0), (none, 0), (some 16, 0), (some 17, 0)], [1, 2, 35, 36, 37, 38, 39, 40]), (78, [], [1])], (124, [(none, (-2)), (some 13, 0), (some 14, 0), (some 17, 0)], [1, 2, 37, 38, 39, 40]))
set_option maxRecDepth 20000 in
theorem v_yo_promise_0_1 {PT : PTy} (hp : HP7 PT) : vcOk PT w_yo_promise_0_1 := vc_iv [(13, 0, 2147483647), (14, (-2147483648), 2147483647), (15, (-1), 54), (16, 0, 8), (17, 0, 10)] [1, 2, 35, 36, 37, 38, 39, 40] (by decide +kernel) (fun ρ α => by
  intro r13 g13 b13 r14 g14 b14 r15 g15 b15 r16 g16 b16 r17 g17 b17 a1 h1 a2 h2 a35 h35 a36 h36 a37 h37 a38 h38 a39 h39 a40 h40 f0 f1 f2 f3 f4 tt
  clear f0 f2
  have e78 : PT 78 = P_ly := pe78_7 hp
  have e79 : PT 79 = P_fo := pe79_7 hp
  have e124 : PT 124 = P_prY := pe124_7 hp
  simp only [hF2, hFp_78, hFp_79, hFp_124, e78, e79, e124, P_ly, P_fo, P_prY, den_s, den_c, Int.add_zero, List.map_cons, List.map_nil, g13.eq, g14.eq, g15.eq, g16.eq, g17.eq, h1, h2, h35, h36, h37, h38, h39, h40] at f1 f3 f4 ⊢
  obtain ⟨x, y, h1, h2, h3⟩ := f3
  refine ⟨h2.2.1, h2.2.2, ?_⟩
  ((repeat' (first | apply And.intro | intro h)) <;> first | omega | rfl | trivial | (exfalso; omega)))
def w_yo_promise_0_2 : VC := ((bY ++ [(0, 9), ((-2147483648), (-1)), ((-1), 54), (0, 8), (1, 10)]), [(0, [(none, 0), (none, 0)], []), (2, [(some 14, 0), (none, 0)], []), (1, [(none, 1), (none, 0)], []), (3, [(some 17, (-1)), (some 13, 0)], []), (3, [(some 13, 0), (none, 0)], []), (79, [(some 15, 0), (none, 0), (some 16, 0), (some 17, 0)], [1, 2, 35, 36, 37, 38, 39, 40]), (78, [], [1])], (124, [(none, (-2)), (some 13, 0), (some 14, 0), (some 17, 0)], [1, 2, 37, 38, 39, 40]))
set_option maxRecDepth 20000 in
theorem v_yo_promise_0_2 {PT : PTy} (hp : HP7 PT) : vcOk PT w_yo_promise_0_2 := vc_iv [(13, 0, 9), (14, (-2147483648), (-1)), (15, (-1), 54), (16, 0, 8), (17, 1, 10)] [1, 2, 35, 36, 37, 38, 39, 40] (by decide +kernel) (fun ρ α => by
  intro r13 g13 b13 r14 g14 b14 r15 g15 b15 r16 g16 b16 r17 g17 b17 a1 h1 a2 h2 a35 h35 a36 h36 a37 h37 a38 h38 a39 h39 a40 h40 f0 f1 f2 f3 f4 f5 f6 tt
  clear f0 f1 f2 f4
  have e78 : PT 78 = P_ly := pe78_7 hp
  have e79 : PT 79 = P_fo := pe79_7 hp
  have e124 : PT 124 = P_prY := pe124_7 hp
  simp only [hF3, hFp_78, hFp_79, hFp_124, e78, e79, e124, P_ly, P_fo, P_prY, den_s, den_c, Int.add_zero, List.map_cons, List.map_nil, g13.eq, g14.eq, g15.eq, g16.eq, g17.eq, h1, h2, h35, h36, h37, h38, h39, h40] at f3 f5 f6 ⊢
  obtain ⟨x, y, h1, h2, h3⟩ := f5
  refine ⟨h2.2.1, h2.2.2, ?_⟩
  ((repeat' (first | apply And.intro | intro h)) <;> first | omega | rfl | trivial | (exfalso; omega)))
def w_yo_promise_0_3 : VC := ((bY ++ [(0, 9), (4, 2147483647), ((-1), 54), (0, 8), (1, 10)]), [(0, [(none, 0), (none, 0)], []), (2, [(none, 3), (some 14, 0)], []), (3, [(some 14, 0), (none, 0)], []), (1, [(none, 1), (none, 0)], []), (3, [(some 17, (-1)), (some 13, 0)], []), (3, [(some 13, 0), (none, 0)], []), (79, [(some 15, 0), (none, 0), (some 16, 0), (some 17, 0)], [1, 2, 35, 36, 37, 38, 39, 40]), (78, [], [1])], (124, [(none, (-2)), (some 13, 0), (some 14, 0), (some 17, 0)], [1, 2, 37, 38, 39, 40]))
set_option maxRecDepth 20000 in
theorem v_yo_promise_0_3 {PT : PTy} (hp : HP7 PT) : vcOk PT w_yo_promise_0_3 := vc_iv [(13, 0, 9), (14, 4, 2147483647), (15, (-1), 54), (16, 0, 8), (17, 1, 10)] [1, 2, 35, 36, 37, 38, 39, 40] (by decide +kernel) (fun ρ α => by
  intro r13 g13 b13 r14 g14 b14 r15 g15 b15 r16 g16 b16 r17 g17 b17 a1 h1 a2 h2 a35 h35 a36 h36 a37 h37 a38 h38 a39 h39 a40 h40 f0 f1 f2 f3 f4 f5 f6 f7 tt
  clear f0 f1 f2 f3 f5
  have e78 : PT 78 = P_ly := pe78_7 hp
  have e79 : PT 79 = P_fo := pe79_7 hp
  have e124 : PT 124 = P_prY := pe124_7 hp
  simp only [hF3, hFp_78, hFp_79, hFp_124, e78, e79, e124, P_ly, P_fo, P_prY, den_s, den_c, Int.add_zero, List.map_cons, List.map_nil, g13.eq, g14.eq, g15.eq, g16.eq, g17.eq, h1, h2, h35, h36, h37, h38, h39, h40] at f4 f6 f7 ⊢
  obtain ⟨x, y, h1, h2, h3⟩ := f6
  refine ⟨h2.2.1, h2.2.2, ?_⟩
  ((repeat' (first | apply And.intro | intro h)) <;> first | omega | rfl | trivial | (exfalso; omega)))
def w_yo_promise_0_4 : VC := ((bY ++ [(0, 9), (3, 3), ((-1), 54), (0, 8), (1, 10), ((-1), 23)]), [(20, [(some 18, 0), (some 13, 0)], [40]), (1, [(some 14, 0), (none, 2)], []), (1, [(some 14, 0), (none, 1)], []), (1, [(some 14, 0), (none, 0)], []), (1, [(none, 1), (none, 0)], []), (3, [(none, 3), (some 14, 0)], []), (3, [(some 14, 0), (none, 0)], []), (1, [(none, 1), (none, 0)], []), (3, [(some 17, (-1)), (some 13, 0)], []), (3, [(some 13, 0), (none, 0)], []), (79, [(some 15, 0), (none, 0), (some 16, 0), (some 17, 0)], [1, 2, 35, 36, 37, 38, 39, 40]), (78, [], [1])], (124, [(some 18, 0), (some 13, 0), (some 14, 0), (some 17, 0)], [1, 2, 37, 38, 39, 40]))
set_option maxRecDepth 20000 in
theorem v_yo_promise_0_4 {PT : PTy} (hp : HP7 PT) : vcOk PT w_yo_promise_0_4 := vc_iv [(13, 0, 9), (14, 3, 3), (15, (-1), 54), (16, 0, 8), (17, 1, 10), (18, (-1), 23)] [1, 2, 35, 36, 37, 38, 39, 40] (by decide +kernel) (fun ρ α => by
  intro r13 g13 b13 r14 g14 b14 r15 g15 b15 r16 g16 b16 r17 g17 b17 r18 g18 b18 a1 h1 a2 h2 a35 h35 a36 h36 a37 h37 a38 h38 a39 h39 a40 h40 f0 f1 f2 f3 f4 f5 f6 f7 f8 f9 f10 f11 tt
  clear f1 f2 f3 f4 f5 f6 f7 f9
  have e78 : PT 78 = P_ly := pe78_7 hp
  have e79 : PT 79 = P_fo := pe79_7 hp
  have e124 : PT 124 = P_prY := pe124_7 hp
  simp only [hF3, hF20, hFp_78, hFp_79, hFp_124, e78, e79, e124, P_ly, P_fo, P_prY, den_s, den_c, Int.add_zero, List.map_cons, List.map_nil, g13.eq, g14.eq, g15.eq, g16.eq, g17.eq, g18.eq, h1, h2, h35, h36, h37, h38, h39, h40] at f0 f8 f10 f11 ⊢
  subst f0
  obtain ⟨x, y, h1, h2, h3⟩ := f10
  refine ⟨h2.2.1, h2.2.2, ?_⟩
  ((repeat' (first | apply And.intro | intro h)) <;> first | omega | rfl | trivial | (exfalso; omega)))
def w_yo_promise_0_5 : VC := ((bY ++ [(0, 9), (2, 2), ((-1), 54), (0, 8), (1, 10), (0, 23)]), [(20, [(some 18, 0), (some 13, 0)], [39]), (0, [(some 14, 0), (none, 2)], []), (1, [(some 14, 0), (none, 1)], []), (1, [(some 14, 0), (none, 0)], []), (1, [(none, 1), (none, 0)], []), (3, [(none, 3), (some 14, 0)], []), (3, [(some 14, 0), (none, 0)], []), (1, [(none, 1), (none, 0)], []), (3, [(some 17, (-1)), (some 13, 0)], []), (3, [(some 13, 0), (none, 0)], []), (79, [(some 15, 0), (none, 0), (some 16, 0), (some 17, 0)], [1, 2, 35, 36, 37, 38, 39, 40]), (78, [], [1])], (124, [(some 18, 0), (some 13, 0), (some 14, 0), (some 17, 0)], [1, 2, 37, 38, 39, 40]))
set_option maxRecDepth 20000 in
theorem v_yo_promise_0_5 {PT : PTy} (hp : HP7 PT) : vcOk PT w_yo_promise_0_5 := vc_iv [(13, 0, 9), (14, 2, 2), (15, (-1), 54), (16, 0, 8), (17, 1, 10), (18, 0, 23)] [1, 2, 35, 36, 37, 38, 39, 40] (by decide +kernel) (fun ρ α => by
  intro r13 g13 b13 r14 g14 b14 r15 g15 b15 r16 g16 b16 r17 g17 b17 r18 g18 b18 a1 h1 a2 h2 a35 h35 a36 h36 a37 h37 a38 h38 a39 h39 a40 h40 f0 f1 f2 f3 f4 f5 f6 f7 f8 f9 f10 f11 tt
  clear f2 f3 f4 f5 f6 f7 f9
  have e78 : PT 78 = P_ly := pe78_7 hp
  have e79 : PT 79 = P_fo := pe79_7 hp
  have e124 : PT 124 = P_prY := pe124_7 hp
  simp only [hF0, hF3, hF20, hFp_78, hFp_79, hFp_124, e78, e79, e124, P_ly, P_fo, P_prY, den_s, den_c, Int.add_zero, List.map_cons, List.map_nil, g13.eq, g14.eq, g15.eq, g16.eq, g17.eq, g18.eq, h1, h2, h35, h36, h37, h38, h39, h40] at f0 f1 f8 f10 f11 ⊢
  subst f0
  obtain ⟨x, y, h1, h2, h3⟩ := f10
  refine ⟨h2.2.1, h2.2.2, ?_⟩
  ((repeat' (first | apply And.intro | intro h)) <;> first | omega | rfl | trivial | (exfalso; omega)))
def w_yo_promise_0_6 : VC := ((bY ++ [(0, 9), (1, 1), ((-1), 54), (0, 8), (1, 10), (0, 9)]), [(20, [(some 18, 0), (some 13, 0)], [38]), (0, [(some 14, 0), (none, 1)], []), (1, [(some 14, 0), (none, 0)], []), (1, [(none, 1), (none, 0)], []), (3, [(none, 3), (some 14, 0)], []), (3, [(some 14, 0), (none, 0)], []), (1, [(none, 1), (none, 0)], []), (3, [(some 17, (-1)), (some 13, 0)], []), (3, [(some 13, 0), (none, 0)], []), (79, [(some 15, 0), (none, 0), (some 16, 0), (some 17, 0)], [1, 2, 35, 36, 37, 38, 39, 40]), (78, [], [1])], (124, [(some 18, 0), (some 13, 0), (some 14, 0), (some 17, 0)], [1, 2, 37, 38, 39, 40]))
set_option maxRecDepth 20000 in
theorem v_yo_promise_0_6 {PT : PTy} (hp : HP7 PT) : vcOk PT w_yo_promise_0_6 := vc_iv [(13, 0, 9), (14, 1, 1), (15, (-1), 54), (16, 0, 8), (17, 1, 10), (18, 0, 9)] [1, 2, 35, 36, 37, 38, 39, 40] (by decide +kernel) (fun ρ α => by
  intro r13 g13 b13 r14 g14 b14 r15 g15 b15 r16 g16 b16 r17 g17 b17 r18 g18 b18 a1 h1 a2 h2 a35 h35 a36 h36 a37 h37 a38 h38 a39 h39 a40 h40 f0 f1 f2 f3 f4 f5 f6 f7 f8 f9 f10 tt
  clear f2 f3 f4 f5 f6 f8
  have e78 : PT 78 = P_ly := pe78_7 hp
  have e79 : PT 79 = P_fo := pe79_7 hp
  have e124 : PT 124 = P_prY := pe124_7 hp
  simp only [hF0, hF3, hF20, hFp_78, hFp_79, hFp_124, e78, e79, e124, P_ly, P_fo, P_prY, den_s, den_c, Int.add_zero, List.map_cons, List.map_nil, g13.eq, g14.eq, g15.eq, g16.eq, g17.eq, g18.eq, h1, h2, h35, h36, h37, h38, h39, h40] at f0 f1 f7 f9 f10 ⊢
  subst f0
  obtain ⟨x, y, h1, h2, h3⟩ := f9
  refine ⟨h2.2.1, h2.2.2, ?_⟩
  ((repeat' (first | apply And.intro | intro h)) <;> first | omega | rfl | trivial | (exfalso; omega)))
def w_yo_promise_0_7 : VC := ((bY ++ [(0, 9), (0, 0), ((-1), 54), (0, 8), (1, 10), (0, 7)]), [(20, [(some 18, 0), (some 13, 0)], [37]), (0, [(some 14, 0), (none, 0)], []), (1, [(none, 1), (none, 0)], []), (3, [(none, 3), (some 14, 0)], []), (3, [(some 14, 0), (none, 0)], []), (1, [(none, 1), (none, 0)], []), (3, [(some 17, (-1)), (some 13, 0)], []), (3, [(some 13, 0), (none, 0)], []), (79, [(some 15, 0), (none, 0), (some 16, 0), (some 17, 0)], [1, 2, 35, 36, 37, 38, 39, 40]), (78, [], [1])], (124, [(some 18, 0), (some 13, 0), (some 14, 0), (some 17, 0)], [1, 2, 37, 38, 39, 40]))
set_option maxRecDepth 20000 in
theorem v_yo_promise_0_7 {PT : PTy} (hp : HP7 PT) : vcOk PT w_yo_promise_0_7 := vc_iv [(13, 0, 9), (14, 0, 0), (15, (-1), 54), (16, 0, 8), (17, 1, 10), (18, 0, 7)] [1, 2, 35, 36, 37, 38, 39, 40] (by decide +kernel) (fun ρ α => by
  intro r13 g13 b13 r14 g14 b14 r15 g15 b15 r16 g16 b16 r17 g17 b17 r18 g18 b18 a1 h1 a2 h2 a35 h35 a36 h36 a37 h37 a38 h38 a39 h39 a40 h40 f0 f1 f2 f3 f4 f5 f6 f7 f8 f9 tt
  clear f2 f3 f4 f5 f7
  have e78 : PT 78 = P_ly := pe78_7 hp
  have e79 : PT 79 = P_fo := pe79_7 hp
  have e124 : PT 124 = P_prY := pe124_7 hp
  simp only [hF0, hF3, hF20, hFp_78, hFp_79, hFp_124, e78, e79, e124, P_ly, P_fo, P_prY, den_s, den_c, Int.add_zero, List.map_cons, List.map_nil, g13.eq, g14.eq, g15.eq, g16.eq, g17.eq, g18.eq, h1, h2, h35, h36, h37, h38, h39, h40] at f0 f1 f6 f8 f9 ⊢
  subst f0
  obtain ⟨x, y, h1, h2, h3⟩ := f8
  refine ⟨h2.2.1, h2.2.2, ?_⟩
  ((repeat' (first | apply And.intro | intro h)) <;> first | omega | rfl | trivial | (exfalso; omega)))
set_option maxRecDepth 1000000 in
theorem k_yo_promise {PT : PTy} (hp : HP7 PT) : wfX c_yo_promise = true ∧ xcOk PT c_yo_promise := xctr (xl (k_faultOf hp.1.1.1.1.1) (xl0)) c_yo_promise 82 mX7_promise rfl h_yo_promise (by decide +kernel) (by decide +kernel) (by decide) (vcs_by [w_yo_promise_0_0, w_yo_promise_0_1, w_yo_promise_0_2, w_yo_promise_0_3, w_yo_promise_0_4, w_yo_promise_0_5, w_yo_promise_0_6, w_yo_promise_0_7] (by decide +kernel) (vc (v_yo_promise_0_0 hp) (vc (v_yo_promise_0_1 hp) (vc (v_yo_promise_0_2 hp) (vc (v_yo_promise_0_3 hp) (vc (v_yo_promise_0_4 hp) (vc (v_yo_promise_0_5 hp) (vc (v_yo_promise_0_6 hp) (vc (v_yo_promise_0_7 hp) vn))))))))) fmn
def c_yo_keeping : XC := (127, 2, (bY ++ [((-2147483648), 2147483647), ((-2147483648), 2147483647)]), [.inr (.inl 0), .inl (some 13, 0), .inl (some 14, 0)], gY2, [], [((bY ++ [((-2147483648), 2147483647), ((-2147483648), 2147483647), ((-4), 8), (0, 8)]), some (.inl (some 15, 0)), (hst gY2 [(0, .inr (.inr (.inr (7, [.inr (.inl 1), .inr (.inl 2), .inl (some 2, 0), .inr (.inl 3), .inr (.inl 4), .inl (some 3, 0), .inr (.inl 5), .inr (.inl 6), .inr (.inl 7), .inr (.inl 8), .inl (some 16, 0), .inr (.inl 9), .inr (.inl 10), .inl (some 5, 0), .inr (.inl 11), .inr (.inl 12), .inr (.inl 13), .inl (some 6, 0), .inr (.inl 14), .inr (.inl 15), .inr (.inl 16), .inl (some 8, 0), .inl (some 9, 0), .inr (.inl 17), .inr (.inl 18), .inl (some 10, 0), .inl (some 11, 0), .inr (.inl 19), .inr (.inl 20), .inr (.inl 21), .inr (.inl 22), .inr (.inl 23), .inr (.inl 24), .inr (.inl 25), .inl (some 7, 0), .inr (.inl 26), .inr (.inl 27), .inr (.inl 28), .inr (.inl 29), .inr (.inl 30), .inr (.inl 31), .inr (.inl 32), .inr (.inl 33), .inr (.inl 34), .inl (some 12, 0)]))))]), (ansT 35 [(9, 35), (10, 36)]), 37, [(114, [(some 15, 0), (some 13, 0), (some 14, 0), (some 4, 0), (some 16, 0)], [9, 10, 35, 36])])])
def h_yo_keeping : List XH := []
def w_yo_keeping_0_0 : VC := ((bY ++ [((-2147483648), (-1)), ((-2147483648), 2147483647)]), [(0, [(none, 0), (none, 0)], []), (2, [(some 13, 0), (none, 0)], [])], (114, [(none, (-2)), (some 13, 0), (some 14, 0), (some 4, 0), (some 4, 0)], [9, 10, 9, 10]))
theorem pe114_7 {PT : PTy} (hp : HP7 PT) : PT 114 = P_kgA := hp.1.2.2.2.2.2.2.2.2.1
set_option maxRecDepth 20000 in
theorem v_yo_keeping_0_0 {PT : PTy} (hp : HP7 PT) : vcOk PT w_yo_keeping_0_0 := vc_iv [(4, 0, 8), (13, (-2147483648), (-1)), (14, (-2147483648), 2147483647)] [9, 10] (by decide +kernel) (fun ρ α => by
  intro r4 g4 b4 r13 g13 b13 r14 g14 b14 a9 h9 a10 h10 f0 f1 tt
  clear f0 f1
  have e114 : PT 114 = P_kgA := pe114_7 hp
  simp only [hFp_114, e114, P_kgA, den_s, den_c, Int.add_zero, List.map_cons, List.map_nil, g4.eq, g13.eq, g14.eq, h9, h10] at ⊢
  ((repeat' (first | apply And.intro | intro h)) <;> first | omega | rfl | trivial | (exfalso; omega)))
def w_yo_keeping_0_1 : VC := ((bY ++ [(24, 2147483647), ((-2147483648), 2147483647)]), [(0, [(none, 0), (none, 0)], []), (2, [(none, 23), (some 13, 0)], []), (3, [(some 13, 0), (none, 0)], [])], (114, [(none, (-2)), (some 13, 0), (some 14, 0), (some 4, 0), (some 4, 0)], [9, 10, 9, 10]))
set_option maxRecDepth 20000 in
theorem v_yo_keeping_0_1 {PT : PTy} (hp : HP7 PT) : vcOk PT w_yo_keeping_0_1 := vc_iv [(4, 0, 8), (13, 24, 2147483647), (14, (-2147483648), 2147483647)] [9, 10] (by decide +kernel) (fun ρ α => by
  intro r4 g4 b4 r13 g13 b13 r14 g14 b14 a9 h9 a10 h10 f0 f1 f2 tt
  clear f0 f1 f2
  have e114 : PT 114 = P_kgA := pe114_7 hp
  simp only [hFp_114, e114, P_kgA, den_s, den_c, Int.add_zero, List.map_cons, List.map_nil, g4.eq, g13.eq, g14.eq, h9, h10] at ⊢
  ((repeat' (first | apply And.intro | intro h)) <;> first | omega | rfl | trivial | (exfalso; omega)))
def w_yo_keeping_0_2 : VC := ((bY ++ [(0, 23), ((-2147483648), (-1))]), [(0, [(none, 0), (none, 0)], []), (2, [(some 14, 0), (none, 0)], []), (1, [(none, 1), (none, 0)], []), (3, [(none, 23), (some 13, 0)], []), (3, [(some 13, 0), (none, 0)], [])], (114, [(none, (-2)), (some 13, 0), (some 14, 0), (some 4, 0), (some 4, 0)], [9, 10, 9, 10]))
set_option maxRecDepth 20000 in
theorem v_yo_keeping_0_2 {PT : PTy} (hp : HP7 PT) : vcOk PT w_yo_keeping_0_2 := vc_iv [(4, 0, 8), (13, 0, 23), (14, (-2147483648), (-1))] [9, 10] (by decide +kernel) (fun ρ α => by
  intro r4 g4 b4 r13 g13 b13 r14 g14 b14 a9 h9 a10 h10 f0 f1 f2 f3 f4 tt
  clear f0 f1 f2 f3 f4
  have e114 : PT 114 = P_kgA := pe114_7 hp
  simp only [hFp_114, e114, P_kgA, den_s, den_c, Int.add_zero, List.map_cons, List.map_nil, g4.eq, g13.eq, g14.eq, h9, h10] at ⊢
  ((repeat' (first | apply And.intro | intro h)) <;> first | omega | rfl | trivial | (exfalso; omega)))
def w_yo_keeping_0_3 : VC := ((bY ++ [(0, 23), (10, 2147483647)]), [(0, [(none, 0), (none, 0)], []), (2, [(none, 9), (some 14, 0)], []), (3, [(some 14, 0), (none, 0)], []), (1, [(none, 1), (none, 0)], []), (3, [(none, 23), (some 13, 0)], []), (3, [(some 13, 0), (none, 0)], [])], (114, [(none, (-2)), (some 13, 0), (some 14, 0), (some 4, 0), (some 4, 0)], [9, 10, 9, 10]))
set_option maxRecDepth 20000 in
theorem v_yo_keeping_0_3 {PT : PTy} (hp : HP7 PT) : vcOk PT w_yo_keeping_0_3 := vc_iv [(4, 0, 8), (13, 0, 23), (14, 10, 2147483647)] [9, 10] (by decide +kernel) (fun ρ α => by
  intro r4 g4 b4 r13 g13 b13 r14 g14 b14 a9 h9 a10 h10 f0 f1 f2 f3 f4 f5 tt
  clear f0 f1 f2 f3 f4 f5
  have e114 : PT 114 = P_kgA := pe114_7 hp
  simp only [hFp_114, e114, P_kgA, den_s, den_c, Int.add_zero, List.map_cons, List.map_nil, g4.eq, g13.eq, g14.eq, h9, h10] at ⊢
  ((repeat' (first | apply And.intro | intro h)) <;> first | omega | rfl | trivial | (exfalso; omega)))
def w_yo_keeping_0_4 : VC := (([(0, 23), (0, 49), (0, 8), (0, 10), (0, 7), (0, 6), (0, 6), (0, 8), (0, 11), (0, 9), ((-2147483648), 2147483647), ((-2147483648), 2147483647), (0, 5), (0, 23), (0, 9)]), [(21, [(some 4, 0), (some 14, 0)], [36, 10]), (21, [(some 4, 0), (some 13, 0)], [35, 9]), (1, [(some 4, 0), (none, 8)], []), (1, [(none, 1), (none, 0)], []), (3, [(none, 9), (some 14, 0)], []), (3, [(some 14, 0), (none, 0)], []), (1, [(none, 1), (none, 0)], []), (3, [(none, 23), (some 13, 0)], []), (3, [(some 13, 0), (none, 0)], [])], (114, [(some 4, 1), (some 13, 0), (some 14, 0), (some 4, 0), (some 4, 1)], [9, 10, 35, 36]))
set_option maxRecDepth 20000 in
theorem v_yo_keeping_0_4 {PT : PTy} (hp : HP7 PT) : vcOk PT w_yo_keeping_0_4 := vc_iv [(4, 0, 7), (13, 0, 23), (14, 0, 9)] [9, 10, 35, 36] (by decide +kernel) (fun ρ α => by
  intro r4 g4 b4 r13 g13 b13 r14 g14 b14 a9 h9 a10 h10 a35 h35 a36 h36 f0 f1 f2 f3 f4 f5 f6 f7 f8 tt
  clear f2 f3 f4 f5 f6 f7 f8
  have e114 : PT 114 = P_kgA := pe114_7 hp
  simp only [hF21, hFp_114, e114, P_kgA, den_s, den_c, Int.add_zero, List.map_cons, List.map_nil, g4.eq, g13.eq, g14.eq, h9, h10, h35, h36] at f0 f1 ⊢
  subst f0
  subst f1
  ((repeat' (first | apply And.intro | intro h)) <;> first | omega | rfl | trivial | (exfalso; omega)))
def w_yo_keeping_0_5 : VC := (([(0, 23), (0, 49), (0, 8), (0, 10), (8, 8), (0, 6), (0, 6), (0, 8), (0, 11), (0, 9), ((-2147483648), 2147483647), ((-2147483648), 2147483647), (0, 5), (0, 23), (0, 9)]), [(0, [(some 4, 0), (none, 8)], []), (1, [(none, 1), (none, 0)], []), (3, [(none, 9), (some 14, 0)], []), (3, [(some 14, 0), (none, 0)], []), (1, [(none, 1), (none, 0)], []), (3, [(none, 23), (some 13, 0)], []), (3, [(some 13, 0), (none, 0)], [])], (114, [(none, (-4)), (some 13, 0), (some 14, 0), (some 4, 0), (some 4, 0)], [9, 10, 9, 10]))
set_option maxRecDepth 20000 in
theorem v_yo_keeping_0_5 {PT : PTy} (hp : HP7 PT) : vcOk PT w_yo_keeping_0_5 := vc_iv [(4, 8, 8), (13, 0, 23), (14, 0, 9)] [9, 10] (by decide +kernel) (fun ρ α => by
  intro r4 g4 b4 r13 g13 b13 r14 g14 b14 a9 h9 a10 h10 f0 f1 f2 f3 f4 f5 f6 tt
  clear f1 f2 f3 f4 f5 f6
  have e114 : PT 114 = P_kgA := pe114_7 hp
  simp only [hF0, hFp_114, e114, P_kgA, den_s, den_c, Int.add_zero, List.map_cons, List.map_nil, g4.eq, g13.eq, g14.eq, h9, h10] at f0 ⊢
  ((repeat' (first | apply And.intro | intro h)) <;> first | omega | rfl | trivial | (exfalso; omega)))
set_option maxRecDepth 1000000 in
theorem k_yo_keeping {PT : PTy} (hp : HP7 PT) : wfX c_yo_keeping = true ∧ xcOk PT c_yo_keeping := xctr (xl0) c_yo_keeping 76 mX7_keeping rfl h_yo_keeping (by decide +kernel) (by decide +kernel) (by decide) (vcs_by [w_yo_keeping_0_0, w_yo_keeping_0_1, w_yo_keeping_0_2, w_yo_keeping_0_3, w_yo_keeping_0_4, w_yo_keeping_0_5] (by decide +kernel) (vc (v_yo_keeping_0_0 hp) (vc (v_yo_keeping_0_1 hp) (vc (v_yo_keeping_0_2 hp) (vc (v_yo_keeping_0_3 hp) (vc (v_yo_keeping_0_4 hp) (vc (v_yo_keeping_0_5 hp) vn))))))) fmn
def c_yo_lie : XC := (128, 2, (bY ++ [((-2147483648), 2147483647), ((-2147483648), 2147483647), ((-2147483648), 2147483647)]), [.inr (.inl 0), .inl (some 13, 0), .inl (some 14, 0), .inl (some 15, 0)], gY2, [], [((bY ++ [((-2147483648), 2147483647), ((-2147483648), 2147483647), ((-2147483648), 2147483647), ((-4), 6), (0, 6)]), some (.inl (some 16, 0)), (hst gY2 [(0, .inr (.inr (.inr (7, [.inr (.inl 1), .inr (.inl 2), .inl (some 2, 0), .inr (.inl 3), .inr (.inl 4), .inl (some 3, 0), .inr (.inl 5), .inr (.inl 6), .inr (.inl 7), .inr (.inl 8), .inl (some 4, 0), .inr (.inl 9), .inr (.inl 10), .inl (some 17, 0), .inr (.inl 11), .inr (.inl 12), .inr (.inl 13), .inl (some 6, 0), .inr (.inl 14), .inr (.inl 15), .inr (.inl 16), .inl (some 8, 0), .inl (some 9, 0), .inr (.inl 17), .inr (.inl 18), .inl (some 10, 0), .inl (some 11, 0), .inr (.inl 19), .inr (.inl 20), .inr (.inl 21), .inr (.inl 22), .inr (.inl 23), .inr (.inl 24), .inr (.inl 25), .inl (some 7, 0), .inr (.inl 26), .inr (.inl 27), .inr (.inl 28), .inr (.inl 29), .inr (.inl 30), .inr (.inl 31), .inr (.inl 32), .inr (.inl 33), .inr (.inl 34), .inl (some 12, 0)]))))]), (ansT 35 [(11, 35), (12, 36), (13, 37)]), 38, [(115, [(some 16, 0), (some 13, 0), (some 14, 0), (some 15, 0), (some 5, 0), (some 17, 0)], [11, 12, 13, 35, 36, 37])])])
def h_yo_lie : List XH := []
def w_yo_lie_0_0 : VC := ((bY ++ [((-2147483648), (-1)), ((-2147483648), 2147483647), ((-2147483648), 2147483647)]), [(0, [(none, 0), (none, 0)], []), (2, [(some 13, 0), (none, 0)], [])], (115, [(none, (-2)), (some 13, 0), (some 14, 0), (some 15, 0), (some 5, 0), (some 5, 0)], [11, 12, 13, 11, 12, 13]))
theorem pe115_7 {PT : PTy} (hp : HP7 PT) : PT 115 = P_tlA := hp.1.2.2.2.2.2.2.2.2.2.1
set_option maxRecDepth 20000 in
theorem v_yo_lie_0_0 {PT : PTy} (hp : HP7 PT) : vcOk PT w_yo_lie_0_0 := vc_iv [(5, 0, 6), (13, (-2147483648), (-1)), (14, (-2147483648), 2147483647), (15, (-2147483648), 2147483647)] [11, 12, 13] (by decide +kernel) (fun ρ α => by
  intro r5 g5 b5 r13 g13 b13 r14 g14 b14 r15 g15 b15 a11 h11 a12 h12 a13 h13 f0 f1 tt
  clear f0 f1
  have e115 : PT 115 = P_tlA := pe115_7 hp
  simp only [hFp_115, e115, P_tlA, den_s, den_c, Int.add_zero, List.map_cons, List.map_nil, g5.eq, g13.eq, g14.eq, g15.eq, h11, h12, h13] at ⊢
  ((repeat' (first | apply And.intro | intro h)) <;> first | omega | rfl | trivial | (exfalso; omega)))
def w_yo_lie_0_1 : VC := ((bY ++ [(24, 2147483647), ((-2147483648), 2147483647), ((-2147483648), 2147483647)]), [(0, [(none, 0), (none, 0)], []), (2, [(none, 23), (some 13, 0)], []), (3, [(some 13, 0), (none, 0)], [])], (115, [(none, (-2)), (some 13, 0), (some 14, 0), (some 15, 0), (some 5, 0), (some 5, 0)], [11, 12, 13, 11, 12, 13]))
set_option maxRecDepth 20000 in
theorem v_yo_lie_0_1 {PT : PTy} (hp : HP7 PT) : vcOk PT w_yo_lie_0_1 := vc_iv [(5, 0, 6), (13, 24, 2147483647), (14, (-2147483648), 2147483647), (15, (-2147483648), 2147483647)] [11, 12, 13] (by decide +kernel) (fun ρ α => by
  intro r5 g5 b5 r13 g13 b13 r14 g14 b14 r15 g15 b15 a11 h11 a12 h12 a13 h13 f0 f1 f2 tt
  clear f0 f1 f2
  have e115 : PT 115 = P_tlA := pe115_7 hp
  simp only [hFp_115, e115, P_tlA, den_s, den_c, Int.add_zero, List.map_cons, List.map_nil, g5.eq, g13.eq, g14.eq, g15.eq, h11, h12, h13] at ⊢
  ((repeat' (first | apply And.intro | intro h)) <;> first | omega | rfl | trivial | (exfalso; omega)))
def w_yo_lie_0_2 : VC := ((bY ++ [(0, 23), ((-2147483648), (-1)), ((-2147483648), 2147483647)]), [(0, [(none, 0), (none, 0)], []), (2, [(some 14, 0), (none, 0)], []), (1, [(none, 1), (none, 0)], []), (3, [(none, 23), (some 13, 0)], []), (3, [(some 13, 0), (none, 0)], [])], (115, [(none, (-2)), (some 13, 0), (some 14, 0), (some 15, 0), (some 5, 0), (some 5, 0)], [11, 12, 13, 11, 12, 13]))
set_option maxRecDepth 20000 in
theorem v_yo_lie_0_2 {PT : PTy} (hp : HP7 PT) : vcOk PT w_yo_lie_0_2 := vc_iv [(5, 0, 6), (13, 0, 23), (14, (-2147483648), (-1)), (15, (-2147483648), 2147483647)] [11, 12, 13] (by decide +kernel) (fun ρ α => by
  intro r5 g5 b5 r13 g13 b13 r14 g14 b14 r15 g15 b15 a11 h11 a12 h12 a13 h13 f0 f1 f2 f3 f4 tt
  clear f0 f1 f2 f3 f4
  have e115 : PT 115 = P_tlA := pe115_7 hp
  simp only [hFp_115, e115, P_tlA, den_s, den_c, Int.add_zero, List.map_cons, List.map_nil, g5.eq, g13.eq, g14.eq, g15.eq, h11, h12, h13] at ⊢
  ((repeat' (first | apply And.intro | intro h)) <;> first | omega | rfl | trivial | (exfalso; omega)))
def w_yo_lie_0_3 : VC := ((bY ++ [(0, 23), (8, 2147483647), ((-2147483648), 2147483647)]), [(0, [(none, 0), (none, 0)], []), (2, [(none, 7), (some 14, 0)], []), (3, [(some 14, 0), (none, 0)], []), (1, [(none, 1), (none, 0)], []), (3, [(none, 23), (some 13, 0)], []), (3, [(some 13, 0), (none, 0)], [])], (115, [(none, (-2)), (some 13, 0), (some 14, 0), (some 15, 0), (some 5, 0), (some 5, 0)], [11, 12, 13, 11, 12, 13]))
set_option maxRecDepth 20000 in
theorem v_yo_lie_0_3 {PT : PTy} (hp : HP7 PT) : vcOk PT w_yo_lie_0_3 := vc_iv [(5, 0, 6), (13, 0, 23), (14, 8, 2147483647), (15, (-2147483648), 2147483647)] [11, 12, 13] (by decide +kernel) (fun ρ α => by
  intro r5 g5 b5 r13 g13 b13 r14 g14 b14 r15 g15 b15 a11 h11 a12 h12 a13 h13 f0 f1 f2 f3 f4 f5 tt
  clear f0 f1 f2 f3 f4 f5
  have e115 : PT 115 = P_tlA := pe115_7 hp
  simp only [hFp_115, e115, P_tlA, den_s, den_c, Int.add_zero, List.map_cons, List.map_nil, g5.eq, g13.eq, g14.eq, g15.eq, h11, h12, h13] at ⊢
  ((repeat' (first | apply And.intro | intro h)) <;> first | omega | rfl | trivial | (exfalso; omega)))
def w_yo_lie_0_4 : VC := ((bY ++ [(0, 23), (0, 7), ((-2147483648), 0)]), [(0, [(none, 0), (none, 0)], []), (2, [(some 15, 0), (none, 1)], []), (1, [(none, 1), (none, 0)], []), (3, [(none, 7), (some 14, 0)], []), (3, [(some 14, 0), (none, 0)], []), (1, [(none, 1), (none, 0)], []), (3, [(none, 23), (some 13, 0)], []), (3, [(some 13, 0), (none, 0)], [])], (115, [(none, (-2)), (some 13, 0), (some 14, 0), (some 15, 0), (some 5, 0), (some 5, 0)], [11, 12, 13, 11, 12, 13]))
set_option maxRecDepth 20000 in
theorem v_yo_lie_0_4 {PT : PTy} (hp : HP7 PT) : vcOk PT w_yo_lie_0_4 := vc_iv [(5, 0, 6), (13, 0, 23), (14, 0, 7), (15, (-2147483648), 0)] [11, 12, 13] (by decide +kernel) (fun ρ α => by
  intro r5 g5 b5 r13 g13 b13 r14 g14 b14 r15 g15 b15 a11 h11 a12 h12 a13 h13 f0 f1 f2 f3 f4 f5 f6 f7 tt
  clear f0 f1 f2 f3 f4 f5 f6 f7
  have e115 : PT 115 = P_tlA := pe115_7 hp
  simp only [hFp_115, e115, P_tlA, den_s, den_c, Int.add_zero, List.map_cons, List.map_nil, g5.eq, g13.eq, g14.eq, g15.eq, h11, h12, h13] at ⊢
  ((repeat' (first | apply And.intro | intro h)) <;> first | omega | rfl | trivial | (exfalso; omega)))
def w_yo_lie_0_5 : VC := ((bY ++ [(0, 23), (0, 7), (10, 2147483647)]), [(0, [(none, 0), (none, 0)], []), (2, [(none, 9), (some 15, 0)], []), (3, [(some 15, 0), (none, 1)], []), (1, [(none, 1), (none, 0)], []), (3, [(none, 7), (some 14, 0)], []), (3, [(some 14, 0), (none, 0)], []), (1, [(none, 1), (none, 0)], []), (3, [(none, 23), (some 13, 0)], []), (3, [(some 13, 0), (none, 0)], [])], (115, [(none, (-2)), (some 13, 0), (some 14, 0), (some 15, 0), (some 5, 0), (some 5, 0)], [11, 12, 13, 11, 12, 13]))
set_option maxRecDepth 20000 in
theorem v_yo_lie_0_5 {PT : PTy} (hp : HP7 PT) : vcOk PT w_yo_lie_0_5 := vc_iv [(5, 0, 6), (13, 0, 23), (14, 0, 7), (15, 10, 2147483647)] [11, 12, 13] (by decide +kernel) (fun ρ α => by
  intro r5 g5 b5 r13 g13 b13 r14 g14 b14 r15 g15 b15 a11 h11 a12 h12 a13 h13 f0 f1 f2 f3 f4 f5 f6 f7 f8 tt
  clear f0 f1 f2 f3 f4 f5 f6 f7 f8
  have e115 : PT 115 = P_tlA := pe115_7 hp
  simp only [hFp_115, e115, P_tlA, den_s, den_c, Int.add_zero, List.map_cons, List.map_nil, g5.eq, g13.eq, g14.eq, g15.eq, h11, h12, h13] at ⊢
  ((repeat' (first | apply And.intro | intro h)) <;> first | omega | rfl | trivial | (exfalso; omega)))
def w_yo_lie_0_6 : VC := (([(0, 23), (0, 49), (0, 8), (0, 10), (0, 8), (0, 5), (0, 6), (0, 8), (0, 11), (0, 9), ((-2147483648), 2147483647), ((-2147483648), 2147483647), (0, 5), (0, 23), (0, 7), (1, 9)]), [(21, [(some 5, 0), (some 15, 0)], [37, 13]), (21, [(some 5, 0), (some 14, 0)], [36, 12]), (21, [(some 5, 0), (some 13, 0)], [35, 11]), (1, [(some 5, 0), (none, 6)], []), (1, [(none, 1), (none, 0)], []), (3, [(none, 9), (some 15, 0)], []), (3, [(some 15, 0), (none, 1)], []), (1, [(none, 1), (none, 0)], []), (3, [(none, 7), (some 14, 0)], []), (3, [(some 14, 0), (none, 0)], []), (1, [(none, 1), (none, 0)], []), (3, [(none, 23), (some 13, 0)], []), (3, [(some 13, 0), (none, 0)], [])], (115, [(some 5, 1), (some 13, 0), (some 14, 0), (some 15, 0), (some 5, 0), (some 5, 1)], [11, 12, 13, 35, 36, 37]))
set_option maxRecDepth 20000 in
theorem v_yo_lie_0_6 {PT : PTy} (hp : HP7 PT) : vcOk PT w_yo_lie_0_6 := vc_iv [(5, 0, 5), (13, 0, 23), (14, 0, 7), (15, 1, 9)] [11, 12, 13, 35, 36, 37] (by decide +kernel) (fun ρ α => by
  intro r5 g5 b5 r13 g13 b13 r14 g14 b14 r15 g15 b15 a11 h11 a12 h12 a13 h13 a35 h35 a36 h36 a37 h37 f0 f1 f2 f3 f4 f5 f6 f7 f8 f9 f10 f11 f12 tt
  clear f3 f4 f5 f6 f7 f8 f9 f10 f11 f12
  have e115 : PT 115 = P_tlA := pe115_7 hp
  simp only [hF21, hFp_115, e115, P_tlA, den_s, den_c, Int.add_zero, List.map_cons, List.map_nil, g5.eq, g13.eq, g14.eq, g15.eq, h11, h12, h13, h35, h36, h37] at f0 f1 f2 ⊢
  subst f0
  subst f1
  subst f2
  ((repeat' (first | apply And.intro | intro h)) <;> first | omega | rfl | trivial | (exfalso; omega)))
def w_yo_lie_0_7 : VC := (([(0, 23), (0, 49), (0, 8), (0, 10), (0, 8), (6, 6), (0, 6), (0, 8), (0, 11), (0, 9), ((-2147483648), 2147483647), ((-2147483648), 2147483647), (0, 5), (0, 23), (0, 7), (1, 9)]), [(0, [(some 5, 0), (none, 6)], []), (1, [(none, 1), (none, 0)], []), (3, [(none, 9), (some 15, 0)], []), (3, [(some 15, 0), (none, 1)], []), (1, [(none, 1), (none, 0)], []), (3, [(none, 7), (some 14, 0)], []), (3, [(some 14, 0), (none, 0)], []), (1, [(none, 1), (none, 0)], []), (3, [(none, 23), (some 13, 0)], []), (3, [(some 13, 0), (none, 0)], [])], (115, [(none, (-4)), (some 13, 0), (some 14, 0), (some 15, 0), (some 5, 0), (some 5, 0)], [11, 12, 13, 11, 12, 13]))
set_option maxRecDepth 20000 in
theorem v_yo_lie_0_7 {PT : PTy} (hp : HP7 PT) : vcOk PT w_yo_lie_0_7 := vc_iv [(5, 6, 6), (13, 0, 23), (14, 0, 7), (15, 1, 9)] [11, 12, 13] (by decide +kernel) (fun ρ α => by
  intro r5 g5 b5 r13 g13 b13 r14 g14 b14 r15 g15 b15 a11 h11 a12 h12 a13 h13 f0 f1 f2 f3 f4 f5 f6 f7 f8 f9 tt
  clear f1 f2 f3 f4 f5 f6 f7 f8 f9
  have e115 : PT 115 = P_tlA := pe115_7 hp
  simp only [hF0, hFp_115, e115, P_tlA, den_s, den_c, Int.add_zero, List.map_cons, List.map_nil, g5.eq, g13.eq, g14.eq, g15.eq, h11, h12, h13] at f0 ⊢
  ((repeat' (first | apply And.intro | intro h)) <;> first | omega | rfl | trivial | (exfalso; omega)))
set_option maxRecDepth 1000000 in
theorem k_yo_lie {PT : PTy} (hp : HP7 PT) : wfX c_yo_lie = true ∧ xcOk PT c_yo_lie := xctr (xl0) c_yo_lie 99 mX7_lie rfl h_yo_lie (by decide +kernel) (by decide +kernel) (by decide) (vcs_by [w_yo_lie_0_0, w_yo_lie_0_1, w_yo_lie_0_2, w_yo_lie_0_3, w_yo_lie_0_4, w_yo_lie_0_5, w_yo_lie_0_6, w_yo_lie_0_7] (by decide +kernel) (vc (v_yo_lie_0_0 hp) (vc (v_yo_lie_0_1 hp) (vc (v_yo_lie_0_2 hp) (vc (v_yo_lie_0_3 hp) (vc (v_yo_lie_0_4 hp) (vc (v_yo_lie_0_5 hp) (vc (v_yo_lie_0_6 hp) (vc (v_yo_lie_0_7 hp) vn))))))))) fmn
def c_yo_letting : XC := (129, 2, (bY ++ [((-2147483648), 2147483647), ((-2147483648), 2147483647), ((-2147483648), 2147483647)]), [.inr (.inl 0), .inl (some 13, 0), .inl (some 14, 0), .inl (some 15, 0)], gY2, [], [((bY ++ [((-2147483648), 2147483647), ((-2147483648), 2147483647), ((-2147483648), 2147483647), ((-4), 6), (0, 6)]), some (.inl (some 16, 0)), (hst gY2 [(0, .inr (.inr (.inr (7, [.inr (.inl 1), .inr (.inl 2), .inl (some 2, 0), .inr (.inl 3), .inr (.inl 4), .inl (some 3, 0), .inr (.inl 5), .inr (.inl 6), .inr (.inl 7), .inr (.inl 8), .inl (some 4, 0), .inr (.inl 9), .inr (.inl 10), .inl (some 5, 0), .inr (.inl 11), .inr (.inl 12), .inr (.inl 13), .inl (some 17, 0), .inr (.inl 14), .inr (.inl 15), .inr (.inl 16), .inl (some 8, 0), .inl (some 9, 0), .inr (.inl 17), .inr (.inl 18), .inl (some 10, 0), .inl (some 11, 0), .inr (.inl 19), .inr (.inl 20), .inr (.inl 21), .inr (.inl 22), .inr (.inl 23), .inr (.inl 24), .inr (.inl 25), .inl (some 7, 0), .inr (.inl 26), .inr (.inl 27), .inr (.inl 28), .inr (.inl 29), .inr (.inl 30), .inr (.inl 31), .inr (.inl 32), .inr (.inl 33), .inr (.inl 34), .inl (some 12, 0)]))))]), (ansT 35 [(14, 35), (15, 36), (16, 37)]), 38, [(115, [(some 16, 0), (some 13, 0), (some 14, 0), (some 15, 0), (some 6, 0), (some 17, 0)], [14, 15, 16, 35, 36, 37])])])
def h_yo_letting : List XH := []
def w_yo_letting_0_0 : VC := ((bY ++ [((-2147483648), (-1)), ((-2147483648), 2147483647), ((-2147483648), 2147483647)]), [(0, [(none, 0), (none, 0)], []), (2, [(some 13, 0), (none, 0)], [])], (115, [(none, (-2)), (some 13, 0), (some 14, 0), (some 15, 0), (some 6, 0), (some 6, 0)], [14, 15, 16, 14, 15, 16]))
set_option maxRecDepth 20000 in
theorem v_yo_letting_0_0 {PT : PTy} (hp : HP7 PT) : vcOk PT w_yo_letting_0_0 := vc_iv [(6, 0, 6), (13, (-2147483648), (-1)), (14, (-2147483648), 2147483647), (15, (-2147483648), 2147483647)] [14, 15, 16] (by decide +kernel) (fun ρ α => by
  intro r6 g6 b6 r13 g13 b13 r14 g14 b14 r15 g15 b15 a14 h14 a15 h15 a16 h16 f0 f1 tt
  clear f0 f1
  have e115 : PT 115 = P_tlA := pe115_7 hp
  simp only [hFp_115, e115, P_tlA, den_s, den_c, Int.add_zero, List.map_cons, List.map_nil, g6.eq, g13.eq, g14.eq, g15.eq, h14, h15, h16] at ⊢
  ((repeat' (first | apply And.intro | intro h)) <;> first | omega | rfl | trivial | (exfalso; omega)))
def w_yo_letting_0_1 : VC := ((bY ++ [(24, 2147483647), ((-2147483648), 2147483647), ((-2147483648), 2147483647)]), [(0, [(none, 0), (none, 0)], []), (2, [(none, 23), (some 13, 0)], []), (3, [(some 13, 0), (none, 0)], [])], (115, [(none, (-2)), (some 13, 0), (some 14, 0), (some 15, 0), (some 6, 0), (some 6, 0)], [14, 15, 16, 14, 15, 16]))
set_option maxRecDepth 20000 in
theorem v_yo_letting_0_1 {PT : PTy} (hp : HP7 PT) : vcOk PT w_yo_letting_0_1 := vc_iv [(6, 0, 6), (13, 24, 2147483647), (14, (-2147483648), 2147483647), (15, (-2147483648), 2147483647)] [14, 15, 16] (by decide +kernel) (fun ρ α => by
  intro r6 g6 b6 r13 g13 b13 r14 g14 b14 r15 g15 b15 a14 h14 a15 h15 a16 h16 f0 f1 f2 tt
  clear f0 f1 f2
  have e115 : PT 115 = P_tlA := pe115_7 hp
  simp only [hFp_115, e115, P_tlA, den_s, den_c, Int.add_zero, List.map_cons, List.map_nil, g6.eq, g13.eq, g14.eq, g15.eq, h14, h15, h16] at ⊢
  ((repeat' (first | apply And.intro | intro h)) <;> first | omega | rfl | trivial | (exfalso; omega)))
def w_yo_letting_0_2 : VC := ((bY ++ [(0, 23), ((-2147483648), (-1)), ((-2147483648), 2147483647)]), [(0, [(none, 0), (none, 0)], []), (2, [(some 14, 0), (none, 0)], []), (1, [(none, 1), (none, 0)], []), (3, [(none, 23), (some 13, 0)], []), (3, [(some 13, 0), (none, 0)], [])], (115, [(none, (-2)), (some 13, 0), (some 14, 0), (some 15, 0), (some 6, 0), (some 6, 0)], [14, 15, 16, 14, 15, 16]))
set_option maxRecDepth 20000 in
theorem v_yo_letting_0_2 {PT : PTy} (hp : HP7 PT) : vcOk PT w_yo_letting_0_2 := vc_iv [(6, 0, 6), (13, 0, 23), (14, (-2147483648), (-1)), (15, (-2147483648), 2147483647)] [14, 15, 16] (by decide +kernel) (fun ρ α => by
  intro r6 g6 b6 r13 g13 b13 r14 g14 b14 r15 g15 b15 a14 h14 a15 h15 a16 h16 f0 f1 f2 f3 f4 tt
  clear f0 f1 f2 f3 f4
  have e115 : PT 115 = P_tlA := pe115_7 hp
  simp only [hFp_115, e115, P_tlA, den_s, den_c, Int.add_zero, List.map_cons, List.map_nil, g6.eq, g13.eq, g14.eq, g15.eq, h14, h15, h16] at ⊢
  ((repeat' (first | apply And.intro | intro h)) <;> first | omega | rfl | trivial | (exfalso; omega)))
def w_yo_letting_0_3 : VC := ((bY ++ [(0, 23), (8, 2147483647), ((-2147483648), 2147483647)]), [(0, [(none, 0), (none, 0)], []), (2, [(none, 7), (some 14, 0)], []), (3, [(some 14, 0), (none, 0)], []), (1, [(none, 1), (none, 0)], []), (3, [(none, 23), (some 13, 0)], []), (3, [(some 13, 0), (none, 0)], [])], (115, [(none, (-2)), (some 13, 0), (some 14, 0), (some 15, 0), (some 6, 0), (some 6, 0)], [14, 15, 16, 14, 15, 16]))
set_option maxRecDepth 20000 in
theorem v_yo_letting_0_3 {PT : PTy} (hp : HP7 PT) : vcOk PT w_yo_letting_0_3 := vc_iv [(6, 0, 6), (13, 0, 23), (14, 8, 2147483647), (15, (-2147483648), 2147483647)] [14, 15, 16] (by decide +kernel) (fun ρ α => by
  intro r6 g6 b6 r13 g13 b13 r14 g14 b14 r15 g15 b15 a14 h14 a15 h15 a16 h16 f0 f1 f2 f3 f4 f5 tt
  clear f0 f1 f2 f3 f4 f5
  have e115 : PT 115 = P_tlA := pe115_7 hp
  simp only [hFp_115, e115, P_tlA, den_s, den_c, Int.add_zero, List.map_cons, List.map_nil, g6.eq, g13.eq, g14.eq, g15.eq, h14, h15, h16] at ⊢
  ((repeat' (first | apply And.intro | intro h)) <;> first | omega | rfl | trivial | (exfalso; omega)))
def w_yo_letting_0_4 : VC := ((bY ++ [(0, 23), (0, 7), ((-2147483648), 0)]), [(0, [(none, 0), (none, 0)], []), (2, [(some 15, 0), (none, 1)], []), (1, [(none, 1), (none, 0)], []), (3, [(none, 7), (some 14, 0)], []), (3, [(some 14, 0), (none, 0)], []), (1, [(none, 1), (none, 0)], []), (3, [(none, 23), (some 13, 0)], []), (3, [(some 13, 0), (none, 0)], [])], (115, [(none, (-2)), (some 13, 0), (some 14, 0), (some 15, 0), (some 6, 0), (some 6, 0)], [14, 15, 16, 14, 15, 16]))
set_option maxRecDepth 20000 in
theorem v_yo_letting_0_4 {PT : PTy} (hp : HP7 PT) : vcOk PT w_yo_letting_0_4 := vc_iv [(6, 0, 6), (13, 0, 23), (14, 0, 7), (15, (-2147483648), 0)] [14, 15, 16] (by decide +kernel) (fun ρ α => by
  intro r6 g6 b6 r13 g13 b13 r14 g14 b14 r15 g15 b15 a14 h14 a15 h15 a16 h16 f0 f1 f2 f3 f4 f5 f6 f7 tt
  clear f0 f1 f2 f3 f4 f5 f6 f7
  have e115 : PT 115 = P_tlA := pe115_7 hp
  simp only [hFp_115, e115, P_tlA, den_s, den_c, Int.add_zero, List.map_cons, List.map_nil, g6.eq, g13.eq, g14.eq, g15.eq, h14, h15, h16] at ⊢
  ((repeat' (first | apply And.intro | intro h)) <;> first | omega | rfl | trivial | (exfalso; omega)))
def w_yo_letting_0_5 : VC := ((bY ++ [(0, 23), (0, 7), (10, 2147483647)]), [(0, [(none, 0), (none, 0)], []), (2, [(none, 9), (some 15, 0)], []), (3, [(some 15, 0), (none, 1)], []), (1, [(none, 1), (none, 0)], []), (3, [(none, 7), (some 14, 0)], []), (3, [(some 14, 0), (none, 0)], []), (1, [(none, 1), (none, 0)], []), (3, [(none, 23), (some 13, 0)], []), (3, [(some 13, 0), (none, 0)], [])], (115, [(none, (-2)), (some 13, 0), (some 14, 0), (some 15, 0), (some 6, 0), (some 6, 0)], [14, 15, 16, 14, 15, 16]))
set_option maxRecDepth 20000 in
theorem v_yo_letting_0_5 {PT : PTy} (hp : HP7 PT) : vcOk PT w_yo_letting_0_5 := vc_iv [(6, 0, 6), (13, 0, 23), (14, 0, 7), (15, 10, 2147483647)] [14, 15, 16] (by decide +kernel) (fun ρ α => by
  intro r6 g6 b6 r13 g13 b13 r14 g14 b14 r15 g15 b15 a14 h14 a15 h15 a16 h16 f0 f1 f2 f3 f4 f5 f6 f7 f8 tt
  clear f0 f1 f2 f3 f4 f5 f6 f7 f8
  have e115 : PT 115 = P_tlA := pe115_7 hp
  simp only [hFp_115, e115, P_tlA, den_s, den_c, Int.add_zero, List.map_cons, List.map_nil, g6.eq, g13.eq, g14.eq, g15.eq, h14, h15, h16] at ⊢
  ((repeat' (first | apply And.intro | intro h)) <;> first | omega | rfl | trivial | (exfalso; omega)))
def w_yo_letting_0_6 : VC := (([(0, 23), (0, 49), (0, 8), (0, 10), (0, 8), (0, 6), (0, 5), (0, 8), (0, 11), (0, 9), ((-2147483648), 2147483647), ((-2147483648), 2147483647), (0, 5), (0, 23), (0, 7), (1, 9)]), [(21, [(some 6, 0), (some 15, 0)], [37, 16]), (21, [(some 6, 0), (some 14, 0)], [36, 15]), (21, [(some 6, 0), (some 13, 0)], [35, 14]), (1, [(some 6, 0), (none, 6)], []), (1, [(none, 1), (none, 0)], []), (3, [(none, 9), (some 15, 0)], []), (3, [(some 15, 0), (none, 1)], []), (1, [(none, 1), (none, 0)], []), (3, [(none, 7), (some 14, 0)], []), (3, [(some 14, 0), (none, 0)], []), (1, [(none, 1), (none, 0)], []), (3, [(none, 23), (some 13, 0)], []), (3, [(some 13, 0), (none, 0)], [])], (115, [(some 6, 1), (some 13, 0), (some 14, 0), (some 15, 0), (some 6, 0), (some 6, 1)], [14, 15, 16, 35, 36, 37]))
set_option maxRecDepth 20000 in
theorem v_yo_letting_0_6 {PT : PTy} (hp : HP7 PT) : vcOk PT w_yo_letting_0_6 := vc_iv [(6, 0, 5), (13, 0, 23), (14, 0, 7), (15, 1, 9)] [14, 15, 16, 35, 36, 37] (by decide +kernel) (fun ρ α => by
  intro r6 g6 b6 r13 g13 b13 r14 g14 b14 r15 g15 b15 a14 h14 a15 h15 a16 h16 a35 h35 a36 h36 a37 h37 f0 f1 f2 f3 f4 f5 f6 f7 f8 f9 f10 f11 f12 tt
  clear f3 f4 f5 f6 f7 f8 f9 f10 f11 f12
  have e115 : PT 115 = P_tlA := pe115_7 hp
  simp only [hF21, hFp_115, e115, P_tlA, den_s, den_c, Int.add_zero, List.map_cons, List.map_nil, g6.eq, g13.eq, g14.eq, g15.eq, h14, h15, h16, h35, h36, h37] at f0 f1 f2 ⊢
  subst f0
  subst f1
  subst f2
  ((repeat' (first | apply And.intro | intro h)) <;> first | omega | rfl | trivial | (exfalso; omega)))
def w_yo_letting_0_7 : VC := (([(0, 23), (0, 49), (0, 8), (0, 10), (0, 8), (0, 6), (6, 6), (0, 8), (0, 11), (0, 9), ((-2147483648), 2147483647), ((-2147483648), 2147483647), (0, 5), (0, 23), (0, 7), (1, 9)]), [(0, [(some 6, 0), (none, 6)], []), (1, [(none, 1), (none, 0)], []), (3, [(none, 9), (some 15, 0)], []), (3, [(some 15, 0), (none, 1)], []), (1, [(none, 1), (none, 0)], []), (3, [(none, 7), (some 14, 0)], []), (3, [(some 14, 0), (none, 0)], []), (1, [(none, 1), (none, 0)], []), (3, [(none, 23), (some 13, 0)], []), (3, [(some 13, 0), (none, 0)], [])], (115, [(none, (-4)), (some 13, 0), (some 14, 0), (some 15, 0), (some 6, 0), (some 6, 0)], [14, 15, 16, 14, 15, 16]))
set_option maxRecDepth 20000 in
theorem v_yo_letting_0_7 {PT : PTy} (hp : HP7 PT) : vcOk PT w_yo_letting_0_7 := vc_iv [(6, 6, 6), (13, 0, 23), (14, 0, 7), (15, 1, 9)] [14, 15, 16] (by decide +kernel) (fun ρ α => by
  intro r6 g6 b6 r13 g13 b13 r14 g14 b14 r15 g15 b15 a14 h14 a15 h15 a16 h16 f0 f1 f2 f3 f4 f5 f6 f7 f8 f9 tt
  clear f1 f2 f3 f4 f5 f6 f7 f8 f9
  have e115 : PT 115 = P_tlA := pe115_7 hp
  simp only [hF0, hFp_115, e115, P_tlA, den_s, den_c, Int.add_zero, List.map_cons, List.map_nil, g6.eq, g13.eq, g14.eq, g15.eq, h14, h15, h16] at f0 ⊢
  ((repeat' (first | apply And.intro | intro h)) <;> first | omega | rfl | trivial | (exfalso; omega)))
set_option maxRecDepth 1000000 in
theorem k_yo_letting {PT : PTy} (hp : HP7 PT) : wfX c_yo_letting = true ∧ xcOk PT c_yo_letting := xctr (xl0) c_yo_letting 99 mX7_letting rfl h_yo_letting (by decide +kernel) (by decide +kernel) (by decide) (vcs_by [w_yo_letting_0_0, w_yo_letting_0_1, w_yo_letting_0_2, w_yo_letting_0_3, w_yo_letting_0_4, w_yo_letting_0_5, w_yo_letting_0_6, w_yo_letting_0_7] (by decide +kernel) (vc (v_yo_letting_0_0 hp) (vc (v_yo_letting_0_1 hp) (vc (v_yo_letting_0_2 hp) (vc (v_yo_letting_0_3 hp) (vc (v_yo_letting_0_4 hp) (vc (v_yo_letting_0_5 hp) (vc (v_yo_letting_0_6 hp) (vc (v_yo_letting_0_7 hp) vn))))))))) fmn
def c_yo_seen : XC := (170, 2, (bY ++ [((-2147483648), 2147483647), ((-2147483648), 2147483647), ((-2147483648), 2147483647)]), [.inr (.inl 0), .inl (some 13, 0), .inl (some 14, 0), .inl (some 15, 0)], gY2, [], [((bY ++ [((-2147483648), 2147483647), ((-2147483648), 2147483647), ((-2147483648), 2147483647), ((-4), 8), (0, 8)]), some (.inl (some 16, 0)), (hst gY2 [(0, .inr (.inr (.inr (7, [.inr (.inl 1), .inr (.inl 2), .inl (some 2, 0), .inr (.inl 3), .inr (.inl 4), .inl (some 3, 0), .inr (.inl 5), .inr (.inl 6), .inr (.inl 7), .inr (.inl 8), .inl (some 4, 0), .inr (.inl 9), .inr (.inl 10), .inl (some 5, 0), .inr (.inl 11), .inr (.inl 12), .inr (.inl 13), .inl (some 6, 0), .inr (.inl 14), .inr (.inl 15), .inr (.inl 16), .inl (some 8, 0), .inl (some 9, 0), .inr (.inl 17), .inr (.inl 18), .inl (some 10, 0), .inl (some 11, 0), .inr (.inl 19), .inr (.inl 20), .inr (.inl 21), .inr (.inl 22), .inr (.inl 23), .inr (.inl 24), .inr (.inl 25), .inl (some 17, 0), .inr (.inl 26), .inr (.inl 27), .inr (.inl 28), .inr (.inl 29), .inr (.inl 30), .inr (.inl 31), .inr (.inl 32), .inr (.inl 33), .inr (.inl 34), .inl (some 12, 0)]))))]), (ansT 35 [(26, 35), (27, 36), (28, 37)]), 38, [(116, [(some 16, 0), (some 13, 0), (some 14, 0), (some 15, 0), (some 7, 0), (some 17, 0)], [26, 27, 28, 35, 36, 37])])])
def h_yo_seen : List XH := []
def w_yo_seen_0_0 : VC := ((bY ++ [((-2147483648), (-1)), ((-2147483648), 2147483647), ((-2147483648), 2147483647)]), [(0, [(none, 0), (none, 0)], []), (2, [(some 13, 0), (none, 0)], [])], (116, [(none, (-2)), (some 13, 0), (some 14, 0), (some 15, 0), (some 7, 0), (some 7, 0)], [26, 27, 28, 26, 27, 28]))
theorem pe116_7 {PT : PTy} (hp : HP7 PT) : PT 116 = P_seA := hp.1.2.2.2.2.2.2.2.2.2.2.1
set_option maxRecDepth 20000 in
theorem v_yo_seen_0_0 {PT : PTy} (hp : HP7 PT) : vcOk PT w_yo_seen_0_0 := vc_iv [(7, 0, 8), (13, (-2147483648), (-1)), (14, (-2147483648), 2147483647), (15, (-2147483648), 2147483647)] [26, 27, 28] (by decide +kernel) (fun ρ α => by
  intro r7 g7 b7 r13 g13 b13 r14 g14 b14 r15 g15 b15 a26 h26 a27 h27 a28 h28 f0 f1 tt
  clear f0 f1
  have e116 : PT 116 = P_seA := pe116_7 hp
  simp only [hFp_116, e116, P_seA, den_s, den_c, Int.add_zero, List.map_cons, List.map_nil, g7.eq, g13.eq, g14.eq, g15.eq, h26, h27, h28] at ⊢
  ((repeat' (first | apply And.intro | intro h)) <;> first | omega | rfl | trivial | (exfalso; omega)))
def w_yo_seen_0_1 : VC := ((bY ++ [(24, 2147483647), ((-2147483648), 2147483647), ((-2147483648), 2147483647)]), [(0, [(none, 0), (none, 0)], []), (2, [(none, 23), (some 13, 0)], []), (3, [(some 13, 0), (none, 0)], [])], (116, [(none, (-2)), (some 13, 0), (some 14, 0), (some 15, 0), (some 7, 0), (some 7, 0)], [26, 27, 28, 26, 27, 28]))
set_option maxRecDepth 20000 in
theorem v_yo_seen_0_1 {PT : PTy} (hp : HP7 PT) : vcOk PT w_yo_seen_0_1 := vc_iv [(7, 0, 8), (13, 24, 2147483647), (14, (-2147483648), 2147483647), (15, (-2147483648), 2147483647)] [26, 27, 28] (by decide +kernel) (fun ρ α => by
  intro r7 g7 b7 r13 g13 b13 r14 g14 b14 r15 g15 b15 a26 h26 a27 h27 a28 h28 f0 f1 f2 tt
  clear f0 f1 f2
  have e116 : PT 116 = P_seA := pe116_7 hp
  simp only [hFp_116, e116, P_seA, den_s, den_c, Int.add_zero, List.map_cons, List.map_nil, g7.eq, g13.eq, g14.eq, g15.eq, h26, h27, h28] at ⊢
  ((repeat' (first | apply And.intro | intro h)) <;> first | omega | rfl | trivial | (exfalso; omega)))
def w_yo_seen_0_2 : VC := ((bY ++ [(0, 23), ((-2147483648), (-1)), ((-2147483648), 2147483647)]), [(0, [(none, 0), (none, 0)], []), (2, [(some 14, 0), (none, 0)], []), (1, [(none, 1), (none, 0)], []), (3, [(none, 23), (some 13, 0)], []), (3, [(some 13, 0), (none, 0)], [])], (116, [(none, (-2)), (some 13, 0), (some 14, 0), (some 15, 0), (some 7, 0), (some 7, 0)], [26, 27, 28, 26, 27, 28]))
set_option maxRecDepth 20000 in
theorem v_yo_seen_0_2 {PT : PTy} (hp : HP7 PT) : vcOk PT w_yo_seen_0_2 := vc_iv [(7, 0, 8), (13, 0, 23), (14, (-2147483648), (-1)), (15, (-2147483648), 2147483647)] [26, 27, 28] (by decide +kernel) (fun ρ α => by
  intro r7 g7 b7 r13 g13 b13 r14 g14 b14 r15 g15 b15 a26 h26 a27 h27 a28 h28 f0 f1 f2 f3 f4 tt
  clear f0 f1 f2 f3 f4
  have e116 : PT 116 = P_seA := pe116_7 hp
  simp only [hFp_116, e116, P_seA, den_s, den_c, Int.add_zero, List.map_cons, List.map_nil, g7.eq, g13.eq, g14.eq, g15.eq, h26, h27, h28] at ⊢
  ((repeat' (first | apply And.intro | intro h)) <;> first | omega | rfl | trivial | (exfalso; omega)))
def w_yo_seen_0_3 : VC := ((bY ++ [(0, 23), (8, 2147483647), ((-2147483648), 2147483647)]), [(0, [(none, 0), (none, 0)], []), (2, [(none, 7), (some 14, 0)], []), (3, [(some 14, 0), (none, 0)], []), (1, [(none, 1), (none, 0)], []), (3, [(none, 23), (some 13, 0)], []), (3, [(some 13, 0), (none, 0)], [])], (116, [(none, (-2)), (some 13, 0), (some 14, 0), (some 15, 0), (some 7, 0), (some 7, 0)], [26, 27, 28, 26, 27, 28]))
set_option maxRecDepth 20000 in
theorem v_yo_seen_0_3 {PT : PTy} (hp : HP7 PT) : vcOk PT w_yo_seen_0_3 := vc_iv [(7, 0, 8), (13, 0, 23), (14, 8, 2147483647), (15, (-2147483648), 2147483647)] [26, 27, 28] (by decide +kernel) (fun ρ α => by
  intro r7 g7 b7 r13 g13 b13 r14 g14 b14 r15 g15 b15 a26 h26 a27 h27 a28 h28 f0 f1 f2 f3 f4 f5 tt
  clear f0 f1 f2 f3 f4 f5
  have e116 : PT 116 = P_seA := pe116_7 hp
  simp only [hFp_116, e116, P_seA, den_s, den_c, Int.add_zero, List.map_cons, List.map_nil, g7.eq, g13.eq, g14.eq, g15.eq, h26, h27, h28] at ⊢
  ((repeat' (first | apply And.intro | intro h)) <;> first | omega | rfl | trivial | (exfalso; omega)))
def w_yo_seen_0_4 : VC := ((bY ++ [(0, 23), (0, 7), ((-2147483648), (-1))]), [(0, [(none, 0), (none, 0)], []), (2, [(some 15, 0), (none, 0)], []), (1, [(none, 1), (none, 0)], []), (3, [(none, 7), (some 14, 0)], []), (3, [(some 14, 0), (none, 0)], []), (1, [(none, 1), (none, 0)], []), (3, [(none, 23), (some 13, 0)], []), (3, [(some 13, 0), (none, 0)], [])], (116, [(none, (-2)), (some 13, 0), (some 14, 0), (some 15, 0), (some 7, 0), (some 7, 0)], [26, 27, 28, 26, 27, 28]))
set_option maxRecDepth 20000 in
theorem v_yo_seen_0_4 {PT : PTy} (hp : HP7 PT) : vcOk PT w_yo_seen_0_4 := vc_iv [(7, 0, 8), (13, 0, 23), (14, 0, 7), (15, (-2147483648), (-1))] [26, 27, 28] (by decide +kernel) (fun ρ α => by
  intro r7 g7 b7 r13 g13 b13 r14 g14 b14 r15 g15 b15 a26 h26 a27 h27 a28 h28 f0 f1 f2 f3 f4 f5 f6 f7 tt
  clear f0 f1 f2 f3 f4 f5 f6 f7
  have e116 : PT 116 = P_seA := pe116_7 hp
  simp only [hFp_116, e116, P_seA, den_s, den_c, Int.add_zero, List.map_cons, List.map_nil, g7.eq, g13.eq, g14.eq, g15.eq, h26, h27, h28] at ⊢
  ((repeat' (first | apply And.intro | intro h)) <;> first | omega | rfl | trivial | (exfalso; omega)))
def w_yo_seen_0_5 : VC := ((bY ++ [(0, 23), (0, 7), (100, 2147483647)]), [(0, [(none, 0), (none, 0)], []), (2, [(none, 99), (some 15, 0)], []), (3, [(some 15, 0), (none, 0)], []), (1, [(none, 1), (none, 0)], []), (3, [(none, 7), (some 14, 0)], []), (3, [(some 14, 0), (none, 0)], []), (1, [(none, 1), (none, 0)], []), (3, [(none, 23), (some 13, 0)], []), (3, [(some 13, 0), (none, 0)], [])], (116, [(none, (-2)), (some 13, 0), (some 14, 0), (some 15, 0), (some 7, 0), (some 7, 0)], [26, 27, 28, 26, 27, 28]))
set_option maxRecDepth 20000 in
theorem v_yo_seen_0_5 {PT : PTy} (hp : HP7 PT) : vcOk PT w_yo_seen_0_5 := vc_iv [(7, 0, 8), (13, 0, 23), (14, 0, 7), (15, 100, 2147483647)] [26, 27, 28] (by decide +kernel) (fun ρ α => by
  intro r7 g7 b7 r13 g13 b13 r14 g14 b14 r15 g15 b15 a26 h26 a27 h27 a28 h28 f0 f1 f2 f3 f4 f5 f6 f7 f8 tt
  clear f0 f1 f2 f3 f4 f5 f6 f7 f8
  have e116 : PT 116 = P_seA := pe116_7 hp
  simp only [hFp_116, e116, P_seA, den_s, den_c, Int.add_zero, List.map_cons, List.map_nil, g7.eq, g13.eq, g14.eq, g15.eq, h26, h27, h28] at ⊢
  ((repeat' (first | apply And.intro | intro h)) <;> first | omega | rfl | trivial | (exfalso; omega)))
def w_yo_seen_0_6 : VC := (([(0, 23), (0, 49), (0, 8), (0, 10), (0, 8), (0, 6), (0, 6), (0, 7), (0, 11), (0, 9), ((-2147483648), 2147483647), ((-2147483648), 2147483647), (0, 5), (0, 23), (0, 7), (0, 99)]), [(21, [(some 7, 0), (some 15, 0)], [37, 28]), (21, [(some 7, 0), (some 14, 0)], [36, 27]), (21, [(some 7, 0), (some 13, 0)], [35, 26]), (1, [(some 7, 0), (none, 8)], []), (1, [(none, 1), (none, 0)], []), (3, [(none, 99), (some 15, 0)], []), (3, [(some 15, 0), (none, 0)], []), (1, [(none, 1), (none, 0)], []), (3, [(none, 7), (some 14, 0)], []), (3, [(some 14, 0), (none, 0)], []), (1, [(none, 1), (none, 0)], []), (3, [(none, 23), (some 13, 0)], []), (3, [(some 13, 0), (none, 0)], [])], (116, [(some 7, 1), (some 13, 0), (some 14, 0), (some 15, 0), (some 7, 0), (some 7, 1)], [26, 27, 28, 35, 36, 37]))
set_option maxRecDepth 20000 in
theorem v_yo_seen_0_6 {PT : PTy} (hp : HP7 PT) : vcOk PT w_yo_seen_0_6 := vc_iv [(7, 0, 7), (13, 0, 23), (14, 0, 7), (15, 0, 99)] [26, 27, 28, 35, 36, 37] (by decide +kernel) (fun ρ α => by
  intro r7 g7 b7 r13 g13 b13 r14 g14 b14 r15 g15 b15 a26 h26 a27 h27 a28 h28 a35 h35 a36 h36 a37 h37 f0 f1 f2 f3 f4 f5 f6 f7 f8 f9 f10 f11 f12 tt
  clear f3 f4 f5 f6 f7 f8 f9 f10 f11 f12
  have e116 : PT 116 = P_seA := pe116_7 hp
  simp only [hF21, hFp_116, e116, P_seA, den_s, den_c, Int.add_zero, List.map_cons, List.map_nil, g7.eq, g13.eq, g14.eq, g15.eq, h26, h27, h28, h35, h36, h37] at f0 f1 f2 ⊢
  subst f0
  subst f1
  subst f2
  ((repeat' (first | apply And.intro | intro h)) <;> first | omega | rfl | trivial | (exfalso; omega)))
def w_yo_seen_0_7 : VC := (([(0, 23), (0, 49), (0, 8), (0, 10), (0, 8), (0, 6), (0, 6), (8, 8), (0, 11), (0, 9), ((-2147483648), 2147483647), ((-2147483648), 2147483647), (0, 5), (0, 23), (0, 7), (0, 99)]), [(0, [(some 7, 0), (none, 8)], []), (1, [(none, 1), (none, 0)], []), (3, [(none, 99), (some 15, 0)], []), (3, [(some 15, 0), (none, 0)], []), (1, [(none, 1), (none, 0)], []), (3, [(none, 7), (some 14, 0)], []), (3, [(some 14, 0), (none, 0)], []), (1, [(none, 1), (none, 0)], []), (3, [(none, 23), (some 13, 0)], []), (3, [(some 13, 0), (none, 0)], [])], (116, [(none, (-4)), (some 13, 0), (some 14, 0), (some 15, 0), (some 7, 0), (some 7, 0)], [26, 27, 28, 26, 27, 28]))
set_option maxRecDepth 20000 in
theorem v_yo_seen_0_7 {PT : PTy} (hp : HP7 PT) : vcOk PT w_yo_seen_0_7 := vc_iv [(7, 8, 8), (13, 0, 23), (14, 0, 7), (15, 0, 99)] [26, 27, 28] (by decide +kernel) (fun ρ α => by
  intro r7 g7 b7 r13 g13 b13 r14 g14 b14 r15 g15 b15 a26 h26 a27 h27 a28 h28 f0 f1 f2 f3 f4 f5 f6 f7 f8 f9 tt
  clear f1 f2 f3 f4 f5 f6 f7 f8 f9
  have e116 : PT 116 = P_seA := pe116_7 hp
  simp only [hF0, hFp_116, e116, P_seA, den_s, den_c, Int.add_zero, List.map_cons, List.map_nil, g7.eq, g13.eq, g14.eq, g15.eq, h26, h27, h28] at f0 ⊢
  ((repeat' (first | apply And.intro | intro h)) <;> first | omega | rfl | trivial | (exfalso; omega)))
set_option maxRecDepth 1000000 in
theorem k_yo_seen {PT : PTy} (hp : HP7 PT) : wfX c_yo_seen = true ∧ xcOk PT c_yo_seen := xctr (xl0) c_yo_seen 99 mX7_seen rfl h_yo_seen (by decide +kernel) (by decide +kernel) (by decide) (vcs_by [w_yo_seen_0_0, w_yo_seen_0_1, w_yo_seen_0_2, w_yo_seen_0_3, w_yo_seen_0_4, w_yo_seen_0_5, w_yo_seen_0_6, w_yo_seen_0_7] (by decide +kernel) (vc (v_yo_seen_0_0 hp) (vc (v_yo_seen_0_1 hp) (vc (v_yo_seen_0_2 hp) (vc (v_yo_seen_0_3 hp) (vc (v_yo_seen_0_4 hp) (vc (v_yo_seen_0_5 hp) (vc (v_yo_seen_0_6 hp) (vc (v_yo_seen_0_7 hp) vn))))))))) fmn
def c_yo_back : XC := (130, 1, (bY ++ [((-2147483648), 2147483647)]), [.inr (.inl 0), .inl (some 13, 0)], gY2, [], [((bY ++ [((-2147483648), 2147483647), ((-3), 7), (0, 8), (0, 6), (0, 6)]), some (.inl (some 14, 0)), (hst gY2 [(0, .inr (.inr (.inr (7, [.inr (.inl 1), .inr (.inl 2), .inl (some 2, 0), .inr (.inl 3), .inr (.inl 4), .inl (some 3, 0), .inr (.inl 5), .inr (.inl 6), .inr (.inl 7), .inr (.inl 8), .inl (some 15, 0), .inr (.inl 9), .inr (.inl 10), .inl (some 16, 0), .inr (.inl 11), .inr (.inl 12), .inr (.inl 13), .inl (some 17, 0), .inr (.inl 14), .inr (.inl 15), .inr (.inl 16), .inl (some 8, 0), .inl (some 9, 0), .inr (.inl 17), .inr (.inl 18), .inl (some 10, 0), .inl (some 11, 0), .inr (.inl 19), .inr (.inl 20), .inr (.inl 21), .inr (.inl 22), .inr (.inl 23), .inr (.inl 24), .inr (.inl 25), .inl (some 7, 0), .inr (.inl 26), .inr (.inl 27), .inr (.inl 28), .inr (.inl 29), .inr (.inl 30), .inr (.inl 31), .inr (.inl 32), .inr (.inl 33), .inr (.inl 34), .inl (some 12, 0)]))))]), (List.range 35), 35, [(117, [(some 14, 0), (some 13, 0), (some 4, 0), (some 5, 0), (some 6, 0), (some 15, 0), (some 16, 0), (some 17, 0)], [])])])
def h_yo_back : List XH := []
def w_yo_back_0_0 : VC := ((bY ++ [((-2147483648), (-1))]), [(0, [(none, 0), (none, 0)], []), (2, [(some 13, 0), (none, 0)], [])], (117, [(none, (-2)), (some 13, 0), (some 4, 0), (some 5, 0), (some 6, 0), (some 4, 0), (some 5, 0), (some 6, 0)], []))
theorem pe117_7 {PT : PTy} (hp : HP7 PT) : PT 117 = P_baA := hp.1.2.2.2.2.2.2.2.2.2.2.2.1
set_option maxRecDepth 20000 in
theorem v_yo_back_0_0 {PT : PTy} (hp : HP7 PT) : vcOk PT w_yo_back_0_0 := vc_iv [(4, 0, 8), (5, 0, 6), (6, 0, 6), (13, (-2147483648), (-1))] [] (by decide +kernel) (fun ρ α => by
  intro r4 g4 b4 r5 g5 b5 r6 g6 b6 r13 g13 b13 f0 f1 tt
  clear f0 f1
  have e117 : PT 117 = P_baA := pe117_7 hp
  simp only [hFp_117, e117, P_baA, den_s, den_c, Int.add_zero, List.map_cons, List.map_nil, g4.eq, g5.eq, g6.eq, g13.eq] at ⊢
  ((repeat' (first | apply And.intro | intro h)) <;> first | omega | rfl | trivial | (exfalso; omega)))
def w_yo_back_0_1 : VC := ((bY ++ [(3, 2147483647)]), [(0, [(none, 0), (none, 0)], []), (2, [(none, 2), (some 13, 0)], []), (3, [(some 13, 0), (none, 0)], [])], (117, [(none, (-2)), (some 13, 0), (some 4, 0), (some 5, 0), (some 6, 0), (some 4, 0), (some 5, 0), (some 6, 0)], []))
set_option maxRecDepth 20000 in
theorem v_yo_back_0_1 {PT : PTy} (hp : HP7 PT) : vcOk PT w_yo_back_0_1 := vc_iv [(4, 0, 8), (5, 0, 6), (6, 0, 6), (13, 3, 2147483647)] [] (by decide +kernel) (fun ρ α => by
  intro r4 g4 b4 r5 g5 b5 r6 g6 b6 r13 g13 b13 f0 f1 f2 tt
  clear f0 f1 f2
  have e117 : PT 117 = P_baA := pe117_7 hp
  simp only [hFp_117, e117, P_baA, den_s, den_c, Int.add_zero, List.map_cons, List.map_nil, g4.eq, g5.eq, g6.eq, g13.eq] at ⊢
  ((repeat' (first | apply And.intro | intro h)) <;> first | omega | rfl | trivial | (exfalso; omega)))
def w_yo_back_0_2 : VC := (([(0, 23), (0, 49), (0, 8), (0, 10), (0, 8), (0, 6), (1, 6), (0, 8), (0, 11), (0, 9), ((-2147483648), 2147483647), ((-2147483648), 2147483647), (0, 5), (2, 2)]), [(0, [(some 13, 0), (none, 2)], []), (1, [(some 13, 0), (none, 1)], []), (1, [(some 13, 0), (none, 0)], []), (1, [(some 6, 0), (none, 0)], []), (1, [(some 13, 0), (none, 1)], []), (1, [(some 13, 0), (none, 0)], []), (1, [(none, 1), (none, 0)], []), (3, [(none, 2), (some 13, 0)], []), (3, [(some 13, 0), (none, 0)], [])], (117, [(some 6, (-1)), (some 13, 0), (some 4, 0), (some 5, 0), (some 6, 0), (some 4, 0), (some 5, 0), (some 6, (-1))], []))
set_option maxRecDepth 20000 in
theorem v_yo_back_0_2 {PT : PTy} (hp : HP7 PT) : vcOk PT w_yo_back_0_2 := vc_iv [(4, 0, 8), (5, 0, 6), (6, 1, 6), (13, 2, 2)] [] (by decide +kernel) (fun ρ α => by
  intro r4 g4 b4 r5 g5 b5 r6 g6 b6 r13 g13 b13 f0 f1 f2 f3 f4 f5 f6 f7 f8 tt
  clear f1 f2 f3 f4 f5 f6 f7 f8
  have e117 : PT 117 = P_baA := pe117_7 hp
  simp only [hF0, hFp_117, e117, P_baA, den_s, den_c, Int.add_zero, List.map_cons, List.map_nil, g4.eq, g5.eq, g6.eq, g13.eq] at f0 ⊢
  ((repeat' (first | apply And.intro | intro h)) <;> first | omega | rfl | trivial | (exfalso; omega)))
def w_yo_back_0_3 : VC := (([(0, 23), (0, 49), (0, 8), (0, 10), (0, 8), (0, 6), (0, 0), (0, 8), (0, 11), (0, 9), ((-2147483648), 2147483647), ((-2147483648), 2147483647), (0, 5), (2, 2)]), [(0, [(some 6, 0), (none, 0)], []), (1, [(some 13, 0), (none, 1)], []), (1, [(some 13, 0), (none, 0)], []), (1, [(none, 1), (none, 0)], []), (3, [(none, 2), (some 13, 0)], []), (3, [(some 13, 0), (none, 0)], [])], (117, [(none, (-3)), (some 13, 0), (some 4, 0), (some 5, 0), (some 6, 0), (some 4, 0), (some 5, 0), (some 6, 0)], []))
set_option maxRecDepth 20000 in
theorem v_yo_back_0_3 {PT : PTy} (hp : HP7 PT) : vcOk PT w_yo_back_0_3 := vc_iv [(4, 0, 8), (5, 0, 6), (6, 0, 0), (13, 2, 2)] [] (by decide +kernel) (fun ρ α => by
  intro r4 g4 b4 r5 g5 b5 r6 g6 b6 r13 g13 b13 f0 f1 f2 f3 f4 f5 tt
  clear f1 f2 f3 f4 f5
  have e117 : PT 117 = P_baA := pe117_7 hp
  simp only [hF0, hFp_117, e117, P_baA, den_s, den_c, Int.add_zero, List.map_cons, List.map_nil, g4.eq, g5.eq, g6.eq, g13.eq] at f0 ⊢
  ((repeat' (first | apply And.intro | intro h)) <;> first | omega | rfl | trivial | (exfalso; omega)))
def w_yo_back_0_4 : VC := (([(0, 23), (0, 49), (0, 8), (0, 10), (0, 8), (1, 6), (0, 6), (0, 8), (0, 11), (0, 9), ((-2147483648), 2147483647), ((-2147483648), 2147483647), (0, 5), (1, 1)]), [(1, [(some 13, 0), (none, 2)], []), (0, [(some 13, 0), (none, 1)], []), (1, [(some 13, 0), (none, 0)], []), (1, [(some 5, 0), (none, 0)], []), (0, [(some 13, 0), (none, 1)], []), (1, [(some 13, 0), (none, 0)], []), (1, [(none, 1), (none, 0)], []), (3, [(none, 2), (some 13, 0)], []), (3, [(some 13, 0), (none, 0)], [])], (117, [(some 5, (-1)), (some 13, 0), (some 4, 0), (some 5, 0), (some 6, 0), (some 4, 0), (some 5, (-1)), (some 6, 0)], []))
set_option maxRecDepth 20000 in
theorem v_yo_back_0_4 {PT : PTy} (hp : HP7 PT) : vcOk PT w_yo_back_0_4 := vc_iv [(4, 0, 8), (5, 1, 6), (6, 0, 6), (13, 1, 1)] [] (by decide +kernel) (fun ρ α => by
  intro r4 g4 b4 r5 g5 b5 r6 g6 b6 r13 g13 b13 f0 f1 f2 f3 f4 f5 f6 f7 f8 tt
  clear f0 f2 f3 f4 f5 f6 f7 f8
  have e117 : PT 117 = P_baA := pe117_7 hp
  simp only [hF0, hFp_117, e117, P_baA, den_s, den_c, Int.add_zero, List.map_cons, List.map_nil, g4.eq, g5.eq, g6.eq, g13.eq] at f1 ⊢
  ((repeat' (first | apply And.intro | intro h)) <;> first | omega | rfl | trivial | (exfalso; omega)))
def w_yo_back_0_5 : VC := (([(0, 23), (0, 49), (0, 8), (0, 10), (0, 8), (0, 0), (0, 6), (0, 8), (0, 11), (0, 9), ((-2147483648), 2147483647), ((-2147483648), 2147483647), (0, 5), (1, 1)]), [(0, [(some 5, 0), (none, 0)], []), (0, [(some 13, 0), (none, 1)], []), (1, [(some 13, 0), (none, 0)], []), (1, [(none, 1), (none, 0)], []), (3, [(none, 2), (some 13, 0)], []), (3, [(some 13, 0), (none, 0)], [])], (117, [(none, (-3)), (some 13, 0), (some 4, 0), (some 5, 0), (some 6, 0), (some 4, 0), (some 5, 0), (some 6, 0)], []))
set_option maxRecDepth 20000 in
theorem v_yo_back_0_5 {PT : PTy} (hp : HP7 PT) : vcOk PT w_yo_back_0_5 := vc_iv [(4, 0, 8), (5, 0, 0), (6, 0, 6), (13, 1, 1)] [] (by decide +kernel) (fun ρ α => by
  intro r4 g4 b4 r5 g5 b5 r6 g6 b6 r13 g13 b13 f0 f1 f2 f3 f4 f5 tt
  clear f2 f3 f4 f5
  have e117 : PT 117 = P_baA := pe117_7 hp
  simp only [hF0, hFp_117, e117, P_baA, den_s, den_c, Int.add_zero, List.map_cons, List.map_nil, g4.eq, g5.eq, g6.eq, g13.eq] at f0 f1 ⊢
  ((repeat' (first | apply And.intro | intro h)) <;> first | omega | rfl | trivial | (exfalso; omega)))
def w_yo_back_0_6 : VC := (([(0, 23), (0, 49), (0, 8), (0, 10), (1, 8), (0, 6), (0, 6), (0, 8), (0, 11), (0, 9), ((-2147483648), 2147483647), ((-2147483648), 2147483647), (0, 5), (0, 0)]), [(1, [(some 13, 0), (none, 2)], []), (1, [(some 13, 0), (none, 1)], []), (0, [(some 13, 0), (none, 0)], []), (1, [(some 4, 0), (none, 0)], []), (0, [(some 13, 0), (none, 0)], []), (1, [(none, 1), (none, 0)], []), (3, [(none, 2), (some 13, 0)], []), (3, [(some 13, 0), (none, 0)], [])], (117, [(some 4, (-1)), (some 13, 0), (some 4, 0), (some 5, 0), (some 6, 0), (some 4, (-1)), (some 5, 0), (some 6, 0)], []))
set_option maxRecDepth 20000 in
theorem v_yo_back_0_6 {PT : PTy} (hp : HP7 PT) : vcOk PT w_yo_back_0_6 := vc_iv [(4, 1, 8), (5, 0, 6), (6, 0, 6), (13, 0, 0)] [] (by decide +kernel) (fun ρ α => by
  intro r4 g4 b4 r5 g5 b5 r6 g6 b6 r13 g13 b13 f0 f1 f2 f3 f4 f5 f6 f7 tt
  clear f0 f1 f3 f4 f5 f6 f7
  have e117 : PT 117 = P_baA := pe117_7 hp
  simp only [hF0, hFp_117, e117, P_baA, den_s, den_c, Int.add_zero, List.map_cons, List.map_nil, g4.eq, g5.eq, g6.eq, g13.eq] at f2 ⊢
  ((repeat' (first | apply And.intro | intro h)) <;> first | omega | rfl | trivial | (exfalso; omega)))
def w_yo_back_0_7 : VC := (([(0, 23), (0, 49), (0, 8), (0, 10), (0, 0), (0, 6), (0, 6), (0, 8), (0, 11), (0, 9), ((-2147483648), 2147483647), ((-2147483648), 2147483647), (0, 5), (0, 0)]), [(0, [(some 4, 0), (none, 0)], []), (0, [(some 13, 0), (none, 0)], []), (1, [(none, 1), (none, 0)], []), (3, [(none, 2), (some 13, 0)], []), (3, [(some 13, 0), (none, 0)], [])], (117, [(none, (-3)), (some 13, 0), (some 4, 0), (some 5, 0), (some 6, 0), (some 4, 0), (some 5, 0), (some 6, 0)], []))
set_option maxRecDepth 20000 in
theorem v_yo_back_0_7 {PT : PTy} (hp : HP7 PT) : vcOk PT w_yo_back_0_7 := vc_iv [(4, 0, 0), (5, 0, 6), (6, 0, 6), (13, 0, 0)] [] (by decide +kernel) (fun ρ α => by
  intro r4 g4 b4 r5 g5 b5 r6 g6 b6 r13 g13 b13 f0 f1 f2 f3 f4 tt
  clear f2 f3 f4
  have e117 : PT 117 = P_baA := pe117_7 hp
  simp only [hF0, hFp_117, e117, P_baA, den_s, den_c, Int.add_zero, List.map_cons, List.map_nil, g4.eq, g5.eq, g6.eq, g13.eq] at f0 f1 ⊢
  ((repeat' (first | apply And.intro | intro h)) <;> first | omega | rfl | trivial | (exfalso; omega)))
set_option maxRecDepth 1000000 in
theorem k_yo_back {PT : PTy} (hp : HP7 PT) : wfX c_yo_back = true ∧ xcOk PT c_yo_back := xctr (xl0) c_yo_back 76 mX7_back rfl h_yo_back (by decide +kernel) (by decide +kernel) (by decide) (vcs_by [w_yo_back_0_0, w_yo_back_0_1, w_yo_back_0_2, w_yo_back_0_3, w_yo_back_0_4, w_yo_back_0_5, w_yo_back_0_6, w_yo_back_0_7] (by decide +kernel) (vc (v_yo_back_0_0 hp) (vc (v_yo_back_0_1 hp) (vc (v_yo_back_0_2 hp) (vc (v_yo_back_0_3 hp) (vc (v_yo_back_0_4 hp) (vc (v_yo_back_0_5 hp) (vc (v_yo_back_0_6 hp) (vc (v_yo_back_0_7 hp) vn))))))))) fmn
def c_yo_forget : XC := (171, 0, (bY), [.inr (.inl 0)], gY2, [], [((bY ++ [(0, 8)]), some (.inl (some 7, 0)), (hst gY2 [(0, .inr (.inr (.inr (7, [.inr (.inl 1), .inr (.inl 2), .inl (some 2, 0), .inr (.inl 3), .inr (.inl 4), .inl (some 3, 0), .inr (.inl 5), .inr (.inl 6), .inr (.inl 7), .inr (.inl 8), .inl (some 4, 0), .inr (.inl 9), .inr (.inl 10), .inl (some 5, 0), .inr (.inl 11), .inr (.inl 12), .inr (.inl 13), .inl (some 6, 0), .inr (.inl 14), .inr (.inl 15), .inr (.inl 16), .inl (some 8, 0), .inl (some 9, 0), .inr (.inl 17), .inr (.inl 18), .inl (some 10, 0), .inl (some 11, 0), .inr (.inl 19), .inr (.inl 20), .inr (.inl 21), .inr (.inl 22), .inr (.inl 23), .inr (.inl 24), .inr (.inl 25), .inl (some 13, 0), .inr (.inl 26), .inr (.inl 27), .inr (.inl 28), .inr (.inl 29), .inr (.inl 30), .inr (.inl 31), .inr (.inl 32), .inr (.inl 33), .inr (.inl 34), .inl (some 12, 0)]))))]), (List.range 35), 35, [(118, [(some 7, 0), (some 7, 0), (some 13, 0)], [])])])
def h_yo_forget : List XH := []
def w_yo_forget_0_0 : VC := ((bY), [], (118, [(some 7, 0), (some 7, 0), (none, 0)], []))
theorem pe118_7 {PT : PTy} (hp : HP7 PT) : PT 118 = P_foA := hp.1.2.2.2.2.2.2.2.2.2.2.2.2.1
set_option maxRecDepth 20000 in
theorem v_yo_forget_0_0 {PT : PTy} (hp : HP7 PT) : vcOk PT w_yo_forget_0_0 := vc_iv [(7, 0, 8)] [] (by decide +kernel) (fun ρ α => by
  intro r7 g7 b7 tt
  have e118 : PT 118 = P_foA := pe118_7 hp
  simp only [hFp_118, e118, P_foA, den_s, den_c, Int.add_zero, List.map_cons, List.map_nil, g7.eq] at ⊢
  ((repeat' (first | apply And.intro | intro h)) <;> first | omega | rfl | trivial | (exfalso; omega)))
set_option maxRecDepth 1000000 in
theorem k_yo_forget {PT : PTy} (hp : HP7 PT) : wfX c_yo_forget = true ∧ xcOk PT c_yo_forget := xctr (xl0) c_yo_forget 28 mX7_forget rfl h_yo_forget (by decide +kernel) (by decide +kernel) (by decide) (vcs_by [w_yo_forget_0_0] (by decide +kernel) (vc (v_yo_forget_0_0 hp) vn)) fmn
