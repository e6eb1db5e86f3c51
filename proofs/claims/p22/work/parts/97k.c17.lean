/-! ===== plans; printed by wip/gen/x ===== -/
def P_bu2 (l : List Int) (a : List (Int → Int)) : Prop := match l, a with
  | [k], [A, B] => ∀ i, ¬ i = k → A i = B i
  | _, _ => False
theorem hFp_188 {PT : PTy} {ρ : Nat → Int} {α : Nat → Int → Int} (l : List AN) (a : List Nat) : hF PT ρ α (188, l, a) = PT 188 (l.map (den ρ)) (a.map α) := rfl
def P_duI (l : List Int) (a : List (Int → Int)) : Prop := match l, a with
  | [i, x, v, p, n, m, nk, nl, nt], [so, sz, wh, gr, md, du, kd, ko, ld, lw, lm, td, tw, tm] => obM (dueQ p n m nk nl nt so sz wh gr md du kd ko ld lw lm td tw tm) i x v 11
  | _, _ => False
theorem hFp_189 {PT : PTy} {ρ : Nat → Int} {α : Nat → Int → Int} (l : List AN) (a : List Nat) : hF PT ρ α (189, l, a) = PT 189 (l.map (den ρ)) (a.map α) := rfl
def P_odX (l : List Int) (a : List (Int → Int)) : Prop := match l, a with
  | [r, p, w, n, m, nk, nl, nt], [so, sz, wh, gr, md, du, kd, ko, ld, lw, lm, td, tw, tm] => (¬ (0 ≤ p ∧ p < m ∧ 0 ≤ w ∧ w ≤ 1) → r = -2) ∧ (0 ≤ p ∧ p < m ∧ 0 ≤ w ∧ w ≤ 1 → ∃ x v, obM (dueQ p n m nk nl nt so sz wh gr md du kd ko ld lw lm td tw tm) 24 x v 11 ∧ (w = 0 → r = x) ∧ (w = 1 → r = v))
  | _, _ => False
theorem hFp_190 {PT : PTy} {ρ : Nat → Int} {α : Nat → Int → Int} (l : List AN) (a : List Nat) : hF PT ρ α (190, l, a) = PT 190 (l.map (den ρ)) (a.map α) := rfl
def P_dyI (l : List Int) (a : List (Int → Int)) : Prop := match l, a with
  | [i, x, v, p, t, n, m, nk, nl, nt], [L, T, so, sz, wh, gr, md, D8, KD, KO, ld, lw, lm, td, tw, tm] => ∃ a b du, rdP a n (L 0) T so sz ∧ rdV b m (L 1) (sh T) wh gr md du ∧ (∀ q, ¬ q = p → D8 q = du q) ∧ t = du p ∧ obM (dueY p n m nk nl nt so sz wh gr md du KD KO ld lw lm td tw tm) i x v 999
  | _, _ => False
theorem hFp_191 {PT : PTy} {ρ : Nat → Int} {α : Nat → Int → Int} (l : List AN) (a : List Nat) : hF PT ρ α (191, l, a) = PT 191 (l.map (den ρ)) (a.map α) := rfl
def P_dyP (l : List Int) (a : List (Int → Int)) : Prop := match l, a with
  | [r, p, w, n, m, nk, nl, nt], [L, T, so, sz, wh, gr, md, du, KD, KO, kd, ko, ld, lw, lm, td, tw, tm] => toY n m nk L T so sz wh gr md du KD KO kd ko ∧ ∃ x v, obM (dueY p n m nk nl nt so sz wh gr md du KD KO ld lw lm td tw tm) 24 x v 999 ∧ (w = 0 → r = x) ∧ (w = 1 → r = v)
  | _, _ => False
theorem hFp_192 {PT : PTy} {ρ : Nat → Int} {α : Nat → Int → Int} (l : List AN) (a : List Nat) : hF PT ρ α (192, l, a) = PT 192 (l.map (den ρ)) (a.map α) := rfl
def P_odY (l : List Int) (a : List (Int → Int)) : Prop := match l, a with
  | [r, p, w, n, m, nk, nl, nt], [L, T, so, sz, wh, gr, md, du, KD, KO, kd, ko, ld, lw, lm, td, tw, tm] => ∃ n0, nV n0 (L 1) (sh T) ∧ (¬ (0 ≤ p ∧ p < n0 ∧ 0 ≤ w ∧ w ≤ 1) → r = -2) ∧ (0 ≤ p ∧ p < n0 ∧ 0 ≤ w ∧ w ≤ 1 → m = n0 ∧ toY n m nk L T so sz wh gr md du KD KO kd ko ∧ ∃ x v, obM (dueY p n m nk nl nt so sz wh gr md du KD KO ld lw lm td tw tm) 24 x v 999 ∧ (w = 0 → r = x) ∧ (w = 1 → r = v))
  | _, _ => False
theorem hFp_193 {PT : PTy} {ρ : Nat → Int} {α : Nat → Int → Int} (l : List AN) (a : List Nat) : hF PT ρ α (193, l, a) = PT 193 (l.map (den ρ)) (a.map α) := rfl
def HP14 (PT : PTy) : Prop := HP13 PT ∧ (PT 188 = P_bu2 ∧ PT 189 = P_duI ∧ PT 190 = P_odX ∧ PT 191 = P_dyI ∧ PT 192 = P_dyP ∧ PT 193 = P_odY ∧ True)
def c_xo_due : XC := (63, 4, (bT ++ [((-2147483648), 2147483647), ((-2147483648), 2147483647)]), [.inr (.inl 0), .inl (some 14, 0), .inl (some 15, 0)], (gX 999), [], [((bT ++ [((-2147483648), 2147483647), ((-2147483648), 2147483647), ((-2147483648), 2147483647), (0, 49), (0, 49), ((-2147483648), 2147483647), ((-2147483648), 2147483647)]), some (.inl (some 16, 0)), (hst (gX 999) [(5, .inr (.inr (.inr (0, [.inr (.inl 6), .inr (.inl 9), .inr (.inl 14), .inr (.inl 18), .inr (.inl 22), .inr (.inl 26), .inr (.inl 27), .inr (.inl 28), .inr (.inl 29), .inr (.inl 30), .inl (some 17, 0), .inl (some 18, 0), .inl (some 19, 0), .inl (some 20, 0), .inr (.inl 999)]))))]), (ansT 58 [(13, 58), (26, 59), (27, 60), (28, 61), (29, 62), (30, 63)]), 64, [(190, [(some 16, 0), (some 14, 0), (some 15, 0), (some 2, 0), (some 3, 0), (some 4, 0), (some 5, 0), (some 6, 0)], [7, 8, 10, 11, 12, 13, 15, 16, 19, 20, 21, 23, 24, 25]), (27, [], [58, 13])])])
def h_xo_due : List XH := [(42, ([(0, 23), (0, 49), (0, 8), (1, 10), (0, 8), (0, 6), (0, 6), (0, 8), (0, 9), (0, 49), (0, 49), ((-2147483648), 2147483647), ((-2147483648), 2147483647), (0, 5), (0, 9), (0, 1), ((-1), 23), ((-1), 23), ((-2147483648), 2147483647), (0, 24), (0, 49), (0, 49), ((-2147483648), 2147483647), ((-2147483648), 2147483647)]), [some (.inr (.inl 0)), some (.inl (some 14, 0)), some (.inl (some 15, 0)), some (.inl (some 16, 0)), some (.inl (some 17, 0)), some (.inl (some 18, 0)), some (.inl (some 19, 0))], (hst (gX 999) [(5, .inr (.inr (.inr (0, [.inr (.inl 6), .inr (.inl 9), .inr (.inl 14), .inr (.inl 18), .inr (.inl 22), .inr (.inl 26), .inr (.inl 27), .inr (.inl 28), .inr (.inl 29), .inr (.inl 30), .inl (some 20, 0), .inl (some 21, 0), .inl (some 22, 0), .inl (some 23, 0), .inr (.inl 999)]))))]), (ansT 58 [(13, 58), (26, 59), (27, 60), (28, 61), (29, 62), (30, 63)]), 64, [(188, [(some 14, 0)], [58, 13]), (20, [(some 16, 0), (some 14, 0)], [13]), (189, [(some 19, 0), (some 17, 0), (some 18, 0), (some 14, 0), (some 2, 0), (some 3, 0), (some 4, 0), (some 5, 0), (some 6, 0)], [7, 8, 10, 11, 12, 13, 15, 16, 19, 20, 21, 23, 24, 25]), (3, [(none, 24), (some 19, 0)], []), (3, [(some 14, 0), (none, 0)], []), (2, [(some 14, 0), (some 3, 0)], []), (3, [(some 15, 0), (none, 0)], []), (3, [(none, 1), (some 15, 0)], [])], [(true, (none, 1)), (true, (some 19, 0))])]
def w_xo_due_0_0 : VC := ((bT ++ [((-2147483648), (-1)), ((-2147483648), 2147483647)]), [(0, [(none, 0), (none, 0)], []), (2, [(some 14, 0), (none, 0)], [])], (190, [(none, (-2)), (some 14, 0), (some 15, 0), (some 2, 0), (some 3, 0), (some 4, 0), (some 5, 0), (some 6, 0)], [7, 8, 10, 11, 12, 13, 15, 16, 19, 20, 21, 23, 24, 25]))
theorem pe190_14 {PT : PTy} (hp : HP14 PT) : PT 190 = P_odX := hp.2.2.2.1
set_option maxRecDepth 20000 in
theorem v_xo_due_0_0 {PT : PTy} (hp : HP14 PT) : vcOk PT w_xo_due_0_0 := vc_iv [(2, 0, 8), (3, 0, 10), (4, 0, 8), (5, 0, 6), (6, 0, 6), (14, (-2147483648), (-1)), (15, (-2147483648), 2147483647)] [7, 8, 10, 11, 12, 13, 15, 16, 19, 20, 21, 23, 24, 25] (by decide +kernel) (fun ρ α => by
  intro r2 g2 b2 r3 g3 b3 r4 g4 b4 r5 g5 b5 r6 g6 b6 r14 g14 b14 r15 g15 b15 a7 h7 a8 h8 a10 h10 a11 h11 a12 h12 a13 h13 a15 h15 a16 h16 a19 h19 a20 h20 a21 h21 a23 h23 a24 h24 a25 h25 f0 f1 tt
  clear f0 f1
  have e190 : PT 190 = P_odX := pe190_14 hp
  simp only [hFp_190, e190, P_odX, den_s, den_c, Int.add_zero, List.map_cons, List.map_nil, g2.eq, g3.eq, g4.eq, g5.eq, g6.eq, g14.eq, g15.eq, h7, h8, h10, h11, h12, h13, h15, h16, h19, h20, h21, h23, h24, h25] at ⊢
  ((repeat' (first | apply And.intro | intro h)) <;> first | omega | rfl | trivial | (exfalso; omega)))
def w_xo_due_0_1 : VC := ((bT ++ [((-2147483648), (-1)), ((-2147483648), 2147483647)]), [(0, [(none, 0), (none, 0)], []), (2, [(some 14, 0), (none, 0)], [])], (27, [], [13, 13]))
theorem v_xo_due_0_1 {PT : PTy} (_ : HP14 PT) : vcOk PT w_xo_due_0_1 := vc_of (fun ρ α _ _ => rfl)
def w_xo_due_0_2 : VC := ((bT ++ [(0, 2147483647), ((-2147483648), 2147483647)]), [(0, [(none, 0), (none, 0)], []), (3, [(some 14, 0), (some 3, 0)], []), (3, [(some 14, 0), (none, 0)], [])], (190, [(none, (-2)), (some 14, 0), (some 15, 0), (some 2, 0), (some 3, 0), (some 4, 0), (some 5, 0), (some 6, 0)], [7, 8, 10, 11, 12, 13, 15, 16, 19, 20, 21, 23, 24, 25]))
set_option maxRecDepth 20000 in
theorem v_xo_due_0_2 {PT : PTy} (hp : HP14 PT) : vcOk PT w_xo_due_0_2 := vc_iv [(2, 0, 8), (3, 0, 10), (4, 0, 8), (5, 0, 6), (6, 0, 6), (14, 0, 2147483647), (15, (-2147483648), 2147483647)] [7, 8, 10, 11, 12, 13, 15, 16, 19, 20, 21, 23, 24, 25] (by decide +kernel) (fun ρ α => by
  intro r2 g2 b2 r3 g3 b3 r4 g4 b4 r5 g5 b5 r6 g6 b6 r14 g14 b14 r15 g15 b15 a7 h7 a8 h8 a10 h10 a11 h11 a12 h12 a13 h13 a15 h15 a16 h16 a19 h19 a20 h20 a21 h21 a23 h23 a24 h24 a25 h25 f0 f1 f2 tt
  clear f0 f2
  have e190 : PT 190 = P_odX := pe190_14 hp
  simp only [hF3, hFp_190, e190, P_odX, den_s, den_c, Int.add_zero, List.map_cons, List.map_nil, g2.eq, g3.eq, g4.eq, g5.eq, g6.eq, g14.eq, g15.eq, h7, h8, h10, h11, h12, h13, h15, h16, h19, h20, h21, h23, h24, h25] at f1 ⊢
  ((repeat' (first | apply And.intro | intro h)) <;> first | omega | rfl | trivial | (exfalso; omega)))
def w_xo_due_0_3 : VC := ((bT ++ [(0, 2147483647), ((-2147483648), 2147483647)]), [(0, [(none, 0), (none, 0)], []), (3, [(some 14, 0), (some 3, 0)], []), (3, [(some 14, 0), (none, 0)], [])], (27, [], [13, 13]))
theorem v_xo_due_0_3 {PT : PTy} (_ : HP14 PT) : vcOk PT w_xo_due_0_3 := vc_of (fun ρ α _ _ => rfl)
def w_xo_due_0_4 : VC := (([(0, 23), (0, 49), (0, 8), (1, 10), (0, 8), (0, 6), (0, 6), (0, 8), (0, 9), (0, 49), (0, 49), ((-2147483648), 2147483647), ((-2147483648), 2147483647), (0, 5), (0, 9), ((-2147483648), (-1))]), [(0, [(none, 0), (none, 0)], []), (2, [(some 15, 0), (none, 0)], []), (1, [(none, 1), (none, 0)], []), (2, [(some 14, 0), (some 3, 0)], []), (3, [(some 14, 0), (none, 0)], [])], (190, [(none, (-2)), (some 14, 0), (some 15, 0), (some 2, 0), (some 3, 0), (some 4, 0), (some 5, 0), (some 6, 0)], [7, 8, 10, 11, 12, 13, 15, 16, 19, 20, 21, 23, 24, 25]))
set_option maxRecDepth 20000 in
theorem v_xo_due_0_4 {PT : PTy} (hp : HP14 PT) : vcOk PT w_xo_due_0_4 := vc_iv [(2, 0, 8), (3, 1, 10), (4, 0, 8), (5, 0, 6), (6, 0, 6), (14, 0, 9), (15, (-2147483648), (-1))] [7, 8, 10, 11, 12, 13, 15, 16, 19, 20, 21, 23, 24, 25] (by decide +kernel) (fun ρ α => by
  intro r2 g2 b2 r3 g3 b3 r4 g4 b4 r5 g5 b5 r6 g6 b6 r14 g14 b14 r15 g15 b15 a7 h7 a8 h8 a10 h10 a11 h11 a12 h12 a13 h13 a15 h15 a16 h16 a19 h19 a20 h20 a21 h21 a23 h23 a24 h24 a25 h25 f0 f1 f2 f3 f4 tt
  clear f0 f1 f2 f4
  have e190 : PT 190 = P_odX := pe190_14 hp
  simp only [hF2, hFp_190, e190, P_odX, den_s, den_c, Int.add_zero, List.map_cons, List.map_nil, g2.eq, g3.eq, g4.eq, g5.eq, g6.eq, g14.eq, g15.eq, h7, h8, h10, h11, h12, h13, h15, h16, h19, h20, h21, h23, h24, h25] at f3 ⊢
  ((repeat' (first | apply And.intro | intro h)) <;> first | omega | rfl | trivial | (exfalso; omega)))
def w_xo_due_0_5 : VC := (([(0, 23), (0, 49), (0, 8), (1, 10), (0, 8), (0, 6), (0, 6), (0, 8), (0, 9), (0, 49), (0, 49), ((-2147483648), 2147483647), ((-2147483648), 2147483647), (0, 5), (0, 9), ((-2147483648), (-1))]), [(0, [(none, 0), (none, 0)], []), (2, [(some 15, 0), (none, 0)], []), (1, [(none, 1), (none, 0)], []), (2, [(some 14, 0), (some 3, 0)], []), (3, [(some 14, 0), (none, 0)], [])], (27, [], [13, 13]))
theorem v_xo_due_0_5 {PT : PTy} (_ : HP14 PT) : vcOk PT w_xo_due_0_5 := vc_of (fun ρ α _ _ => rfl)
def w_xo_due_0_6 : VC := (([(0, 23), (0, 49), (0, 8), (1, 10), (0, 8), (0, 6), (0, 6), (0, 8), (0, 9), (0, 49), (0, 49), ((-2147483648), 2147483647), ((-2147483648), 2147483647), (0, 5), (0, 9), (2, 2147483647)]), [(0, [(none, 0), (none, 0)], []), (2, [(none, 1), (some 15, 0)], []), (3, [(some 15, 0), (none, 0)], []), (1, [(none, 1), (none, 0)], []), (2, [(some 14, 0), (some 3, 0)], []), (3, [(some 14, 0), (none, 0)], [])], (190, [(none, (-2)), (some 14, 0), (some 15, 0), (some 2, 0), (some 3, 0), (some 4, 0), (some 5, 0), (some 6, 0)], [7, 8, 10, 11, 12, 13, 15, 16, 19, 20, 21, 23, 24, 25]))
set_option maxRecDepth 20000 in
theorem v_xo_due_0_6 {PT : PTy} (hp : HP14 PT) : vcOk PT w_xo_due_0_6 := vc_iv [(2, 0, 8), (3, 1, 10), (4, 0, 8), (5, 0, 6), (6, 0, 6), (14, 0, 9), (15, 2, 2147483647)] [7, 8, 10, 11, 12, 13, 15, 16, 19, 20, 21, 23, 24, 25] (by decide +kernel) (fun ρ α => by
  intro r2 g2 b2 r3 g3 b3 r4 g4 b4 r5 g5 b5 r6 g6 b6 r14 g14 b14 r15 g15 b15 a7 h7 a8 h8 a10 h10 a11 h11 a12 h12 a13 h13 a15 h15 a16 h16 a19 h19 a20 h20 a21 h21 a23 h23 a24 h24 a25 h25 f0 f1 f2 f3 f4 f5 tt
  clear f0 f1 f2 f3 f5
  have e190 : PT 190 = P_odX := pe190_14 hp
  simp only [hF2, hFp_190, e190, P_odX, den_s, den_c, Int.add_zero, List.map_cons, List.map_nil, g2.eq, g3.eq, g4.eq, g5.eq, g6.eq, g14.eq, g15.eq, h7, h8, h10, h11, h12, h13, h15, h16, h19, h20, h21, h23, h24, h25] at f4 ⊢
  ((repeat' (first | apply And.intro | intro h)) <;> first | omega | rfl | trivial | (exfalso; omega)))
def w_xo_due_0_7 : VC := (([(0, 23), (0, 49), (0, 8), (1, 10), (0, 8), (0, 6), (0, 6), (0, 8), (0, 9), (0, 49), (0, 49), ((-2147483648), 2147483647), ((-2147483648), 2147483647), (0, 5), (0, 9), (2, 2147483647)]), [(0, [(none, 0), (none, 0)], []), (2, [(none, 1), (some 15, 0)], []), (3, [(some 15, 0), (none, 0)], []), (1, [(none, 1), (none, 0)], []), (2, [(some 14, 0), (some 3, 0)], []), (3, [(some 14, 0), (none, 0)], [])], (27, [], [13, 13]))
theorem v_xo_due_0_7 {PT : PTy} (_ : HP14 PT) : vcOk PT w_xo_due_0_7 := vc_of (fun ρ α _ _ => rfl)
def w_xo_due_0_8 : VC := (([(0, 23), (0, 49), (0, 8), (1, 10), (0, 8), (0, 6), (0, 6), (0, 8), (0, 9), (0, 49), (0, 49), ((-2147483648), 2147483647), ((-2147483648), 2147483647), (0, 5), (0, 9), (0, 1), ((-1), 23)]), [(20, [(some 16, 0), (some 14, 0)], [13]), (1, [(none, 1), (none, 0)], []), (3, [(none, 1), (some 15, 0)], []), (3, [(some 15, 0), (none, 0)], []), (1, [(none, 1), (none, 0)], []), (2, [(some 14, 0), (some 3, 0)], []), (3, [(some 14, 0), (none, 0)], [])], (188, [(some 14, 0)], [13, 13]))
theorem pe188_14 {PT : PTy} (hp : HP14 PT) : PT 188 = P_bu2 := hp.2.1
set_option maxRecDepth 20000 in
theorem v_xo_due_0_8 {PT : PTy} (hp : HP14 PT) : vcOk PT w_xo_due_0_8 := vc_in [(3, 1, 10), (14, 0, 9), (16, (-1), 23)] (by decide +kernel) (fun ρ α => by
  intro b3 b14 b16 f0 f1 f2 f3 f4 f5 f6 tt
  clear f1 f2 f3 f4 f6
  have e188 : PT 188 = P_bu2 := pe188_14 hp
  simp only [hF2, hF20, hFp_188, e188, P_bu2, den_s, den_c, Int.add_zero, List.map_cons, List.map_nil] at f0 f5 ⊢
  exact fun i h => (by first | rfl | trivial))
def w_xo_due_0_9 : VC := (([(0, 23), (0, 49), (0, 8), (1, 10), (0, 8), (0, 6), (0, 6), (0, 8), (0, 9), (0, 49), (0, 49), ((-2147483648), 2147483647), ((-2147483648), 2147483647), (0, 5), (0, 9), (0, 1), ((-1), 23)]), [(20, [(some 16, 0), (some 14, 0)], [13]), (1, [(none, 1), (none, 0)], []), (3, [(none, 1), (some 15, 0)], []), (3, [(some 15, 0), (none, 0)], []), (1, [(none, 1), (none, 0)], []), (2, [(some 14, 0), (some 3, 0)], []), (3, [(some 14, 0), (none, 0)], [])], (189, [(none, 0), (none, (-1)), (none, 11), (some 14, 0), (some 2, 0), (some 3, 0), (some 4, 0), (some 5, 0), (some 6, 0)], [7, 8, 10, 11, 12, 13, 15, 16, 19, 20, 21, 23, 24, 25]))
theorem pe189_14 {PT : PTy} (hp : HP14 PT) : PT 189 = P_duI := hp.2.2.1
set_option maxRecDepth 20000 in
theorem v_xo_due_0_9 {PT : PTy} (hp : HP14 PT) : vcOk PT w_xo_due_0_9 := vc_in [(2, 0, 8), (3, 1, 10), (4, 0, 8), (5, 0, 6), (6, 0, 6), (14, 0, 9), (16, (-1), 23)] (by decide +kernel) (fun ρ α => by
  intro b2 b3 b4 b5 b6 b14 b16 f0 f1 f2 f3 f4 f5 f6 tt
  clear f1 f2 f3 f4 f6
  have e189 : PT 189 = P_duI := pe189_14 hp
  simp only [hF2, hF20, hFp_189, e189, P_duI, den_s, den_c, Int.add_zero, List.map_cons, List.map_nil] at f0 f5 ⊢
  exact obM_z)
def w_xo_due_0_10 : VC := (([(0, 23), (0, 49), (0, 8), (1, 10), (0, 8), (0, 6), (0, 6), (0, 8), (0, 9), (0, 49), (0, 49), ((-2147483648), 2147483647), ((-2147483648), 2147483647), (0, 5), (0, 9), (0, 1), ((-1), 23)]), [(20, [(some 16, 0), (some 14, 0)], [13]), (1, [(none, 1), (none, 0)], []), (3, [(none, 1), (some 15, 0)], []), (3, [(some 15, 0), (none, 0)], []), (1, [(none, 1), (none, 0)], []), (2, [(some 14, 0), (some 3, 0)], []), (3, [(some 14, 0), (none, 0)], [])], (3, [(none, 24), (none, 0)], []))
theorem v_xo_due_0_10 {PT : PTy} (_ : HP14 PT) : vcOk PT w_xo_due_0_10 := vc_of (fun ρ α _ _ => by simp only [hF3, den_c] <;> omega)
def w_xo_due_1_0 : VC := (([(0, 23), (0, 49), (0, 8), (1, 10), (0, 8), (0, 6), (0, 6), (0, 8), (0, 9), (0, 49), (0, 49), ((-2147483648), 2147483647), ((-2147483648), 2147483647), (0, 5), (0, 9), (1, 1), ((-1), 23), ((-1), 23), ((-2147483648), 2147483647), (24, 24), (0, 49), (0, 49), ((-2147483648), 2147483647), ((-2147483648), 2147483647)]), [(1, [(some 15, 0), (none, 0)], []), (21, [(some 14, 0), (some 16, 0)], [64, 58]), (3, [(some 19, 0), (none, 24)], []), (188, [(some 14, 0)], [58, 13]), (20, [(some 16, 0), (some 14, 0)], [13]), (189, [(some 19, 0), (some 17, 0), (some 18, 0), (some 14, 0), (some 2, 0), (some 3, 0), (some 4, 0), (some 5, 0), (some 6, 0)], [7, 8, 10, 11, 12, 13, 15, 16, 19, 20, 21, 23, 24, 25]), (3, [(none, 24), (some 19, 0)], []), (3, [(some 14, 0), (none, 0)], []), (2, [(some 14, 0), (some 3, 0)], []), (3, [(some 15, 0), (none, 0)], []), (3, [(none, 1), (some 15, 0)], [])], (190, [(some 18, 0), (some 14, 0), (some 15, 0), (some 2, 0), (some 3, 0), (some 4, 0), (some 5, 0), (some 6, 0)], [7, 8, 10, 11, 12, 13, 15, 16, 19, 20, 21, 23, 24, 25]))
set_option maxRecDepth 20000 in
theorem v_xo_due_1_0 {PT : PTy} (hp : HP14 PT) : vcOk PT w_xo_due_1_0 := vc_iv [(2, 0, 8), (3, 1, 10), (4, 0, 8), (5, 0, 6), (6, 0, 6), (14, 0, 9), (15, 1, 1), (16, (-1), 23), (17, (-1), 23), (18, (-2147483648), 2147483647), (19, 24, 24)] [7, 8, 10, 11, 12, 13, 15, 16, 19, 20, 21, 23, 24, 25, 58, 64] (by decide +kernel) (fun ρ α => by
  intro r2 g2 b2 r3 g3 b3 r4 g4 b4 r5 g5 b5 r6 g6 b6 r14 g14 b14 r15 g15 b15 r16 g16 b16 r17 g17 b17 r18 g18 b18 r19 g19 b19 a7 h7 a8 h8 a10 h10 a11 h11 a12 h12 a13 h13 a15 h15 a16 h16 a19 h19 a20 h20 a21 h21 a23 h23 a24 h24 a25 h25 a58 h58 a64 h64 f0 f1 f2 f3 f4 f5 f6 f7 f8 f9 f10 tt
  clear f0 f2 f6 f7 f9 f10
  have e188 : PT 188 = P_bu2 := pe188_14 hp
  have e189 : PT 189 = P_duI := pe189_14 hp
  have e190 : PT 190 = P_odX := pe190_14 hp
  simp only [hF2, hF20, hF21, hFp_188, hFp_189, hFp_190, e188, e189, e190, P_bu2, P_duI, P_odX, den_s, den_c, Int.add_zero, List.map_cons, List.map_nil, g2.eq, g3.eq, g4.eq, g5.eq, g6.eq, g14.eq, g15.eq, g16.eq, g17.eq, g18.eq, g19.eq, h7, h8, h10, h11, h12, h13, h15, h16, h19, h20, h21, h23, h24, h25, h58, h64] at f1 f3 f4 f5 f8 ⊢
  subst f1
  subst f4
  have hh := f5
  rw [show r19 = 24 by omega] at hh
  refine ⟨fun h => by exfalso; omega, fun h => ⟨_, _, hh, ?_, ?_⟩⟩
  all_goals (intro q; first | rfl | (exfalso; omega)))
def w_xo_due_1_1 : VC := (([(0, 23), (0, 49), (0, 8), (1, 10), (0, 8), (0, 6), (0, 6), (0, 8), (0, 9), (0, 49), (0, 49), ((-2147483648), 2147483647), ((-2147483648), 2147483647), (0, 5), (0, 9), (1, 1), ((-1), 23), ((-1), 23), ((-2147483648), 2147483647), (24, 24), (0, 49), (0, 49), ((-2147483648), 2147483647), ((-2147483648), 2147483647)]), [(1, [(some 15, 0), (none, 0)], []), (21, [(some 14, 0), (some 16, 0)], [64, 58]), (3, [(some 19, 0), (none, 24)], []), (188, [(some 14, 0)], [58, 13]), (20, [(some 16, 0), (some 14, 0)], [13]), (189, [(some 19, 0), (some 17, 0), (some 18, 0), (some 14, 0), (some 2, 0), (some 3, 0), (some 4, 0), (some 5, 0), (some 6, 0)], [7, 8, 10, 11, 12, 13, 15, 16, 19, 20, 21, 23, 24, 25]), (3, [(none, 24), (some 19, 0)], []), (3, [(some 14, 0), (none, 0)], []), (2, [(some 14, 0), (some 3, 0)], []), (3, [(some 15, 0), (none, 0)], []), (3, [(none, 1), (some 15, 0)], [])], (27, [], [64, 13]))
set_option maxRecDepth 20000 in
theorem v_xo_due_1_1 {PT : PTy} (hp : HP14 PT) : vcOk PT w_xo_due_1_1 := vc_iv [(2, 0, 8), (3, 1, 10), (4, 0, 8), (5, 0, 6), (6, 0, 6), (14, 0, 9), (16, (-1), 23), (17, (-1), 23), (18, (-2147483648), 2147483647), (19, 24, 24)] [7, 8, 10, 11, 12, 13, 15, 16, 19, 20, 21, 23, 24, 25, 58, 64] (by decide +kernel) (fun ρ α => by
  intro r2 g2 b2 r3 g3 b3 r4 g4 b4 r5 g5 b5 r6 g6 b6 r14 g14 b14 r16 g16 b16 r17 g17 b17 r18 g18 b18 r19 g19 b19 a7 h7 a8 h8 a10 h10 a11 h11 a12 h12 a13 h13 a15 h15 a16 h16 a19 h19 a20 h20 a21 h21 a23 h23 a24 h24 a25 h25 a58 h58 a64 h64 f0 f1 f2 f3 f4 f5 f6 f7 f8 f9 f10 tt
  clear f0 f2 f6 f7 f9 f10
  have e188 : PT 188 = P_bu2 := pe188_14 hp
  have e189 : PT 189 = P_duI := pe189_14 hp
  simp only [hF2, hF20, hF21, hF27, hFp_188, hFp_189, e188, e189, P_bu2, P_duI, den_s, den_c, Int.add_zero, List.map_cons, List.map_nil, g2.eq, g3.eq, g4.eq, g5.eq, g6.eq, g14.eq, g16.eq, g17.eq, g18.eq, g19.eq, h7, h8, h10, h11, h12, h13, h15, h16, h19, h20, h21, h23, h24, h25, h58, h64] at f1 f3 f4 f5 f8 ⊢
  subst f1
  subst f4
  exact upd_bk f3)
def w_xo_due_1_2 : VC := (([(0, 23), (0, 49), (0, 8), (1, 10), (0, 8), (0, 6), (0, 6), (0, 8), (0, 9), (0, 49), (0, 49), ((-2147483648), 2147483647), ((-2147483648), 2147483647), (0, 5), (0, 9), (0, 0), ((-1), 23), ((-1), 23), ((-2147483648), 2147483647), (24, 24), (0, 49), (0, 49), ((-2147483648), 2147483647), ((-2147483648), 2147483647)]), [(0, [(some 15, 0), (none, 0)], []), (21, [(some 14, 0), (some 16, 0)], [64, 58]), (3, [(some 19, 0), (none, 24)], []), (188, [(some 14, 0)], [58, 13]), (20, [(some 16, 0), (some 14, 0)], [13]), (189, [(some 19, 0), (some 17, 0), (some 18, 0), (some 14, 0), (some 2, 0), (some 3, 0), (some 4, 0), (some 5, 0), (some 6, 0)], [7, 8, 10, 11, 12, 13, 15, 16, 19, 20, 21, 23, 24, 25]), (3, [(none, 24), (some 19, 0)], []), (3, [(some 14, 0), (none, 0)], []), (2, [(some 14, 0), (some 3, 0)], []), (3, [(some 15, 0), (none, 0)], []), (3, [(none, 1), (some 15, 0)], [])], (190, [(some 17, 0), (some 14, 0), (some 15, 0), (some 2, 0), (some 3, 0), (some 4, 0), (some 5, 0), (some 6, 0)], [7, 8, 10, 11, 12, 13, 15, 16, 19, 20, 21, 23, 24, 25]))
set_option maxRecDepth 20000 in
theorem v_xo_due_1_2 {PT : PTy} (hp : HP14 PT) : vcOk PT w_xo_due_1_2 := vc_iv [(2, 0, 8), (3, 1, 10), (4, 0, 8), (5, 0, 6), (6, 0, 6), (14, 0, 9), (15, 0, 0), (16, (-1), 23), (17, (-1), 23), (18, (-2147483648), 2147483647), (19, 24, 24)] [7, 8, 10, 11, 12, 13, 15, 16, 19, 20, 21, 23, 24, 25, 58, 64] (by decide +kernel) (fun ρ α => by
  intro r2 g2 b2 r3 g3 b3 r4 g4 b4 r5 g5 b5 r6 g6 b6 r14 g14 b14 r15 g15 b15 r16 g16 b16 r17 g17 b17 r18 g18 b18 r19 g19 b19 a7 h7 a8 h8 a10 h10 a11 h11 a12 h12 a13 h13 a15 h15 a16 h16 a19 h19 a20 h20 a21 h21 a23 h23 a24 h24 a25 h25 a58 h58 a64 h64 f0 f1 f2 f3 f4 f5 f6 f7 f8 f9 f10 tt
  clear f2 f6 f7 f9 f10
  have e188 : PT 188 = P_bu2 := pe188_14 hp
  have e189 : PT 189 = P_duI := pe189_14 hp
  have e190 : PT 190 = P_odX := pe190_14 hp
  simp only [hF0, hF2, hF20, hF21, hFp_188, hFp_189, hFp_190, e188, e189, e190, P_bu2, P_duI, P_odX, den_s, den_c, Int.add_zero, List.map_cons, List.map_nil, g2.eq, g3.eq, g4.eq, g5.eq, g6.eq, g14.eq, g15.eq, g16.eq, g17.eq, g18.eq, g19.eq, h7, h8, h10, h11, h12, h13, h15, h16, h19, h20, h21, h23, h24, h25, h58, h64] at f0 f1 f3 f4 f5 f8 ⊢
  subst f1
  subst f4
  have hh := f5
  rw [show r19 = 24 by omega] at hh
  refine ⟨fun h => by exfalso; omega, fun h => ⟨_, _, hh, ?_, ?_⟩⟩
  all_goals (intro q; first | rfl | (exfalso; omega)))
def w_xo_due_1_3 : VC := (([(0, 23), (0, 49), (0, 8), (1, 10), (0, 8), (0, 6), (0, 6), (0, 8), (0, 9), (0, 49), (0, 49), ((-2147483648), 2147483647), ((-2147483648), 2147483647), (0, 5), (0, 9), (0, 0), ((-1), 23), ((-1), 23), ((-2147483648), 2147483647), (24, 24), (0, 49), (0, 49), ((-2147483648), 2147483647), ((-2147483648), 2147483647)]), [(0, [(some 15, 0), (none, 0)], []), (21, [(some 14, 0), (some 16, 0)], [64, 58]), (3, [(some 19, 0), (none, 24)], []), (188, [(some 14, 0)], [58, 13]), (20, [(some 16, 0), (some 14, 0)], [13]), (189, [(some 19, 0), (some 17, 0), (some 18, 0), (some 14, 0), (some 2, 0), (some 3, 0), (some 4, 0), (some 5, 0), (some 6, 0)], [7, 8, 10, 11, 12, 13, 15, 16, 19, 20, 21, 23, 24, 25]), (3, [(none, 24), (some 19, 0)], []), (3, [(some 14, 0), (none, 0)], []), (2, [(some 14, 0), (some 3, 0)], []), (3, [(some 15, 0), (none, 0)], []), (3, [(none, 1), (some 15, 0)], [])], (27, [], [64, 13]))
set_option maxRecDepth 20000 in
theorem v_xo_due_1_3 {PT : PTy} (hp : HP14 PT) : vcOk PT w_xo_due_1_3 := vc_iv [(2, 0, 8), (3, 1, 10), (4, 0, 8), (5, 0, 6), (6, 0, 6), (14, 0, 9), (15, 0, 0), (16, (-1), 23), (17, (-1), 23), (18, (-2147483648), 2147483647), (19, 24, 24)] [7, 8, 10, 11, 12, 13, 15, 16, 19, 20, 21, 23, 24, 25, 58, 64] (by decide +kernel) (fun ρ α => by
  intro r2 g2 b2 r3 g3 b3 r4 g4 b4 r5 g5 b5 r6 g6 b6 r14 g14 b14 r15 g15 b15 r16 g16 b16 r17 g17 b17 r18 g18 b18 r19 g19 b19 a7 h7 a8 h8 a10 h10 a11 h11 a12 h12 a13 h13 a15 h15 a16 h16 a19 h19 a20 h20 a21 h21 a23 h23 a24 h24 a25 h25 a58 h58 a64 h64 f0 f1 f2 f3 f4 f5 f6 f7 f8 f9 f10 tt
  clear f2 f6 f7 f9 f10
  have e188 : PT 188 = P_bu2 := pe188_14 hp
  have e189 : PT 189 = P_duI := pe189_14 hp
  simp only [hF0, hF2, hF20, hF21, hF27, hFp_188, hFp_189, e188, e189, P_bu2, P_duI, den_s, den_c, Int.add_zero, List.map_cons, List.map_nil, g2.eq, g3.eq, g4.eq, g5.eq, g6.eq, g14.eq, g15.eq, g16.eq, g17.eq, g18.eq, g19.eq, h7, h8, h10, h11, h12, h13, h15, h16, h19, h20, h21, h23, h24, h25, h58, h64] at f0 f1 f3 f4 f5 f8 ⊢
  subst f1
  subst f4
  exact upd_bk f3)
def w_xo_due_1_4 : VC := (([(0, 23), (0, 49), (0, 8), (1, 10), (0, 8), (0, 6), (0, 6), (0, 8), (0, 9), (0, 49), (0, 49), ((-2147483648), 2147483647), ((-2147483648), 2147483647), (0, 5), (0, 9), (0, 1), ((-1), 23), ((-1), 23), ((-2147483648), 2147483647), (0, 23), (0, 49), (0, 49), ((-2147483648), 2147483647), ((-2147483648), 2147483647), (0, 49), (0, 49), ((-2147483648), 2147483647)]), [(3, [(some 26, 0), (some 18, 0)], []), (94, [(some 26, 0), (some 2, 0)], [68]), (148, [(none, 23), (some 2, 0), (some 3, 0), (some 4, 0), (some 5, 0), (some 6, 0), (none, 0), (none, 0)], [7, 8, 10, 11, 12, 64, 15, 16, 19, 20, 21, 23, 24, 25, 67, 68, 69]), (21, [(some 14, 0), (some 19, 0)], [64, 58]), (2, [(some 19, 0), (none, 24)], []), (188, [(some 14, 0)], [58, 13]), (20, [(some 16, 0), (some 14, 0)], [13]), (189, [(some 19, 0), (some 17, 0), (some 18, 0), (some 14, 0), (some 2, 0), (some 3, 0), (some 4, 0), (some 5, 0), (some 6, 0)], [7, 8, 10, 11, 12, 13, 15, 16, 19, 20, 21, 23, 24, 25]), (3, [(none, 24), (some 19, 0)], []), (3, [(some 14, 0), (none, 0)], []), (2, [(some 14, 0), (some 3, 0)], []), (3, [(some 15, 0), (none, 0)], []), (3, [(none, 1), (some 15, 0)], [])], (188, [(some 14, 0)], [64, 13]))
theorem pe94_14 {PT : PTy} (hp : HP14 PT) : PT 94 = P_rps := hp.1.1.1.1.1.1.1.1.1.1.2.2.2.1
theorem pe148_14 {PT : PTy} (hp : HP14 PT) : PT 148 = P_yx := hp.1.1.1.2.2.1
set_option maxRecDepth 20000 in
theorem v_xo_due_1_4 {PT : PTy} (hp : HP14 PT) : vcOk PT w_xo_due_1_4 := vc_iv [(2, 0, 8), (3, 1, 10), (4, 0, 8), (5, 0, 6), (6, 0, 6), (14, 0, 9), (16, (-1), 23), (17, (-1), 23), (18, (-2147483648), 2147483647), (19, 0, 23), (26, (-2147483648), 2147483647)] [7, 8, 10, 11, 12, 13, 15, 16, 19, 20, 21, 23, 24, 25, 58, 64, 67, 68, 69] (by decide +kernel) (fun ρ α => by
  intro r2 g2 b2 r3 g3 b3 r4 g4 b4 r5 g5 b5 r6 g6 b6 r14 g14 b14 r16 g16 b16 r17 g17 b17 r18 g18 b18 r19 g19 b19 r26 g26 b26 a7 h7 a8 h8 a10 h10 a11 h11 a12 h12 a13 h13 a15 h15 a16 h16 a19 h19 a20 h20 a21 h21 a23 h23 a24 h24 a25 h25 a58 h58 a64 h64 a67 h67 a68 h68 a69 h69 f0 f1 f2 f3 f4 f5 f6 f7 f8 f9 f10 f11 f12 tt
  clear f4 f8 f9 f11 f12
  have e94 : PT 94 = P_rps := pe94_14 hp
  have e148 : PT 148 = P_yx := pe148_14 hp
  have e188 : PT 188 = P_bu2 := pe188_14 hp
  have e189 : PT 189 = P_duI := pe189_14 hp
  simp only [hF2, hF3, hF20, hF21, hFp_94, hFp_148, hFp_188, hFp_189, e94, e148, e188, e189, P_rps, P_yx, P_bu2, P_duI, den_s, den_c, Int.add_zero, List.map_cons, List.map_nil, g2.eq, g3.eq, g4.eq, g5.eq, g6.eq, g14.eq, g16.eq, g17.eq, g18.eq, g19.eq, g26.eq, h7, h8, h10, h11, h12, h13, h15, h16, h19, h20, h21, h23, h24, h25, h58, h64, h67, h68, h69] at f0 f1 f2 f3 f5 f6 f7 f10 ⊢
  subst f3
  subst f6
  exact bu_up f5)
def w_xo_due_1_5 : VC := (([(0, 23), (0, 49), (0, 8), (1, 10), (0, 8), (0, 6), (0, 6), (0, 8), (0, 9), (0, 49), (0, 49), ((-2147483648), 2147483647), ((-2147483648), 2147483647), (0, 5), (0, 9), (0, 1), ((-1), 23), ((-1), 23), ((-2147483648), 2147483647), (0, 23), (0, 49), (0, 49), ((-2147483648), 2147483647), ((-2147483648), 2147483647), (0, 49), (0, 49), ((-2147483648), 2147483647)]), [(3, [(some 26, 0), (some 18, 0)], []), (94, [(some 26, 0), (some 2, 0)], [68]), (148, [(none, 23), (some 2, 0), (some 3, 0), (some 4, 0), (some 5, 0), (some 6, 0), (none, 0), (none, 0)], [7, 8, 10, 11, 12, 64, 15, 16, 19, 20, 21, 23, 24, 25, 67, 68, 69]), (21, [(some 14, 0), (some 19, 0)], [64, 58]), (2, [(some 19, 0), (none, 24)], []), (188, [(some 14, 0)], [58, 13]), (20, [(some 16, 0), (some 14, 0)], [13]), (189, [(some 19, 0), (some 17, 0), (some 18, 0), (some 14, 0), (some 2, 0), (some 3, 0), (some 4, 0), (some 5, 0), (some 6, 0)], [7, 8, 10, 11, 12, 13, 15, 16, 19, 20, 21, 23, 24, 25]), (3, [(none, 24), (some 19, 0)], []), (3, [(some 14, 0), (none, 0)], []), (2, [(some 14, 0), (some 3, 0)], []), (3, [(some 15, 0), (none, 0)], []), (3, [(none, 1), (some 15, 0)], [])], (189, [(some 19, 1), (some 17, 0), (some 18, 0), (some 14, 0), (some 2, 0), (some 3, 0), (some 4, 0), (some 5, 0), (some 6, 0)], [7, 8, 10, 11, 12, 13, 15, 16, 19, 20, 21, 23, 24, 25]))
set_option maxRecDepth 20000 in
theorem v_xo_due_1_5 {PT : PTy} (hp : HP14 PT) : vcOk PT w_xo_due_1_5 := vc_iv [(2, 0, 8), (3, 1, 10), (4, 0, 8), (5, 0, 6), (6, 0, 6), (14, 0, 9), (16, (-1), 23), (17, (-1), 23), (18, (-2147483648), 2147483647), (19, 0, 23), (26, (-2147483648), 2147483647)] [7, 8, 10, 11, 12, 13, 15, 16, 19, 20, 21, 23, 24, 25, 58, 64, 67, 68, 69] (by decide +kernel) (fun ρ α => by
  intro r2 g2 b2 r3 g3 b3 r4 g4 b4 r5 g5 b5 r6 g6 b6 r14 g14 b14 r16 g16 b16 r17 g17 b17 r18 g18 b18 r19 g19 b19 r26 g26 b26 a7 h7 a8 h8 a10 h10 a11 h11 a12 h12 a13 h13 a15 h15 a16 h16 a19 h19 a20 h20 a21 h21 a23 h23 a24 h24 a25 h25 a58 h58 a64 h64 a67 h67 a68 h68 a69 h69 f0 f1 f2 f3 f4 f5 f6 f7 f8 f9 f10 f11 f12 tt
  clear f4 f8 f9 f11 f12
  have e94 : PT 94 = P_rps := pe94_14 hp
  have e148 : PT 148 = P_yx := pe148_14 hp
  have e188 : PT 188 = P_bu2 := pe188_14 hp
  have e189 : PT 189 = P_duI := pe189_14 hp
  simp only [hF2, hF3, hF20, hF21, hFp_94, hFp_148, hFp_188, hFp_189, e94, e148, e188, e189, P_rps, P_yx, P_bu2, P_duI, den_s, den_c, Int.add_zero, List.map_cons, List.map_nil, g2.eq, g3.eq, g4.eq, g5.eq, g6.eq, g14.eq, g16.eq, g17.eq, g18.eq, g19.eq, g26.eq, h7, h8, h10, h11, h12, h13, h15, h16, h19, h20, h21, h23, h24, h25, h58, h64, h67, h68, h69] at f0 f1 f2 f3 f5 f6 f7 f10 ⊢
  subst f3
  subst f6
  have hy := f2
  have hb := f5
  have h0 : r26 = rpsF a68 r2 := f1
  subst h0
  first
    | exact obM_t f7 (by omega) ⟨_, _, _, _, fun q hq => by rw [updI_ne hq]; exact hb q hq, updI_at _ _ _, hy, rfl⟩ (by omega)
    | exact obM_k f7 (by omega) ⟨_, _, _, _, fun q hq => by rw [updI_ne hq]; exact hb q hq, updI_at _ _ _, hy, rfl⟩ (by omega))
def w_xo_due_1_6 : VC := (([(0, 23), (0, 49), (0, 8), (1, 10), (0, 8), (0, 6), (0, 6), (0, 8), (0, 9), (0, 49), (0, 49), ((-2147483648), 2147483647), ((-2147483648), 2147483647), (0, 5), (0, 9), (0, 1), ((-1), 23), ((-1), 23), ((-2147483648), 2147483647), (0, 23), (0, 49), (0, 49), ((-2147483648), 2147483647), ((-2147483648), 2147483647), (0, 49), (0, 49), ((-2147483648), 2147483647)]), [(3, [(some 26, 0), (some 18, 0)], []), (94, [(some 26, 0), (some 2, 0)], [68]), (148, [(none, 23), (some 2, 0), (some 3, 0), (some 4, 0), (some 5, 0), (some 6, 0), (none, 0), (none, 0)], [7, 8, 10, 11, 12, 64, 15, 16, 19, 20, 21, 23, 24, 25, 67, 68, 69]), (21, [(some 14, 0), (some 19, 0)], [64, 58]), (2, [(some 19, 0), (none, 24)], []), (188, [(some 14, 0)], [58, 13]), (20, [(some 16, 0), (some 14, 0)], [13]), (189, [(some 19, 0), (some 17, 0), (some 18, 0), (some 14, 0), (some 2, 0), (some 3, 0), (some 4, 0), (some 5, 0), (some 6, 0)], [7, 8, 10, 11, 12, 13, 15, 16, 19, 20, 21, 23, 24, 25]), (3, [(none, 24), (some 19, 0)], []), (3, [(some 14, 0), (none, 0)], []), (2, [(some 14, 0), (some 3, 0)], []), (3, [(some 15, 0), (none, 0)], []), (3, [(none, 1), (some 15, 0)], [])], (3, [(none, 24), (some 19, 1)], []))
set_option maxRecDepth 20000 in
theorem v_xo_due_1_6 {PT : PTy} (hp : HP14 PT) : vcOk PT w_xo_due_1_6 := vc_iv [(2, 0, 8), (3, 1, 10), (4, 0, 8), (5, 0, 6), (6, 0, 6), (14, 0, 9), (16, (-1), 23), (17, (-1), 23), (18, (-2147483648), 2147483647), (19, 0, 23), (26, (-2147483648), 2147483647)] [7, 8, 10, 11, 12, 13, 15, 16, 19, 20, 21, 23, 24, 25, 58, 64, 67, 68, 69] (by decide +kernel) (fun ρ α => by
  intro r2 g2 b2 r3 g3 b3 r4 g4 b4 r5 g5 b5 r6 g6 b6 r14 g14 b14 r16 g16 b16 r17 g17 b17 r18 g18 b18 r19 g19 b19 r26 g26 b26 a7 h7 a8 h8 a10 h10 a11 h11 a12 h12 a13 h13 a15 h15 a16 h16 a19 h19 a20 h20 a21 h21 a23 h23 a24 h24 a25 h25 a58 h58 a64 h64 a67 h67 a68 h68 a69 h69 f0 f1 f2 f3 f4 f5 f6 f7 f8 f9 f10 f11 f12 tt
  clear f4 f8 f9 f11 f12
  have e94 : PT 94 = P_rps := pe94_14 hp
  have e148 : PT 148 = P_yx := pe148_14 hp
  have e188 : PT 188 = P_bu2 := pe188_14 hp
  have e189 : PT 189 = P_duI := pe189_14 hp
  simp only [hF2, hF3, hF20, hF21, hFp_94, hFp_148, hFp_188, hFp_189, e94, e148, e188, e189, P_rps, P_yx, P_bu2, P_duI, den_s, den_c, Int.add_zero, List.map_cons, List.map_nil, g2.eq, g3.eq, g4.eq, g5.eq, g6.eq, g14.eq, g16.eq, g17.eq, g18.eq, g19.eq, g26.eq, h7, h8, h10, h11, h12, h13, h15, h16, h19, h20, h21, h23, h24, h25, h58, h64, h67, h68, h69] at f0 f1 f2 f3 f5 f6 f7 f10 ⊢
  subst f3
  subst f6
  omega)
def w_xo_due_1_7 : VC := (([(0, 23), (0, 49), (0, 8), (1, 10), (0, 8), (0, 6), (0, 6), (0, 8), (0, 9), (0, 49), (0, 49), ((-2147483648), 2147483647), ((-2147483648), 2147483647), (0, 5), (0, 9), (0, 1), ((-1), 23), ((-1), 23), ((-2147483647), 2147483647), (0, 23), (0, 49), (0, 49), ((-2147483648), 2147483647), ((-2147483648), 2147483647), (0, 49), (0, 49), ((-2147483648), 2147483646), ((-2147483648), 2147483647)]), [(94, [(some 27, 0), (some 2, 0)], [68]), (2, [(some 26, 0), (some 18, 0)], []), (94, [(some 26, 0), (some 2, 0)], [68]), (148, [(none, 23), (some 2, 0), (some 3, 0), (some 4, 0), (some 5, 0), (some 6, 0), (none, 0), (none, 0)], [7, 8, 10, 11, 12, 64, 15, 16, 19, 20, 21, 23, 24, 25, 67, 68, 69]), (21, [(some 14, 0), (some 19, 0)], [64, 58]), (2, [(some 19, 0), (none, 24)], []), (188, [(some 14, 0)], [58, 13]), (20, [(some 16, 0), (some 14, 0)], [13]), (189, [(some 19, 0), (some 17, 0), (some 18, 0), (some 14, 0), (some 2, 0), (some 3, 0), (some 4, 0), (some 5, 0), (some 6, 0)], [7, 8, 10, 11, 12, 13, 15, 16, 19, 20, 21, 23, 24, 25]), (3, [(none, 24), (some 19, 0)], []), (3, [(some 14, 0), (none, 0)], []), (2, [(some 14, 0), (some 3, 0)], []), (3, [(some 15, 0), (none, 0)], []), (3, [(none, 1), (some 15, 0)], [])], (188, [(some 14, 0)], [64, 13]))
set_option maxRecDepth 20000 in
theorem v_xo_due_1_7 {PT : PTy} (hp : HP14 PT) : vcOk PT w_xo_due_1_7 := vc_iv [(2, 0, 8), (3, 1, 10), (4, 0, 8), (5, 0, 6), (6, 0, 6), (14, 0, 9), (16, (-1), 23), (17, (-1), 23), (18, (-2147483647), 2147483647), (19, 0, 23), (26, (-2147483648), 2147483646), (27, (-2147483648), 2147483647)] [7, 8, 10, 11, 12, 13, 15, 16, 19, 20, 21, 23, 24, 25, 58, 64, 67, 68, 69] (by decide +kernel) (fun ρ α => by
  intro r2 g2 b2 r3 g3 b3 r4 g4 b4 r5 g5 b5 r6 g6 b6 r14 g14 b14 r16 g16 b16 r17 g17 b17 r18 g18 b18 r19 g19 b19 r26 g26 b26 r27 g27 b27 a7 h7 a8 h8 a10 h10 a11 h11 a12 h12 a13 h13 a15 h15 a16 h16 a19 h19 a20 h20 a21 h21 a23 h23 a24 h24 a25 h25 a58 h58 a64 h64 a67 h67 a68 h68 a69 h69 f0 f1 f2 f3 f4 f5 f6 f7 f8 f9 f10 f11 f12 f13 tt
  clear f5 f9 f10 f12 f13
  have e94 : PT 94 = P_rps := pe94_14 hp
  have e148 : PT 148 = P_yx := pe148_14 hp
  have e188 : PT 188 = P_bu2 := pe188_14 hp
  have e189 : PT 189 = P_duI := pe189_14 hp
  simp only [hF2, hF20, hF21, hFp_94, hFp_148, hFp_188, hFp_189, e94, e148, e188, e189, P_rps, P_yx, P_bu2, P_duI, den_s, den_c, Int.add_zero, List.map_cons, List.map_nil, g2.eq, g3.eq, g4.eq, g5.eq, g6.eq, g14.eq, g16.eq, g17.eq, g18.eq, g19.eq, g26.eq, g27.eq, h7, h8, h10, h11, h12, h13, h15, h16, h19, h20, h21, h23, h24, h25, h58, h64, h67, h68, h69] at f0 f1 f2 f3 f4 f6 f7 f8 f11 ⊢
  subst f4
  subst f7
  exact bu_up f6)
def w_xo_due_1_8 : VC := (([(0, 23), (0, 49), (0, 8), (1, 10), (0, 8), (0, 6), (0, 6), (0, 8), (0, 9), (0, 49), (0, 49), ((-2147483648), 2147483647), ((-2147483648), 2147483647), (0, 5), (0, 9), (0, 1), ((-1), 23), ((-1), 23), ((-2147483647), 2147483647), (0, 23), (0, 49), (0, 49), ((-2147483648), 2147483647), ((-2147483648), 2147483647), (0, 49), (0, 49), ((-2147483648), 2147483646), ((-2147483648), 2147483647)]), [(94, [(some 27, 0), (some 2, 0)], [68]), (2, [(some 26, 0), (some 18, 0)], []), (94, [(some 26, 0), (some 2, 0)], [68]), (148, [(none, 23), (some 2, 0), (some 3, 0), (some 4, 0), (some 5, 0), (some 6, 0), (none, 0), (none, 0)], [7, 8, 10, 11, 12, 64, 15, 16, 19, 20, 21, 23, 24, 25, 67, 68, 69]), (21, [(some 14, 0), (some 19, 0)], [64, 58]), (2, [(some 19, 0), (none, 24)], []), (188, [(some 14, 0)], [58, 13]), (20, [(some 16, 0), (some 14, 0)], [13]), (189, [(some 19, 0), (some 17, 0), (some 18, 0), (some 14, 0), (some 2, 0), (some 3, 0), (some 4, 0), (some 5, 0), (some 6, 0)], [7, 8, 10, 11, 12, 13, 15, 16, 19, 20, 21, 23, 24, 25]), (3, [(none, 24), (some 19, 0)], []), (3, [(some 14, 0), (none, 0)], []), (2, [(some 14, 0), (some 3, 0)], []), (3, [(some 15, 0), (none, 0)], []), (3, [(none, 1), (some 15, 0)], [])], (189, [(some 19, 1), (some 19, 0), (some 27, 0), (some 14, 0), (some 2, 0), (some 3, 0), (some 4, 0), (some 5, 0), (some 6, 0)], [7, 8, 10, 11, 12, 13, 15, 16, 19, 20, 21, 23, 24, 25]))
set_option maxRecDepth 20000 in
theorem v_xo_due_1_8 {PT : PTy} (hp : HP14 PT) : vcOk PT w_xo_due_1_8 := vc_iv [(2, 0, 8), (3, 1, 10), (4, 0, 8), (5, 0, 6), (6, 0, 6), (14, 0, 9), (16, (-1), 23), (17, (-1), 23), (18, (-2147483647), 2147483647), (19, 0, 23), (26, (-2147483648), 2147483646), (27, (-2147483648), 2147483647)] [7, 8, 10, 11, 12, 13, 15, 16, 19, 20, 21, 23, 24, 25, 58, 64, 67, 68, 69] (by decide +kernel) (fun ρ α => by
  intro r2 g2 b2 r3 g3 b3 r4 g4 b4 r5 g5 b5 r6 g6 b6 r14 g14 b14 r16 g16 b16 r17 g17 b17 r18 g18 b18 r19 g19 b19 r26 g26 b26 r27 g27 b27 a7 h7 a8 h8 a10 h10 a11 h11 a12 h12 a13 h13 a15 h15 a16 h16 a19 h19 a20 h20 a21 h21 a23 h23 a24 h24 a25 h25 a58 h58 a64 h64 a67 h67 a68 h68 a69 h69 f0 f1 f2 f3 f4 f5 f6 f7 f8 f9 f10 f11 f12 f13 tt
  clear f5 f9 f10 f12 f13
  have e94 : PT 94 = P_rps := pe94_14 hp
  have e148 : PT 148 = P_yx := pe148_14 hp
  have e188 : PT 188 = P_bu2 := pe188_14 hp
  have e189 : PT 189 = P_duI := pe189_14 hp
  simp only [hF2, hF20, hF21, hFp_94, hFp_148, hFp_188, hFp_189, e94, e148, e188, e189, P_rps, P_yx, P_bu2, P_duI, den_s, den_c, Int.add_zero, List.map_cons, List.map_nil, g2.eq, g3.eq, g4.eq, g5.eq, g6.eq, g14.eq, g16.eq, g17.eq, g18.eq, g19.eq, g26.eq, g27.eq, h7, h8, h10, h11, h12, h13, h15, h16, h19, h20, h21, h23, h24, h25, h58, h64, h67, h68, h69] at f0 f1 f2 f3 f4 f6 f7 f8 f11 ⊢
  subst f4
  subst f7
  have hy := f3
  have hb := f6
  have h0 : r27 = rpsF a68 r2 := f0
  have h1 : r26 = rpsF a68 r2 := f2
  subst h0
  subst h1
  first
    | exact obM_t f8 (by omega) ⟨_, _, _, _, fun q hq => by rw [updI_ne hq]; exact hb q hq, updI_at _ _ _, hy, rfl⟩ (by omega)
    | exact obM_k f8 (by omega) ⟨_, _, _, _, fun q hq => by rw [updI_ne hq]; exact hb q hq, updI_at _ _ _, hy, rfl⟩ (by omega))
def w_xo_due_1_9 : VC := (([(0, 23), (0, 49), (0, 8), (1, 10), (0, 8), (0, 6), (0, 6), (0, 8), (0, 9), (0, 49), (0, 49), ((-2147483648), 2147483647), ((-2147483648), 2147483647), (0, 5), (0, 9), (0, 1), ((-1), 23), ((-1), 23), ((-2147483647), 2147483647), (0, 23), (0, 49), (0, 49), ((-2147483648), 2147483647), ((-2147483648), 2147483647), (0, 49), (0, 49), ((-2147483648), 2147483646), ((-2147483648), 2147483647)]), [(94, [(some 27, 0), (some 2, 0)], [68]), (2, [(some 26, 0), (some 18, 0)], []), (94, [(some 26, 0), (some 2, 0)], [68]), (148, [(none, 23), (some 2, 0), (some 3, 0), (some 4, 0), (some 5, 0), (some 6, 0), (none, 0), (none, 0)], [7, 8, 10, 11, 12, 64, 15, 16, 19, 20, 21, 23, 24, 25, 67, 68, 69]), (21, [(some 14, 0), (some 19, 0)], [64, 58]), (2, [(some 19, 0), (none, 24)], []), (188, [(some 14, 0)], [58, 13]), (20, [(some 16, 0), (some 14, 0)], [13]), (189, [(some 19, 0), (some 17, 0), (some 18, 0), (some 14, 0), (some 2, 0), (some 3, 0), (some 4, 0), (some 5, 0), (some 6, 0)], [7, 8, 10, 11, 12, 13, 15, 16, 19, 20, 21, 23, 24, 25]), (3, [(none, 24), (some 19, 0)], []), (3, [(some 14, 0), (none, 0)], []), (2, [(some 14, 0), (some 3, 0)], []), (3, [(some 15, 0), (none, 0)], []), (3, [(none, 1), (some 15, 0)], [])], (3, [(none, 24), (some 19, 1)], []))
set_option maxRecDepth 20000 in
theorem v_xo_due_1_9 {PT : PTy} (hp : HP14 PT) : vcOk PT w_xo_due_1_9 := vc_iv [(2, 0, 8), (3, 1, 10), (4, 0, 8), (5, 0, 6), (6, 0, 6), (14, 0, 9), (16, (-1), 23), (17, (-1), 23), (18, (-2147483647), 2147483647), (19, 0, 23), (26, (-2147483648), 2147483646), (27, (-2147483648), 2147483647)] [7, 8, 10, 11, 12, 13, 15, 16, 19, 20, 21, 23, 24, 25, 58, 64, 67, 68, 69] (by decide +kernel) (fun ρ α => by
  intro r2 g2 b2 r3 g3 b3 r4 g4 b4 r5 g5 b5 r6 g6 b6 r14 g14 b14 r16 g16 b16 r17 g17 b17 r18 g18 b18 r19 g19 b19 r26 g26 b26 r27 g27 b27 a7 h7 a8 h8 a10 h10 a11 h11 a12 h12 a13 h13 a15 h15 a16 h16 a19 h19 a20 h20 a21 h21 a23 h23 a24 h24 a25 h25 a58 h58 a64 h64 a67 h67 a68 h68 a69 h69 f0 f1 f2 f3 f4 f5 f6 f7 f8 f9 f10 f11 f12 f13 tt
  clear f5 f9 f10 f12 f13
  have e94 : PT 94 = P_rps := pe94_14 hp
  have e148 : PT 148 = P_yx := pe148_14 hp
  have e188 : PT 188 = P_bu2 := pe188_14 hp
  have e189 : PT 189 = P_duI := pe189_14 hp
  simp only [hF2, hF3, hF20, hF21, hFp_94, hFp_148, hFp_188, hFp_189, e94, e148, e188, e189, P_rps, P_yx, P_bu2, P_duI, den_s, den_c, Int.add_zero, List.map_cons, List.map_nil, g2.eq, g3.eq, g4.eq, g5.eq, g6.eq, g14.eq, g16.eq, g17.eq, g18.eq, g19.eq, g26.eq, g27.eq, h7, h8, h10, h11, h12, h13, h15, h16, h19, h20, h21, h23, h24, h25, h58, h64, h67, h68, h69] at f0 f1 f2 f3 f4 f6 f7 f8 f11 ⊢
  subst f4
  subst f7
  omega)
set_option maxRecDepth 1000000 in
theorem k_xo_due {PT : PTy} (hp : HP14 PT) : wfX c_xo_due = true ∧ xcOk PT c_xo_due := xctr (xl (k_allRips14 hp.1.1.1.1.1.1.1.1.1.1) (xl (k_liveX hp.1.1.1) (xl0))) c_xo_due 59 mX6_due rfl h_xo_due (by decide +kernel) (by decide +kernel) (by decide) (vcs_by [w_xo_due_0_0, w_xo_due_0_1, w_xo_due_0_2, w_xo_due_0_3, w_xo_due_0_4, w_xo_due_0_5, w_xo_due_0_6, w_xo_due_0_7, w_xo_due_0_8, w_xo_due_0_9, w_xo_due_0_10] (by decide +kernel) (vc (v_xo_due_0_0 hp) (vc (v_xo_due_0_1 hp) (vc (v_xo_due_0_2 hp) (vc (v_xo_due_0_3 hp) (vc (v_xo_due_0_4 hp) (vc (v_xo_due_0_5 hp) (vc (v_xo_due_0_6 hp) (vc (v_xo_due_0_7 hp) (vc (v_xo_due_0_8 hp) (vc (v_xo_due_0_9 hp) (vc (v_xo_due_0_10 hp) vn)))))))))))) (fmc (vcs_by [w_xo_due_1_0, w_xo_due_1_1, w_xo_due_1_2, w_xo_due_1_3, w_xo_due_1_4, w_xo_due_1_5, w_xo_due_1_6, w_xo_due_1_7, w_xo_due_1_8, w_xo_due_1_9] (by decide +kernel) (vc (v_xo_due_1_0 hp) (vc (v_xo_due_1_1 hp) (vc (v_xo_due_1_2 hp) (vc (v_xo_due_1_3 hp) (vc (v_xo_due_1_4 hp) (vc (v_xo_due_1_5 hp) (vc (v_xo_due_1_6 hp) (vc (v_xo_due_1_7 hp) (vc (v_xo_due_1_8 hp) (vc (v_xo_due_1_9 hp) vn))))))))))) fmn)
def c_dueOf : XC := (164, 6, (bY ++ [(0, 9), (0, 1)]), [.inr (.inl 0), .inl (some 13, 0), .inl (some 14, 0)], gY2, [(78, [], [1])], [((bY ++ [(0, 9), (0, 1), ((-2147483648), 999), (0, 8), (0, 10), (0, 11), ((-2147483648), 2147483647), ((-2147483648), 2147483647)]), some (.inl (some 15, 0)), (hst gY2 [(0, .inr (.inr (.inr (7, [.inr (.inl 1), .inr (.inl 2), .inl (some 16, 0), .inr (.inl 3), .inr (.inl 4), .inl (some 17, 0), .inr (.inl 5), .inr (.inl 6), .inr (.inl 7), .inr (.inl 8), .inl (some 4, 0), .inr (.inl 9), .inr (.inl 10), .inl (some 5, 0), .inr (.inl 11), .inr (.inl 12), .inr (.inl 13), .inl (some 6, 0), .inr (.inl 14), .inr (.inl 15), .inr (.inl 16), .inl (some 18, 0), .inl (some 4, 0), .inr (.inl 17), .inr (.inl 18), .inl (some 19, 0), .inl (some 20, 0), .inr (.inl 19), .inr (.inl 20), .inr (.inl 21), .inr (.inl 22), .inr (.inl 23), .inr (.inl 24), .inr (.inl 25), .inl (some 7, 0), .inr (.inl 26), .inr (.inl 27), .inr (.inl 28), .inr (.inl 29), .inr (.inl 30), .inr (.inl 31), .inr (.inl 32), .inr (.inl 33), .inr (.inl 34), .inl (some 12, 0)]))))]), [0, 1, 2, 35, 36, 37, 38, 39, 40, 9, 10, 11, 12, 13, 14, 15, 16, 41, 42, 43, 44, 45, 46, 47, 48, 25, 26, 27, 28, 29, 30, 31, 32, 33, 34], 49, [(192, [(some 15, 0), (some 13, 0), (some 14, 0), (some 16, 0), (some 17, 0), (some 4, 0), (some 5, 0), (some 6, 0)], [1, 2, 35, 36, 37, 38, 39, 40, 41, 42, 9, 10, 11, 12, 13, 14, 15, 16])])])
def h_dueOf : List XH := [(22, (bY ++ [(0, 9), (0, 1), ((-1), 23), ((-1), 23), ((-2147483648), 999), (0, 24), (0, 8), (0, 10), (0, 11), ((-2147483648), 2147483647), ((-2147483648), 2147483647)]), [some (.inr (.inl 0)), some (.inl (some 13, 0)), some (.inl (some 14, 0)), some (.inl (some 15, 0)), some (.inl (some 16, 0)), some (.inl (some 17, 0)), some (.inl (some 18, 0)), none], (hst gY2 [(0, .inr (.inr (.inr (7, [.inr (.inl 1), .inr (.inl 2), .inl (some 19, 0), .inr (.inl 3), .inr (.inl 4), .inl (some 20, 0), .inr (.inl 5), .inr (.inl 6), .inr (.inl 7), .inr (.inl 8), .inl (some 4, 0), .inr (.inl 9), .inr (.inl 10), .inl (some 5, 0), .inr (.inl 11), .inr (.inl 12), .inr (.inl 13), .inl (some 6, 0), .inr (.inl 14), .inr (.inl 15), .inr (.inl 16), .inl (some 21, 0), .inl (some 4, 0), .inr (.inl 17), .inr (.inl 18), .inl (some 22, 0), .inl (some 23, 0), .inr (.inl 19), .inr (.inl 20), .inr (.inl 21), .inr (.inl 22), .inr (.inl 23), .inr (.inl 24), .inr (.inl 25), .inl (some 7, 0), .inr (.inl 26), .inr (.inl 27), .inr (.inl 28), .inr (.inl 29), .inr (.inl 30), .inr (.inl 31), .inr (.inl 32), .inr (.inl 33), .inr (.inl 34), .inl (some 12, 0)]))))]), [0, 1, 2, 35, 36, 37, 38, 39, 40, 9, 10, 11, 12, 13, 14, 15, 16, 41, 42, 43, 44, 45, 46, 47, 48, 25, 26, 27, 28, 29, 30, 31, 32, 33, 34], 49, [(105, [(some 4, 0)], [9, 10, 41, 42]), (191, [(some 18, 0), (some 16, 0), (some 17, 0), (some 13, 0), (some 15, 0), (some 19, 0), (some 20, 0), (some 4, 0), (some 5, 0), (some 6, 0)], [1, 2, 35, 36, 37, 38, 39, 40, 41, 42, 11, 12, 13, 14, 15, 16]), (0, [(some 21, 0), (some 20, 0)], []), (0, [(some 22, 0), (none, 0)], []), (0, [(some 23, 0), (none, 0)], []), (0, [(some 4, 0), (some 4, 0)], []), (3, [(none, 24), (some 18, 0)], [])], [(true, (none, 1)), (true, (some 18, 0))])]
def w_dueOf_0_0 : VC := ((bY ++ [(0, 9), (0, 1), (0, 8), (0, 10), (0, 11), ((-2147483648), 2147483647), ((-2147483648), 2147483647), ((-1), 23)]), [(20, [(some 20, 0), (some 13, 0)], [40]), (106, [(some 15, 0), (some 16, 0)], [1, 2, 35, 36, 37, 38, 39, 40]), (105, [(some 4, 0)], [9, 10, 41, 42]), (0, [(some 17, 0), (some 16, 0)], []), (0, [(some 4, 0), (some 4, 0)], []), (0, [(some 18, 0), (none, 0)], []), (0, [(some 19, 0), (none, 0)], []), (78, [], [1])], (191, [(none, 0), (none, (-1)), (none, 999), (some 13, 0), (some 20, 0), (some 15, 0), (some 16, 0), (some 4, 0), (some 5, 0), (some 6, 0)], [1, 2, 35, 36, 37, 38, 39, 40, 41, 42, 11, 12, 13, 14, 15, 16]))
theorem pe78_14 {PT : PTy} (hp : HP14 PT) : PT 78 = P_ly := hp.1.1.1.1.1.1.1.1.1.1.1.1.2.2.2.2.2.2.2.1
theorem pe105_14 {PT : PTy} (hp : HP14 PT) : PT 105 = P_cp2 := hp.1.1.1.1.1.1.1.1.1.2.2.2.2.2.2.2.2.2.2.2.1
theorem pe106_14 {PT : PTy} (hp : HP14 PT) : PT 106 = P_rd := hp.1.1.1.1.1.1.1.1.1.2.2.2.2.2.2.2.2.2.2.2.2.1
theorem pe191_14 {PT : PTy} (hp : HP14 PT) : PT 191 = P_dyI := hp.2.2.2.2.1
set_option maxRecDepth 20000 in
theorem v_dueOf_0_0 {PT : PTy} (hp : HP14 PT) : vcOk PT w_dueOf_0_0 := vc_iv [(4, 0, 8), (5, 0, 6), (6, 0, 6), (13, 0, 9), (15, 0, 8), (16, 0, 10), (17, 0, 11), (18, (-2147483648), 2147483647), (19, (-2147483648), 2147483647), (20, (-1), 23)] [1, 2, 9, 10, 11, 12, 13, 14, 15, 16, 35, 36, 37, 38, 39, 40, 41, 42] (by decide +kernel) (fun ρ α => by
  intro r4 g4 b4 r5 g5 b5 r6 g6 b6 r13 g13 b13 r15 g15 b15 r16 g16 b16 r17 g17 b17 r18 g18 b18 r19 g19 b19 r20 g20 b20 a1 h1 a2 h2 a9 h9 a10 h10 a11 h11 a12 h12 a13 h13 a14 h14 a15 h15 a16 h16 a35 h35 a36 h36 a37 h37 a38 h38 a39 h39 a40 h40 a41 h41 a42 h42 f0 f1 f2 f3 f4 f5 f6 f7 tt
  have e78 : PT 78 = P_ly := pe78_14 hp
  have e105 : PT 105 = P_cp2 := pe105_14 hp
  have e106 : PT 106 = P_rd := pe106_14 hp
  have e191 : PT 191 = P_dyI := pe191_14 hp
  simp only [hF0, hF20, hFp_78, hFp_105, hFp_106, hFp_191, e78, e105, e106, e191, P_ly, P_cp2, P_rd, P_dyI, den_s, den_c, Int.add_zero, List.map_cons, List.map_nil, g4.eq, g5.eq, g6.eq, g13.eq, g15.eq, g16.eq, g17.eq, g18.eq, g19.eq, g20.eq, h1, h2, h9, h10, h11, h12, h13, h14, h15, h16, h35, h36, h37, h38, h39, h40, h41, h42] at f0 f1 f2 f3 f4 f5 f6 f7 ⊢
  subst f0
  obtain ⟨a, b, h1, h2⟩ := f1
  exact ⟨a, b, _, h1, h2, fun q _ => rfl, rfl, obM_z⟩)
def w_dueOf_0_1 : VC := ((bY ++ [(0, 9), (0, 1), (0, 8), (0, 10), (0, 11), ((-2147483648), 2147483647), ((-2147483648), 2147483647), ((-1), 23)]), [(20, [(some 20, 0), (some 13, 0)], [40]), (106, [(some 15, 0), (some 16, 0)], [1, 2, 35, 36, 37, 38, 39, 40]), (105, [(some 4, 0)], [9, 10, 41, 42]), (0, [(some 17, 0), (some 16, 0)], []), (0, [(some 4, 0), (some 4, 0)], []), (0, [(some 18, 0), (none, 0)], []), (0, [(some 19, 0), (none, 0)], []), (78, [], [1])], (3, [(none, 24), (none, 0)], []))
theorem v_dueOf_0_1 {PT : PTy} (_ : HP14 PT) : vcOk PT w_dueOf_0_1 := vc_of (fun ρ α _ _ => by simp only [hF3, den_c] <;> omega)
def w_dueOf_1_0 : VC := ((bY ++ [(0, 9), (1, 1), ((-1), 23), ((-1), 23), ((-2147483648), 999), (24, 24), (0, 8), (0, 10), (0, 11), ((-2147483648), 2147483647), ((-2147483648), 2147483647)]), [(1, [(some 14, 0), (none, 0)], []), (21, [(some 13, 0), (some 15, 0)], [49, 40]), (3, [(some 18, 0), (none, 24)], []), (105, [(some 4, 0)], [9, 10, 41, 42]), (191, [(some 18, 0), (some 16, 0), (some 17, 0), (some 13, 0), (some 15, 0), (some 19, 0), (some 20, 0), (some 4, 0), (some 5, 0), (some 6, 0)], [1, 2, 35, 36, 37, 38, 39, 40, 41, 42, 11, 12, 13, 14, 15, 16]), (0, [(some 21, 0), (some 20, 0)], []), (0, [(some 22, 0), (none, 0)], []), (0, [(some 23, 0), (none, 0)], []), (0, [(some 4, 0), (some 4, 0)], []), (3, [(none, 24), (some 18, 0)], []), (78, [], [1])], (192, [(some 17, 0), (some 13, 0), (some 14, 0), (some 19, 0), (some 20, 0), (some 4, 0), (some 5, 0), (some 6, 0)], [1, 2, 35, 36, 37, 38, 39, 49, 41, 42, 9, 10, 11, 12, 13, 14, 15, 16]))
theorem pe192_14 {PT : PTy} (hp : HP14 PT) : PT 192 = P_dyP := hp.2.2.2.2.2.1
set_option maxRecDepth 20000 in
theorem v_dueOf_1_0 {PT : PTy} (hp : HP14 PT) : vcOk PT w_dueOf_1_0 := vc_iv [(4, 0, 8), (5, 0, 6), (6, 0, 6), (13, 0, 9), (14, 1, 1), (15, (-1), 23), (16, (-1), 23), (17, (-2147483648), 999), (18, 24, 24), (19, 0, 8), (20, 0, 10), (21, 0, 11), (22, (-2147483648), 2147483647), (23, (-2147483648), 2147483647)] [1, 2, 9, 10, 11, 12, 13, 14, 15, 16, 35, 36, 37, 38, 39, 40, 41, 42, 49] (by decide +kernel) (fun ρ α => by
  intro r4 g4 b4 r5 g5 b5 r6 g6 b6 r13 g13 b13 r14 g14 b14 r15 g15 b15 r16 g16 b16 r17 g17 b17 r18 g18 b18 r19 g19 b19 r20 g20 b20 r21 g21 b21 r22 g22 b22 r23 g23 b23 a1 h1 a2 h2 a9 h9 a10 h10 a11 h11 a12 h12 a13 h13 a14 h14 a15 h15 a16 h16 a35 h35 a36 h36 a37 h37 a38 h38 a39 h39 a40 h40 a41 h41 a42 h42 a49 h49 f0 f1 f2 f3 f4 f5 f6 f7 f8 f9 f10 tt
  clear f0 f2 f9
  have e78 : PT 78 = P_ly := pe78_14 hp
  have e105 : PT 105 = P_cp2 := pe105_14 hp
  have e191 : PT 191 = P_dyI := pe191_14 hp
  have e192 : PT 192 = P_dyP := pe192_14 hp
  simp only [hF0, hF21, hFp_78, hFp_105, hFp_191, hFp_192, e78, e105, e191, e192, P_ly, P_cp2, P_dyI, P_dyP, den_s, den_c, Int.add_zero, List.map_cons, List.map_nil, g4.eq, g5.eq, g6.eq, g13.eq, g14.eq, g15.eq, g16.eq, g17.eq, g18.eq, g19.eq, g20.eq, g21.eq, g22.eq, g23.eq, h1, h2, h9, h10, h11, h12, h13, h14, h15, h16, h35, h36, h37, h38, h39, h40, h41, h42, h49] at f1 f3 f4 f5 f6 f7 f8 f10 ⊢
  subst f1
  obtain ⟨a, b, du, i1, i2, i3, i4, i5⟩ := f4
  rw [show r18 = 24 by omega] at i5
  have eb : updI a40 r13 r15 = du := by rw [i4]; exact upd_bk i3
  rw [eb]
  refine ⟨⟨⟨a, b, i1, i2⟩, f3⟩, _, _, i5, ?_, ?_⟩
  all_goals (intro q; first | rfl | (exfalso; omega)))
def w_dueOf_1_1 : VC := ((bY ++ [(0, 9), (0, 0), ((-1), 23), ((-1), 23), ((-2147483648), 999), (24, 24), (0, 8), (0, 10), (0, 11), ((-2147483648), 2147483647), ((-2147483648), 2147483647)]), [(0, [(some 14, 0), (none, 0)], []), (21, [(some 13, 0), (some 15, 0)], [49, 40]), (3, [(some 18, 0), (none, 24)], []), (105, [(some 4, 0)], [9, 10, 41, 42]), (191, [(some 18, 0), (some 16, 0), (some 17, 0), (some 13, 0), (some 15, 0), (some 19, 0), (some 20, 0), (some 4, 0), (some 5, 0), (some 6, 0)], [1, 2, 35, 36, 37, 38, 39, 40, 41, 42, 11, 12, 13, 14, 15, 16]), (0, [(some 21, 0), (some 20, 0)], []), (0, [(some 22, 0), (none, 0)], []), (0, [(some 23, 0), (none, 0)], []), (0, [(some 4, 0), (some 4, 0)], []), (3, [(none, 24), (some 18, 0)], []), (78, [], [1])], (192, [(some 16, 0), (some 13, 0), (some 14, 0), (some 19, 0), (some 20, 0), (some 4, 0), (some 5, 0), (some 6, 0)], [1, 2, 35, 36, 37, 38, 39, 49, 41, 42, 9, 10, 11, 12, 13, 14, 15, 16]))
set_option maxRecDepth 20000 in
theorem v_dueOf_1_1 {PT : PTy} (hp : HP14 PT) : vcOk PT w_dueOf_1_1 := vc_iv [(4, 0, 8), (5, 0, 6), (6, 0, 6), (13, 0, 9), (14, 0, 0), (15, (-1), 23), (16, (-1), 23), (17, (-2147483648), 999), (18, 24, 24), (19, 0, 8), (20, 0, 10), (21, 0, 11), (22, (-2147483648), 2147483647), (23, (-2147483648), 2147483647)] [1, 2, 9, 10, 11, 12, 13, 14, 15, 16, 35, 36, 37, 38, 39, 40, 41, 42, 49] (by decide +kernel) (fun ρ α => by
  intro r4 g4 b4 r5 g5 b5 r6 g6 b6 r13 g13 b13 r14 g14 b14 r15 g15 b15 r16 g16 b16 r17 g17 b17 r18 g18 b18 r19 g19 b19 r20 g20 b20 r21 g21 b21 r22 g22 b22 r23 g23 b23 a1 h1 a2 h2 a9 h9 a10 h10 a11 h11 a12 h12 a13 h13 a14 h14 a15 h15 a16 h16 a35 h35 a36 h36 a37 h37 a38 h38 a39 h39 a40 h40 a41 h41 a42 h42 a49 h49 f0 f1 f2 f3 f4 f5 f6 f7 f8 f9 f10 tt
  clear f2 f9
  have e78 : PT 78 = P_ly := pe78_14 hp
  have e105 : PT 105 = P_cp2 := pe105_14 hp
  have e191 : PT 191 = P_dyI := pe191_14 hp
  have e192 : PT 192 = P_dyP := pe192_14 hp
  simp only [hF0, hF21, hFp_78, hFp_105, hFp_191, hFp_192, e78, e105, e191, e192, P_ly, P_cp2, P_dyI, P_dyP, den_s, den_c, Int.add_zero, List.map_cons, List.map_nil, g4.eq, g5.eq, g6.eq, g13.eq, g14.eq, g15.eq, g16.eq, g17.eq, g18.eq, g19.eq, g20.eq, g21.eq, g22.eq, g23.eq, h1, h2, h9, h10, h11, h12, h13, h14, h15, h16, h35, h36, h37, h38, h39, h40, h41, h42, h49] at f0 f1 f3 f4 f5 f6 f7 f8 f10 ⊢
  subst f1
  obtain ⟨a, b, du, i1, i2, i3, i4, i5⟩ := f4
  rw [show r18 = 24 by omega] at i5
  have eb : updI a40 r13 r15 = du := by rw [i4]; exact upd_bk i3
  rw [eb]
  refine ⟨⟨⟨a, b, i1, i2⟩, f3⟩, _, _, i5, ?_, ?_⟩
  all_goals (intro q; first | rfl | (exfalso; omega)))
def w_dueOf_1_2 : VC := ((bY ++ [(0, 9), (0, 1), ((-1), 23), ((-1), 23), ((-2147483648), 999), (0, 23), (0, 8), (0, 10), (0, 11), ((-2147483648), 2147483647), ((-2147483648), 2147483647), ((-2147483648), 2147483647)]), [(3, [(some 24, 0), (some 17, 0)], []), (3, [(some 24, 0), (some 17, 0)], []), (175, [(some 24, 0), (some 19, 0)], [51]), (104, [(none, 24), (some 19, 0), (some 21, 0), (some 20, 0), (some 4, 0), (some 5, 0), (some 6, 0), (some 22, 0), (some 23, 0)], [35, 36, 37, 38, 39, 49, 41, 42, 11, 12, 13, 14, 15, 16, 43, 44, 45, 50, 51, 52, 53, 54, 55]), (21, [(some 13, 0), (some 18, 0)], [49, 40]), (2, [(some 18, 0), (none, 24)], []), (105, [(some 4, 0)], [9, 10, 41, 42]), (191, [(some 18, 0), (some 16, 0), (some 17, 0), (some 13, 0), (some 15, 0), (some 19, 0), (some 20, 0), (some 4, 0), (some 5, 0), (some 6, 0)], [1, 2, 35, 36, 37, 38, 39, 40, 41, 42, 11, 12, 13, 14, 15, 16]), (0, [(some 21, 0), (some 20, 0)], []), (0, [(some 22, 0), (none, 0)], []), (0, [(some 23, 0), (none, 0)], []), (0, [(some 4, 0), (some 4, 0)], []), (3, [(none, 24), (some 18, 0)], []), (78, [], [1])], (191, [(some 18, 1), (some 16, 0), (some 17, 0), (some 13, 0), (some 15, 0), (some 19, 0), (some 20, 0), (some 4, 0), (some 5, 0), (some 6, 0)], [1, 2, 35, 36, 37, 38, 39, 49, 41, 42, 11, 12, 13, 14, 15, 16]))
theorem pe104_14 {PT : PTy} (hp : HP14 PT) : PT 104 = P_ru := hp.1.1.1.1.1.1.1.1.1.2.2.2.2.2.2.2.2.2.2.1
theorem pe175_14 {PT : PTy} (hp : HP14 PT) : PT 175 = P_rpY := hp.1.1.2.2.2.2.2.2.2.2.2.2.2.2.2.1
set_option maxRecDepth 20000 in
theorem v_dueOf_1_2 {PT : PTy} (hp : HP14 PT) : vcOk PT w_dueOf_1_2 := vc_iv [(4, 0, 8), (5, 0, 6), (6, 0, 6), (13, 0, 9), (15, (-1), 23), (16, (-1), 23), (17, (-2147483648), 999), (18, 0, 23), (19, 0, 8), (20, 0, 10), (21, 0, 11), (22, (-2147483648), 2147483647), (23, (-2147483648), 2147483647), (24, (-2147483648), 2147483647)] [1, 2, 9, 10, 11, 12, 13, 14, 15, 16, 35, 36, 37, 38, 39, 40, 41, 42, 43, 44, 45, 49, 50, 51, 52, 53, 54, 55] (by decide +kernel) (fun ρ α => by
  intro r4 g4 b4 r5 g5 b5 r6 g6 b6 r13 g13 b13 r15 g15 b15 r16 g16 b16 r17 g17 b17 r18 g18 b18 r19 g19 b19 r20 g20 b20 r21 g21 b21 r22 g22 b22 r23 g23 b23 r24 g24 b24 a1 h1 a2 h2 a9 h9 a10 h10 a11 h11 a12 h12 a13 h13 a14 h14 a15 h15 a16 h16 a35 h35 a36 h36 a37 h37 a38 h38 a39 h39 a40 h40 a41 h41 a42 h42 a43 h43 a44 h44 a45 h45 a49 h49 a50 h50 a51 h51 a52 h52 a53 h53 a54 h54 a55 h55 f0 f1 f2 f3 f4 f5 f6 f7 f8 f9 f10 f11 f12 f13 tt
  clear f1 f5 f12
  have e78 : PT 78 = P_ly := pe78_14 hp
  have e104 : PT 104 = P_ru := pe104_14 hp
  have e105 : PT 105 = P_cp2 := pe105_14 hp
  have e175 : PT 175 = P_rpY := pe175_14 hp
  have e191 : PT 191 = P_dyI := pe191_14 hp
  simp only [hF0, hF3, hF21, hFp_78, hFp_104, hFp_105, hFp_175, hFp_191, e78, e104, e105, e175, e191, P_ly, P_ru, P_cp2, P_rpY, P_dyI, den_s, den_c, Int.add_zero, List.map_cons, List.map_nil, g4.eq, g5.eq, g6.eq, g13.eq, g15.eq, g16.eq, g17.eq, g18.eq, g19.eq, g20.eq, g21.eq, g22.eq, g23.eq, g24.eq, h1, h2, h9, h10, h11, h12, h13, h14, h15, h16, h35, h36, h37, h38, h39, h40, h41, h42, h43, h44, h45, h49, h50, h51, h52, h53, h54, h55] at f0 f2 f3 f4 f6 f7 f8 f9 f10 f11 f13 ⊢
  subst f4
  obtain ⟨h1, h2⟩ := f3
  have e1 : r21 = r20 := by omega
  have e2 : r22 = 0 := by omega
  have e3 : r23 = 0 := by omega
  have e4 : r4 = r4 := by omega
  rw [e1, e2, e3, e4] at h1 h2
  obtain ⟨a, b, du, i1, i2, i3, i4, i5⟩ := f7
  have hc : r24 = rpsF a51 r19 := f2
  subst hc
  first
    | (exfalso; omega)
    | exact ⟨a, b, du, i1, i2, fun q hq => by rw [updI_ne hq]; exact i3 q hq, i4, obM_t i5 (by omega) ⟨_, _, _, _, _, _, _, fun q hq => by rw [updI_ne hq]; exact i3 q hq, updI_at _ _ _, ⟨_, _, _, h1, h2⟩, rfl⟩ (by omega)⟩
    | exact ⟨a, b, du, i1, i2, fun q hq => by rw [updI_ne hq]; exact i3 q hq, i4, obM_k i5 (by omega) ⟨_, _, _, _, _, _, _, fun q hq => by rw [updI_ne hq]; exact i3 q hq, updI_at _ _ _, ⟨_, _, _, h1, h2⟩, rfl⟩ (by omega)⟩)
def w_dueOf_1_3 : VC := ((bY ++ [(0, 9), (0, 1), ((-1), 23), ((-1), 23), ((-2147483648), 999), (0, 23), (0, 8), (0, 10), (0, 11), ((-2147483648), 2147483647), ((-2147483648), 2147483647), ((-2147483648), 2147483647)]), [(3, [(some 24, 0), (some 17, 0)], []), (3, [(some 24, 0), (some 17, 0)], []), (175, [(some 24, 0), (some 19, 0)], [51]), (104, [(none, 24), (some 19, 0), (some 21, 0), (some 20, 0), (some 4, 0), (some 5, 0), (some 6, 0), (some 22, 0), (some 23, 0)], [35, 36, 37, 38, 39, 49, 41, 42, 11, 12, 13, 14, 15, 16, 43, 44, 45, 50, 51, 52, 53, 54, 55]), (21, [(some 13, 0), (some 18, 0)], [49, 40]), (2, [(some 18, 0), (none, 24)], []), (105, [(some 4, 0)], [9, 10, 41, 42]), (191, [(some 18, 0), (some 16, 0), (some 17, 0), (some 13, 0), (some 15, 0), (some 19, 0), (some 20, 0), (some 4, 0), (some 5, 0), (some 6, 0)], [1, 2, 35, 36, 37, 38, 39, 40, 41, 42, 11, 12, 13, 14, 15, 16]), (0, [(some 21, 0), (some 20, 0)], []), (0, [(some 22, 0), (none, 0)], []), (0, [(some 23, 0), (none, 0)], []), (0, [(some 4, 0), (some 4, 0)], []), (3, [(none, 24), (some 18, 0)], []), (78, [], [1])], (3, [(none, 24), (some 18, 1)], []))
set_option maxRecDepth 20000 in
theorem v_dueOf_1_3 {PT : PTy} (hp : HP14 PT) : vcOk PT w_dueOf_1_3 := vc_iv [(4, 0, 8), (5, 0, 6), (6, 0, 6), (13, 0, 9), (15, (-1), 23), (16, (-1), 23), (17, (-2147483648), 999), (18, 0, 23), (19, 0, 8), (20, 0, 10), (21, 0, 11), (22, (-2147483648), 2147483647), (23, (-2147483648), 2147483647), (24, (-2147483648), 2147483647)] [1, 2, 9, 10, 11, 12, 13, 14, 15, 16, 35, 36, 37, 38, 39, 40, 41, 42, 43, 44, 45, 49, 50, 51, 52, 53, 54, 55] (by decide +kernel) (fun ρ α => by
  intro r4 g4 b4 r5 g5 b5 r6 g6 b6 r13 g13 b13 r15 g15 b15 r16 g16 b16 r17 g17 b17 r18 g18 b18 r19 g19 b19 r20 g20 b20 r21 g21 b21 r22 g22 b22 r23 g23 b23 r24 g24 b24 a1 h1 a2 h2 a9 h9 a10 h10 a11 h11 a12 h12 a13 h13 a14 h14 a15 h15 a16 h16 a35 h35 a36 h36 a37 h37 a38 h38 a39 h39 a40 h40 a41 h41 a42 h42 a43 h43 a44 h44 a45 h45 a49 h49 a50 h50 a51 h51 a52 h52 a53 h53 a54 h54 a55 h55 f0 f1 f2 f3 f4 f5 f6 f7 f8 f9 f10 f11 f12 f13 tt
  clear f1 f5 f12
  have e78 : PT 78 = P_ly := pe78_14 hp
  have e104 : PT 104 = P_ru := pe104_14 hp
  have e105 : PT 105 = P_cp2 := pe105_14 hp
  have e175 : PT 175 = P_rpY := pe175_14 hp
  have e191 : PT 191 = P_dyI := pe191_14 hp
  simp only [hF0, hF3, hF21, hFp_78, hFp_104, hFp_105, hFp_175, hFp_191, e78, e104, e105, e175, e191, P_ly, P_ru, P_cp2, P_rpY, P_dyI, den_s, den_c, Int.add_zero, List.map_cons, List.map_nil, g4.eq, g5.eq, g6.eq, g13.eq, g15.eq, g16.eq, g17.eq, g18.eq, g19.eq, g20.eq, g21.eq, g22.eq, g23.eq, g24.eq, h1, h2, h9, h10, h11, h12, h13, h14, h15, h16, h35, h36, h37, h38, h39, h40, h41, h42, h43, h44, h45, h49, h50, h51, h52, h53, h54, h55] at f0 f2 f3 f4 f6 f7 f8 f9 f10 f11 f13 ⊢
  subst f4
  omega)
def w_dueOf_1_4 : VC := ((bY ++ [(0, 9), (0, 1), ((-1), 23), ((-1), 23), ((-2147483647), 999), (0, 23), (0, 8), (0, 10), (0, 11), ((-2147483648), 2147483647), ((-2147483648), 2147483647), ((-2147483648), 998)]), [(2, [(some 24, 0), (some 17, 0)], []), (3, [(some 24, 0), (some 17, 0)], []), (175, [(some 24, 0), (some 19, 0)], [51]), (104, [(none, 24), (some 19, 0), (some 21, 0), (some 20, 0), (some 4, 0), (some 5, 0), (some 6, 0), (some 22, 0), (some 23, 0)], [35, 36, 37, 38, 39, 49, 41, 42, 11, 12, 13, 14, 15, 16, 43, 44, 45, 50, 51, 52, 53, 54, 55]), (21, [(some 13, 0), (some 18, 0)], [49, 40]), (2, [(some 18, 0), (none, 24)], []), (105, [(some 4, 0)], [9, 10, 41, 42]), (191, [(some 18, 0), (some 16, 0), (some 17, 0), (some 13, 0), (some 15, 0), (some 19, 0), (some 20, 0), (some 4, 0), (some 5, 0), (some 6, 0)], [1, 2, 35, 36, 37, 38, 39, 40, 41, 42, 11, 12, 13, 14, 15, 16]), (0, [(some 21, 0), (some 20, 0)], []), (0, [(some 22, 0), (none, 0)], []), (0, [(some 23, 0), (none, 0)], []), (0, [(some 4, 0), (some 4, 0)], []), (3, [(none, 24), (some 18, 0)], []), (78, [], [1])], (191, [(some 18, 1), (some 16, 0), (some 24, 0), (some 13, 0), (some 15, 0), (some 19, 0), (some 20, 0), (some 4, 0), (some 5, 0), (some 6, 0)], [1, 2, 35, 36, 37, 38, 39, 49, 41, 42, 11, 12, 13, 14, 15, 16]))
set_option maxRecDepth 20000 in
theorem v_dueOf_1_4 {PT : PTy} (hp : HP14 PT) : vcOk PT w_dueOf_1_4 := vc_iv [(4, 0, 8), (5, 0, 6), (6, 0, 6), (13, 0, 9), (15, (-1), 23), (16, (-1), 23), (17, (-2147483647), 999), (18, 0, 23), (19, 0, 8), (20, 0, 10), (21, 0, 11), (22, (-2147483648), 2147483647), (23, (-2147483648), 2147483647), (24, (-2147483648), 998)] [1, 2, 9, 10, 11, 12, 13, 14, 15, 16, 35, 36, 37, 38, 39, 40, 41, 42, 43, 44, 45, 49, 50, 51, 52, 53, 54, 55] (by decide +kernel) (fun ρ α => by
  intro r4 g4 b4 r5 g5 b5 r6 g6 b6 r13 g13 b13 r15 g15 b15 r16 g16 b16 r17 g17 b17 r18 g18 b18 r19 g19 b19 r20 g20 b20 r21 g21 b21 r22 g22 b22 r23 g23 b23 r24 g24 b24 a1 h1 a2 h2 a9 h9 a10 h10 a11 h11 a12 h12 a13 h13 a14 h14 a15 h15 a16 h16 a35 h35 a36 h36 a37 h37 a38 h38 a39 h39 a40 h40 a41 h41 a42 h42 a43 h43 a44 h44 a45 h45 a49 h49 a50 h50 a51 h51 a52 h52 a53 h53 a54 h54 a55 h55 f0 f1 f2 f3 f4 f5 f6 f7 f8 f9 f10 f11 f12 f13 tt
  clear f5 f12
  have e78 : PT 78 = P_ly := pe78_14 hp
  have e104 : PT 104 = P_ru := pe104_14 hp
  have e105 : PT 105 = P_cp2 := pe105_14 hp
  have e175 : PT 175 = P_rpY := pe175_14 hp
  have e191 : PT 191 = P_dyI := pe191_14 hp
  simp only [hF0, hF2, hF3, hF21, hFp_78, hFp_104, hFp_105, hFp_175, hFp_191, e78, e104, e105, e175, e191, P_ly, P_ru, P_cp2, P_rpY, P_dyI, den_s, den_c, Int.add_zero, List.map_cons, List.map_nil, g4.eq, g5.eq, g6.eq, g13.eq, g15.eq, g16.eq, g17.eq, g18.eq, g19.eq, g20.eq, g21.eq, g22.eq, g23.eq, g24.eq, h1, h2, h9, h10, h11, h12, h13, h14, h15, h16, h35, h36, h37, h38, h39, h40, h41, h42, h43, h44, h45, h49, h50, h51, h52, h53, h54, h55] at f0 f1 f2 f3 f4 f6 f7 f8 f9 f10 f11 f13 ⊢
  subst f4
  obtain ⟨h1, h2⟩ := f3
  have e1 : r21 = r20 := by omega
  have e2 : r22 = 0 := by omega
  have e3 : r23 = 0 := by omega
  have e4 : r4 = r4 := by omega
  rw [e1, e2, e3, e4] at h1 h2
  obtain ⟨a, b, du, i1, i2, i3, i4, i5⟩ := f7
  have hc : r24 = rpsF a51 r19 := f2
  subst hc
  first
    | (exfalso; omega)
    | exact ⟨a, b, du, i1, i2, fun q hq => by rw [updI_ne hq]; exact i3 q hq, i4, obM_t i5 (by omega) ⟨_, _, _, _, _, _, _, fun q hq => by rw [updI_ne hq]; exact i3 q hq, updI_at _ _ _, ⟨_, _, _, h1, h2⟩, rfl⟩ (by omega)⟩
    | exact ⟨a, b, du, i1, i2, fun q hq => by rw [updI_ne hq]; exact i3 q hq, i4, obM_k i5 (by omega) ⟨_, _, _, _, _, _, _, fun q hq => by rw [updI_ne hq]; exact i3 q hq, updI_at _ _ _, ⟨_, _, _, h1, h2⟩, rfl⟩ (by omega)⟩)
def w_dueOf_1_5 : VC := ((bY ++ [(0, 9), (0, 1), ((-1), 23), ((-1), 23), ((-2147483647), 999), (0, 23), (0, 8), (0, 10), (0, 11), ((-2147483648), 2147483647), ((-2147483648), 2147483647), ((-2147483648), 998)]), [(2, [(some 24, 0), (some 17, 0)], []), (3, [(some 24, 0), (some 17, 0)], []), (175, [(some 24, 0), (some 19, 0)], [51]), (104, [(none, 24), (some 19, 0), (some 21, 0), (some 20, 0), (some 4, 0), (some 5, 0), (some 6, 0), (some 22, 0), (some 23, 0)], [35, 36, 37, 38, 39, 49, 41, 42, 11, 12, 13, 14, 15, 16, 43, 44, 45, 50, 51, 52, 53, 54, 55]), (21, [(some 13, 0), (some 18, 0)], [49, 40]), (2, [(some 18, 0), (none, 24)], []), (105, [(some 4, 0)], [9, 10, 41, 42]), (191, [(some 18, 0), (some 16, 0), (some 17, 0), (some 13, 0), (some 15, 0), (some 19, 0), (some 20, 0), (some 4, 0), (some 5, 0), (some 6, 0)], [1, 2, 35, 36, 37, 38, 39, 40, 41, 42, 11, 12, 13, 14, 15, 16]), (0, [(some 21, 0), (some 20, 0)], []), (0, [(some 22, 0), (none, 0)], []), (0, [(some 23, 0), (none, 0)], []), (0, [(some 4, 0), (some 4, 0)], []), (3, [(none, 24), (some 18, 0)], []), (78, [], [1])], (3, [(none, 24), (some 18, 1)], []))
set_option maxRecDepth 20000 in
theorem v_dueOf_1_5 {PT : PTy} (hp : HP14 PT) : vcOk PT w_dueOf_1_5 := vc_iv [(4, 0, 8), (5, 0, 6), (6, 0, 6), (13, 0, 9), (15, (-1), 23), (16, (-1), 23), (17, (-2147483647), 999), (18, 0, 23), (19, 0, 8), (20, 0, 10), (21, 0, 11), (22, (-2147483648), 2147483647), (23, (-2147483648), 2147483647), (24, (-2147483648), 998)] [1, 2, 9, 10, 11, 12, 13, 14, 15, 16, 35, 36, 37, 38, 39, 40, 41, 42, 43, 44, 45, 49, 50, 51, 52, 53, 54, 55] (by decide +kernel) (fun ρ α => by
  intro r4 g4 b4 r5 g5 b5 r6 g6 b6 r13 g13 b13 r15 g15 b15 r16 g16 b16 r17 g17 b17 r18 g18 b18 r19 g19 b19 r20 g20 b20 r21 g21 b21 r22 g22 b22 r23 g23 b23 r24 g24 b24 a1 h1 a2 h2 a9 h9 a10 h10 a11 h11 a12 h12 a13 h13 a14 h14 a15 h15 a16 h16 a35 h35 a36 h36 a37 h37 a38 h38 a39 h39 a40 h40 a41 h41 a42 h42 a43 h43 a44 h44 a45 h45 a49 h49 a50 h50 a51 h51 a52 h52 a53 h53 a54 h54 a55 h55 f0 f1 f2 f3 f4 f5 f6 f7 f8 f9 f10 f11 f12 f13 tt
  clear f5 f12
  have e78 : PT 78 = P_ly := pe78_14 hp
  have e104 : PT 104 = P_ru := pe104_14 hp
  have e105 : PT 105 = P_cp2 := pe105_14 hp
  have e175 : PT 175 = P_rpY := pe175_14 hp
  have e191 : PT 191 = P_dyI := pe191_14 hp
  simp only [hF0, hF2, hF3, hF21, hFp_78, hFp_104, hFp_105, hFp_175, hFp_191, e78, e104, e105, e175, e191, P_ly, P_ru, P_cp2, P_rpY, P_dyI, den_s, den_c, Int.add_zero, List.map_cons, List.map_nil, g4.eq, g5.eq, g6.eq, g13.eq, g15.eq, g16.eq, g17.eq, g18.eq, g19.eq, g20.eq, g21.eq, g22.eq, g23.eq, g24.eq, h1, h2, h9, h10, h11, h12, h13, h14, h15, h16, h35, h36, h37, h38, h39, h40, h41, h42, h43, h44, h45, h49, h50, h51, h52, h53, h54, h55] at f0 f1 f2 f3 f4 f6 f7 f8 f9 f10 f11 f13 ⊢
  subst f4
  omega)
def w_dueOf_1_6 : VC := ((bY ++ [(0, 9), (0, 1), ((-1), 23), ((-1), 23), ((-2147483647), 998), (0, 23), (0, 8), (0, 10), (0, 11), ((-2147483648), 2147483647), ((-2147483648), 2147483647), ((-2147483647), 998)]), [(3, [(some 24, 0), (some 17, 0)], []), (2, [(some 24, 0), (some 17, 0)], []), (175, [(some 24, 0), (some 19, 0)], [51]), (104, [(none, 24), (some 19, 0), (some 21, 0), (some 20, 0), (some 4, 0), (some 5, 0), (some 6, 0), (some 22, 0), (some 23, 0)], [35, 36, 37, 38, 39, 49, 41, 42, 11, 12, 13, 14, 15, 16, 43, 44, 45, 50, 51, 52, 53, 54, 55]), (21, [(some 13, 0), (some 18, 0)], [49, 40]), (2, [(some 18, 0), (none, 24)], []), (105, [(some 4, 0)], [9, 10, 41, 42]), (191, [(some 18, 0), (some 16, 0), (some 17, 0), (some 13, 0), (some 15, 0), (some 19, 0), (some 20, 0), (some 4, 0), (some 5, 0), (some 6, 0)], [1, 2, 35, 36, 37, 38, 39, 40, 41, 42, 11, 12, 13, 14, 15, 16]), (0, [(some 21, 0), (some 20, 0)], []), (0, [(some 22, 0), (none, 0)], []), (0, [(some 23, 0), (none, 0)], []), (0, [(some 4, 0), (some 4, 0)], []), (3, [(none, 24), (some 18, 0)], []), (78, [], [1])], (191, [(some 18, 1), (some 18, 0), (some 17, 0), (some 13, 0), (some 15, 0), (some 19, 0), (some 20, 0), (some 4, 0), (some 5, 0), (some 6, 0)], [1, 2, 35, 36, 37, 38, 39, 49, 41, 42, 11, 12, 13, 14, 15, 16]))
set_option maxRecDepth 20000 in
theorem v_dueOf_1_6 {PT : PTy} (hp : HP14 PT) : vcOk PT w_dueOf_1_6 := vc_iv [(4, 0, 8), (5, 0, 6), (6, 0, 6), (13, 0, 9), (15, (-1), 23), (16, (-1), 23), (17, (-2147483647), 998), (18, 0, 23), (19, 0, 8), (20, 0, 10), (21, 0, 11), (22, (-2147483648), 2147483647), (23, (-2147483648), 2147483647), (24, (-2147483647), 998)] [1, 2, 9, 10, 11, 12, 13, 14, 15, 16, 35, 36, 37, 38, 39, 40, 41, 42, 43, 44, 45, 49, 50, 51, 52, 53, 54, 55] (by decide +kernel) (fun ρ α => by
  intro r4 g4 b4 r5 g5 b5 r6 g6 b6 r13 g13 b13 r15 g15 b15 r16 g16 b16 r17 g17 b17 r18 g18 b18 r19 g19 b19 r20 g20 b20 r21 g21 b21 r22 g22 b22 r23 g23 b23 r24 g24 b24 a1 h1 a2 h2 a9 h9 a10 h10 a11 h11 a12 h12 a13 h13 a14 h14 a15 h15 a16 h16 a35 h35 a36 h36 a37 h37 a38 h38 a39 h39 a40 h40 a41 h41 a42 h42 a43 h43 a44 h44 a45 h45 a49 h49 a50 h50 a51 h51 a52 h52 a53 h53 a54 h54 a55 h55 f0 f1 f2 f3 f4 f5 f6 f7 f8 f9 f10 f11 f12 f13 tt
  clear f5 f12
  have e78 : PT 78 = P_ly := pe78_14 hp
  have e104 : PT 104 = P_ru := pe104_14 hp
  have e105 : PT 105 = P_cp2 := pe105_14 hp
  have e175 : PT 175 = P_rpY := pe175_14 hp
  have e191 : PT 191 = P_dyI := pe191_14 hp
  simp only [hF0, hF2, hF3, hF21, hFp_78, hFp_104, hFp_105, hFp_175, hFp_191, e78, e104, e105, e175, e191, P_ly, P_ru, P_cp2, P_rpY, P_dyI, den_s, den_c, Int.add_zero, List.map_cons, List.map_nil, g4.eq, g5.eq, g6.eq, g13.eq, g15.eq, g16.eq, g17.eq, g18.eq, g19.eq, g20.eq, g21.eq, g22.eq, g23.eq, g24.eq, h1, h2, h9, h10, h11, h12, h13, h14, h15, h16, h35, h36, h37, h38, h39, h40, h41, h42, h43, h44, h45, h49, h50, h51, h52, h53, h54, h55] at f0 f1 f2 f3 f4 f6 f7 f8 f9 f10 f11 f13 ⊢
  subst f4
  obtain ⟨h1, h2⟩ := f3
  have e1 : r21 = r20 := by omega
  have e2 : r22 = 0 := by omega
  have e3 : r23 = 0 := by omega
  have e4 : r4 = r4 := by omega
  rw [e1, e2, e3, e4] at h1 h2
  obtain ⟨a, b, du, i1, i2, i3, i4, i5⟩ := f7
  have hc : r24 = rpsF a51 r19 := f2
  subst hc
  first
    | (exfalso; omega)
    | exact ⟨a, b, du, i1, i2, fun q hq => by rw [updI_ne hq]; exact i3 q hq, i4, obM_t i5 (by omega) ⟨_, _, _, _, _, _, _, fun q hq => by rw [updI_ne hq]; exact i3 q hq, updI_at _ _ _, ⟨_, _, _, h1, h2⟩, rfl⟩ (by omega)⟩
    | exact ⟨a, b, du, i1, i2, fun q hq => by rw [updI_ne hq]; exact i3 q hq, i4, obM_k i5 (by omega) ⟨_, _, _, _, _, _, _, fun q hq => by rw [updI_ne hq]; exact i3 q hq, updI_at _ _ _, ⟨_, _, _, h1, h2⟩, rfl⟩ (by omega)⟩)
def w_dueOf_1_7 : VC := ((bY ++ [(0, 9), (0, 1), ((-1), 23), ((-1), 23), ((-2147483647), 998), (0, 23), (0, 8), (0, 10), (0, 11), ((-2147483648), 2147483647), ((-2147483648), 2147483647), ((-2147483647), 998)]), [(3, [(some 24, 0), (some 17, 0)], []), (2, [(some 24, 0), (some 17, 0)], []), (175, [(some 24, 0), (some 19, 0)], [51]), (104, [(none, 24), (some 19, 0), (some 21, 0), (some 20, 0), (some 4, 0), (some 5, 0), (some 6, 0), (some 22, 0), (some 23, 0)], [35, 36, 37, 38, 39, 49, 41, 42, 11, 12, 13, 14, 15, 16, 43, 44, 45, 50, 51, 52, 53, 54, 55]), (21, [(some 13, 0), (some 18, 0)], [49, 40]), (2, [(some 18, 0), (none, 24)], []), (105, [(some 4, 0)], [9, 10, 41, 42]), (191, [(some 18, 0), (some 16, 0), (some 17, 0), (some 13, 0), (some 15, 0), (some 19, 0), (some 20, 0), (some 4, 0), (some 5, 0), (some 6, 0)], [1, 2, 35, 36, 37, 38, 39, 40, 41, 42, 11, 12, 13, 14, 15, 16]), (0, [(some 21, 0), (some 20, 0)], []), (0, [(some 22, 0), (none, 0)], []), (0, [(some 23, 0), (none, 0)], []), (0, [(some 4, 0), (some 4, 0)], []), (3, [(none, 24), (some 18, 0)], []), (78, [], [1])], (3, [(none, 24), (some 18, 1)], []))
set_option maxRecDepth 20000 in
theorem v_dueOf_1_7 {PT : PTy} (hp : HP14 PT) : vcOk PT w_dueOf_1_7 := vc_iv [(4, 0, 8), (5, 0, 6), (6, 0, 6), (13, 0, 9), (15, (-1), 23), (16, (-1), 23), (17, (-2147483647), 998), (18, 0, 23), (19, 0, 8), (20, 0, 10), (21, 0, 11), (22, (-2147483648), 2147483647), (23, (-2147483648), 2147483647), (24, (-2147483647), 998)] [1, 2, 9, 10, 11, 12, 13, 14, 15, 16, 35, 36, 37, 38, 39, 40, 41, 42, 43, 44, 45, 49, 50, 51, 52, 53, 54, 55] (by decide +kernel) (fun ρ α => by
  intro r4 g4 b4 r5 g5 b5 r6 g6 b6 r13 g13 b13 r15 g15 b15 r16 g16 b16 r17 g17 b17 r18 g18 b18 r19 g19 b19 r20 g20 b20 r21 g21 b21 r22 g22 b22 r23 g23 b23 r24 g24 b24 a1 h1 a2 h2 a9 h9 a10 h10 a11 h11 a12 h12 a13 h13 a14 h14 a15 h15 a16 h16 a35 h35 a36 h36 a37 h37 a38 h38 a39 h39 a40 h40 a41 h41 a42 h42 a43 h43 a44 h44 a45 h45 a49 h49 a50 h50 a51 h51 a52 h52 a53 h53 a54 h54 a55 h55 f0 f1 f2 f3 f4 f5 f6 f7 f8 f9 f10 f11 f12 f13 tt
  clear f5 f12
  have e78 : PT 78 = P_ly := pe78_14 hp
  have e104 : PT 104 = P_ru := pe104_14 hp
  have e105 : PT 105 = P_cp2 := pe105_14 hp
  have e175 : PT 175 = P_rpY := pe175_14 hp
  have e191 : PT 191 = P_dyI := pe191_14 hp
  simp only [hF0, hF2, hF3, hF21, hFp_78, hFp_104, hFp_105, hFp_175, hFp_191, e78, e104, e105, e175, e191, P_ly, P_ru, P_cp2, P_rpY, P_dyI, den_s, den_c, Int.add_zero, List.map_cons, List.map_nil, g4.eq, g5.eq, g6.eq, g13.eq, g15.eq, g16.eq, g17.eq, g18.eq, g19.eq, g20.eq, g21.eq, g22.eq, g23.eq, g24.eq, h1, h2, h9, h10, h11, h12, h13, h14, h15, h16, h35, h36, h37, h38, h39, h40, h41, h42, h43, h44, h45, h49, h50, h51, h52, h53, h54, h55] at f0 f1 f2 f3 f4 f6 f7 f8 f9 f10 f11 f13 ⊢
  subst f4
  omega)
def w_dueOf_1_8 : VC := ((bY ++ [(0, 9), (0, 1), ((-1), 23), ((-1), 23), ((-2147483647), 999), (0, 23), (0, 8), (0, 10), (0, 11), ((-2147483648), 2147483647), ((-2147483648), 2147483647), ((-2147483648), 998)]), [(2, [(some 24, 0), (some 17, 0)], []), (2, [(some 24, 0), (some 17, 0)], []), (175, [(some 24, 0), (some 19, 0)], [51]), (104, [(none, 24), (some 19, 0), (some 21, 0), (some 20, 0), (some 4, 0), (some 5, 0), (some 6, 0), (some 22, 0), (some 23, 0)], [35, 36, 37, 38, 39, 49, 41, 42, 11, 12, 13, 14, 15, 16, 43, 44, 45, 50, 51, 52, 53, 54, 55]), (21, [(some 13, 0), (some 18, 0)], [49, 40]), (2, [(some 18, 0), (none, 24)], []), (105, [(some 4, 0)], [9, 10, 41, 42]), (191, [(some 18, 0), (some 16, 0), (some 17, 0), (some 13, 0), (some 15, 0), (some 19, 0), (some 20, 0), (some 4, 0), (some 5, 0), (some 6, 0)], [1, 2, 35, 36, 37, 38, 39, 40, 41, 42, 11, 12, 13, 14, 15, 16]), (0, [(some 21, 0), (some 20, 0)], []), (0, [(some 22, 0), (none, 0)], []), (0, [(some 23, 0), (none, 0)], []), (0, [(some 4, 0), (some 4, 0)], []), (3, [(none, 24), (some 18, 0)], []), (78, [], [1])], (191, [(some 18, 1), (some 18, 0), (some 24, 0), (some 13, 0), (some 15, 0), (some 19, 0), (some 20, 0), (some 4, 0), (some 5, 0), (some 6, 0)], [1, 2, 35, 36, 37, 38, 39, 49, 41, 42, 11, 12, 13, 14, 15, 16]))
set_option maxRecDepth 20000 in
theorem v_dueOf_1_8 {PT : PTy} (hp : HP14 PT) : vcOk PT w_dueOf_1_8 := vc_iv [(4, 0, 8), (5, 0, 6), (6, 0, 6), (13, 0, 9), (15, (-1), 23), (16, (-1), 23), (17, (-2147483647), 999), (18, 0, 23), (19, 0, 8), (20, 0, 10), (21, 0, 11), (22, (-2147483648), 2147483647), (23, (-2147483648), 2147483647), (24, (-2147483648), 998)] [1, 2, 9, 10, 11, 12, 13, 14, 15, 16, 35, 36, 37, 38, 39, 40, 41, 42, 43, 44, 45, 49, 50, 51, 52, 53, 54, 55] (by decide +kernel) (fun ρ α => by
  intro r4 g4 b4 r5 g5 b5 r6 g6 b6 r13 g13 b13 r15 g15 b15 r16 g16 b16 r17 g17 b17 r18 g18 b18 r19 g19 b19 r20 g20 b20 r21 g21 b21 r22 g22 b22 r23 g23 b23 r24 g24 b24 a1 h1 a2 h2 a9 h9 a10 h10 a11 h11 a12 h12 a13 h13 a14 h14 a15 h15 a16 h16 a35 h35 a36 h36 a37 h37 a38 h38 a39 h39 a40 h40 a41 h41 a42 h42 a43 h43 a44 h44 a45 h45 a49 h49 a50 h50 a51 h51 a52 h52 a53 h53 a54 h54 a55 h55 f0 f1 f2 f3 f4 f5 f6 f7 f8 f9 f10 f11 f12 f13 tt
  clear f1 f5 f12
  have e78 : PT 78 = P_ly := pe78_14 hp
  have e104 : PT 104 = P_ru := pe104_14 hp
  have e105 : PT 105 = P_cp2 := pe105_14 hp
  have e175 : PT 175 = P_rpY := pe175_14 hp
  have e191 : PT 191 = P_dyI := pe191_14 hp
  simp only [hF0, hF2, hF21, hFp_78, hFp_104, hFp_105, hFp_175, hFp_191, e78, e104, e105, e175, e191, P_ly, P_ru, P_cp2, P_rpY, P_dyI, den_s, den_c, Int.add_zero, List.map_cons, List.map_nil, g4.eq, g5.eq, g6.eq, g13.eq, g15.eq, g16.eq, g17.eq, g18.eq, g19.eq, g20.eq, g21.eq, g22.eq, g23.eq, g24.eq, h1, h2, h9, h10, h11, h12, h13, h14, h15, h16, h35, h36, h37, h38, h39, h40, h41, h42, h43, h44, h45, h49, h50, h51, h52, h53, h54, h55] at f0 f2 f3 f4 f6 f7 f8 f9 f10 f11 f13 ⊢
  subst f4
  obtain ⟨h1, h2⟩ := f3
  have e1 : r21 = r20 := by omega
  have e2 : r22 = 0 := by omega
  have e3 : r23 = 0 := by omega
  have e4 : r4 = r4 := by omega
  rw [e1, e2, e3, e4] at h1 h2
  obtain ⟨a, b, du, i1, i2, i3, i4, i5⟩ := f7
  have hc : r24 = rpsF a51 r19 := f2
  subst hc
  first
    | (exfalso; omega)
    | exact ⟨a, b, du, i1, i2, fun q hq => by rw [updI_ne hq]; exact i3 q hq, i4, obM_t i5 (by omega) ⟨_, _, _, _, _, _, _, fun q hq => by rw [updI_ne hq]; exact i3 q hq, updI_at _ _ _, ⟨_, _, _, h1, h2⟩, rfl⟩ (by omega)⟩
    | exact ⟨a, b, du, i1, i2, fun q hq => by rw [updI_ne hq]; exact i3 q hq, i4, obM_k i5 (by omega) ⟨_, _, _, _, _, _, _, fun q hq => by rw [updI_ne hq]; exact i3 q hq, updI_at _ _ _, ⟨_, _, _, h1, h2⟩, rfl⟩ (by omega)⟩)
def w_dueOf_1_9 : VC := ((bY ++ [(0, 9), (0, 1), ((-1), 23), ((-1), 23), ((-2147483647), 999), (0, 23), (0, 8), (0, 10), (0, 11), ((-2147483648), 2147483647), ((-2147483648), 2147483647), ((-2147483648), 998)]), [(2, [(some 24, 0), (some 17, 0)], []), (2, [(some 24, 0), (some 17, 0)], []), (175, [(some 24, 0), (some 19, 0)], [51]), (104, [(none, 24), (some 19, 0), (some 21, 0), (some 20, 0), (some 4, 0), (some 5, 0), (some 6, 0), (some 22, 0), (some 23, 0)], [35, 36, 37, 38, 39, 49, 41, 42, 11, 12, 13, 14, 15, 16, 43, 44, 45, 50, 51, 52, 53, 54, 55]), (21, [(some 13, 0), (some 18, 0)], [49, 40]), (2, [(some 18, 0), (none, 24)], []), (105, [(some 4, 0)], [9, 10, 41, 42]), (191, [(some 18, 0), (some 16, 0), (some 17, 0), (some 13, 0), (some 15, 0), (some 19, 0), (some 20, 0), (some 4, 0), (some 5, 0), (some 6, 0)], [1, 2, 35, 36, 37, 38, 39, 40, 41, 42, 11, 12, 13, 14, 15, 16]), (0, [(some 21, 0), (some 20, 0)], []), (0, [(some 22, 0), (none, 0)], []), (0, [(some 23, 0), (none, 0)], []), (0, [(some 4, 0), (some 4, 0)], []), (3, [(none, 24), (some 18, 0)], []), (78, [], [1])], (3, [(none, 24), (some 18, 1)], []))
set_option maxRecDepth 20000 in
theorem v_dueOf_1_9 {PT : PTy} (hp : HP14 PT) : vcOk PT w_dueOf_1_9 := vc_iv [(4, 0, 8), (5, 0, 6), (6, 0, 6), (13, 0, 9), (15, (-1), 23), (16, (-1), 23), (17, (-2147483647), 999), (18, 0, 23), (19, 0, 8), (20, 0, 10), (21, 0, 11), (22, (-2147483648), 2147483647), (23, (-2147483648), 2147483647), (24, (-2147483648), 998)] [1, 2, 9, 10, 11, 12, 13, 14, 15, 16, 35, 36, 37, 38, 39, 40, 41, 42, 43, 44, 45, 49, 50, 51, 52, 53, 54, 55] (by decide +kernel) (fun ρ α => by
  intro r4 g4 b4 r5 g5 b5 r6 g6 b6 r13 g13 b13 r15 g15 b15 r16 g16 b16 r17 g17 b17 r18 g18 b18 r19 g19 b19 r20 g20 b20 r21 g21 b21 r22 g22 b22 r23 g23 b23 r24 g24 b24 a1 h1 a2 h2 a9 h9 a10 h10 a11 h11 a12 h12 a13 h13 a14 h14 a15 h15 a16 h16 a35 h35 a36 h36 a37 h37 a38 h38 a39 h39 a40 h40 a41 h41 a42 h42 a43 h43 a44 h44 a45 h45 a49 h49 a50 h50 a51 h51 a52 h52 a53 h53 a54 h54 a55 h55 f0 f1 f2 f3 f4 f5 f6 f7 f8 f9 f10 f11 f12 f13 tt
  clear f1 f5 f12
  have e78 : PT 78 = P_ly := pe78_14 hp
  have e104 : PT 104 = P_ru := pe104_14 hp
  have e105 : PT 105 = P_cp2 := pe105_14 hp
  have e175 : PT 175 = P_rpY := pe175_14 hp
  have e191 : PT 191 = P_dyI := pe191_14 hp
  simp only [hF0, hF2, hF3, hF21, hFp_78, hFp_104, hFp_105, hFp_175, hFp_191, e78, e104, e105, e175, e191, P_ly, P_ru, P_cp2, P_rpY, P_dyI, den_s, den_c, Int.add_zero, List.map_cons, List.map_nil, g4.eq, g5.eq, g6.eq, g13.eq, g15.eq, g16.eq, g17.eq, g18.eq, g19.eq, g20.eq, g21.eq, g22.eq, g23.eq, g24.eq, h1, h2, h9, h10, h11, h12, h13, h14, h15, h16, h35, h36, h37, h38, h39, h40, h41, h42, h43, h44, h45, h49, h50, h51, h52, h53, h54, h55] at f0 f2 f3 f4 f6 f7 f8 f9 f10 f11 f13 ⊢
  subst f4
  omega)
set_option maxRecDepth 1000000 in
theorem k_dueOf {PT : PTy} (hp : HP14 PT) : wfX c_dueOf = true ∧ xcOk PT c_dueOf := xctr (xl (k_runs hp.1.1.1.1.1.1.1.1.1) (xl (k_asTold hp.1.1.1.1.1.1.1.1.1) (xl (k_tearsAll hp.1.1) (xl0)))) c_dueOf 48 mX7_dueOf rfl h_dueOf (by decide +kernel) (by decide +kernel) (by decide) (vcs_by [w_dueOf_0_0, w_dueOf_0_1] (by decide +kernel) (vc (v_dueOf_0_0 hp) (vc (v_dueOf_0_1 hp) vn))) (fmc (vcs_by [w_dueOf_1_0, w_dueOf_1_1, w_dueOf_1_2, w_dueOf_1_3, w_dueOf_1_4, w_dueOf_1_5, w_dueOf_1_6, w_dueOf_1_7, w_dueOf_1_8, w_dueOf_1_9] (by decide +kernel) (vc (v_dueOf_1_0 hp) (vc (v_dueOf_1_1 hp) (vc (v_dueOf_1_2 hp) (vc (v_dueOf_1_3 hp) (vc (v_dueOf_1_4 hp) (vc (v_dueOf_1_5 hp) (vc (v_dueOf_1_6 hp) (vc (v_dueOf_1_7 hp) (vc (v_dueOf_1_8 hp) (vc (v_dueOf_1_9 hp) vn))))))))))) fmn)
def c_yo_due : XC := (165, 7, (bY ++ [((-2147483648), 2147483647), ((-2147483648), 2147483647)]), [.inr (.inl 0), .inl (some 13, 0), .inl (some 14, 0)], gY2, [(78, [], [1])], [((bY ++ [((-2147483648), 2147483647), ((-2147483648), 2147483647), ((-2147483648), 999), (0, 8), (0, 10), (0, 11), (0, 9), ((-2147483648), 2147483647), ((-2147483648), 2147483647)]), some (.inl (some 15, 0)), (hst gY2 [(0, .inr (.inr (.inr (7, [.inr (.inl 1), .inr (.inl 2), .inl (some 16, 0), .inr (.inl 3), .inr (.inl 4), .inl (some 17, 0), .inr (.inl 5), .inr (.inl 6), .inr (.inl 7), .inr (.inl 8), .inl (some 4, 0), .inr (.inl 9), .inr (.inl 10), .inl (some 5, 0), .inr (.inl 11), .inr (.inl 12), .inr (.inl 13), .inl (some 6, 0), .inr (.inl 14), .inr (.inl 15), .inr (.inl 16), .inl (some 18, 0), .inl (some 19, 0), .inr (.inl 17), .inr (.inl 18), .inl (some 20, 0), .inl (some 21, 0), .inr (.inl 19), .inr (.inl 20), .inr (.inl 21), .inr (.inl 22), .inr (.inl 23), .inr (.inl 24), .inr (.inl 25), .inl (some 7, 0), .inr (.inl 26), .inr (.inl 27), .inr (.inl 28), .inr (.inl 29), .inr (.inl 30), .inr (.inl 31), .inr (.inl 32), .inr (.inl 33), .inr (.inl 34), .inl (some 12, 0)]))))]), [0, 1, 2, 35, 36, 37, 38, 39, 40, 9, 10, 11, 12, 13, 14, 15, 16, 41, 42, 43, 44, 45, 46, 47, 48, 25, 26, 27, 28, 29, 30, 31, 32, 33, 34], 49, [(193, [(some 15, 0), (some 13, 0), (some 14, 0), (some 16, 0), (some 17, 0), (some 4, 0), (some 5, 0), (some 6, 0)], [1, 2, 35, 36, 37, 38, 39, 40, 41, 42, 9, 10, 11, 12, 13, 14, 15, 16])])])
def h_yo_due : List XH := []
def w_yo_due_0_0 : VC := ((bY ++ [((-2147483648), (-1)), ((-2147483648), 2147483647), ((-1), 54), (0, 8), (0, 10)]), [(0, [(none, 0), (none, 0)], []), (2, [(some 13, 0), (none, 0)], []), (79, [(some 15, 0), (none, 0), (some 16, 0), (some 17, 0)], [1, 2, 35, 36, 37, 38, 39, 40]), (78, [], [1])], (193, [(none, (-2)), (some 13, 0), (some 14, 0), (some 16, 0), (some 17, 0), (some 4, 0), (some 5, 0), (some 6, 0)], [1, 2, 35, 36, 37, 38, 39, 40, 17, 18, 9, 10, 11, 12, 13, 14, 15, 16]))
theorem pe79_14 {PT : PTy} (hp : HP14 PT) : PT 79 = P_fo := hp.1.1.1.1.1.1.1.1.1.1.1.1.2.2.2.2.2.2.2.2.1
theorem pe193_14 {PT : PTy} (hp : HP14 PT) : PT 193 = P_odY := hp.2.2.2.2.2.2.1
set_option maxRecDepth 20000 in
theorem v_yo_due_0_0 {PT : PTy} (hp : HP14 PT) : vcOk PT w_yo_due_0_0 := vc_iv [(4, 0, 8), (5, 0, 6), (6, 0, 6), (13, (-2147483648), (-1)), (14, (-2147483648), 2147483647), (15, (-1), 54), (16, 0, 8), (17, 0, 10)] [1, 2, 9, 10, 11, 12, 13, 14, 15, 16, 17, 18, 35, 36, 37, 38, 39, 40] (by decide +kernel) (fun ρ α => by
  intro r4 g4 b4 r5 g5 b5 r6 g6 b6 r13 g13 b13 r14 g14 b14 r15 g15 b15 r16 g16 b16 r17 g17 b17 a1 h1 a2 h2 a9 h9 a10 h10 a11 h11 a12 h12 a13 h13 a14 h14 a15 h15 a16 h16 a17 h17 a18 h18 a35 h35 a36 h36 a37 h37 a38 h38 a39 h39 a40 h40 f0 f1 f2 f3 tt
  clear f0 f1
  have e78 : PT 78 = P_ly := pe78_14 hp
  have e79 : PT 79 = P_fo := pe79_14 hp
  have e193 : PT 193 = P_odY := pe193_14 hp
  simp only [hFp_78, hFp_79, hFp_193, e78, e79, e193, P_ly, P_fo, P_odY, den_s, den_c, Int.add_zero, List.map_cons, List.map_nil, g4.eq, g5.eq, g6.eq, g13.eq, g14.eq, g15.eq, g16.eq, g17.eq, h1, h2, h9, h10, h11, h12, h13, h14, h15, h16, h17, h18, h35, h36, h37, h38, h39, h40] at f2 f3 ⊢
  obtain ⟨x, y, h1, h2, -⟩ := f2
  exact ⟨_, h2.2.1, by ((repeat' (first | apply And.intro | intro h)) <;> first | omega | rfl | trivial | (exfalso; omega))⟩)
def w_yo_due_0_1 : VC := ((bY ++ [(0, 2147483647), ((-2147483648), 2147483647), ((-1), 54), (0, 8), (0, 10)]), [(0, [(none, 0), (none, 0)], []), (2, [(some 17, (-1)), (some 13, 0)], []), (3, [(some 13, 0), (none, 0)], []), (79, [(some 15, 0), (none, 0), (some 16, 0), (some 17, 0)], [1, 2, 35, 36, 37, 38, 39, 40]), (78, [], [1])], (193, [(none, (-2)), (some 13, 0), (some 14, 0), (some 16, 0), (some 17, 0), (some 4, 0), (some 5, 0), (some 6, 0)], [1, 2, 35, 36, 37, 38, 39, 40, 17, 18, 9, 10, 11, 12, 13, 14, 15, 16]))
set_option maxRecDepth 20000 in
theorem v_yo_due_0_1 {PT : PTy} (hp : HP14 PT) : vcOk PT w_yo_due_0_1 := vc_iv [(4, 0, 8), (5, 0, 6), (6, 0, 6), (13, 0, 2147483647), (14, (-2147483648), 2147483647), (15, (-1), 54), (16, 0, 8), (17, 0, 10)] [1, 2, 9, 10, 11, 12, 13, 14, 15, 16, 17, 18, 35, 36, 37, 38, 39, 40] (by decide +kernel) (fun ρ α => by
  intro r4 g4 b4 r5 g5 b5 r6 g6 b6 r13 g13 b13 r14 g14 b14 r15 g15 b15 r16 g16 b16 r17 g17 b17 a1 h1 a2 h2 a9 h9 a10 h10 a11 h11 a12 h12 a13 h13 a14 h14 a15 h15 a16 h16 a17 h17 a18 h18 a35 h35 a36 h36 a37 h37 a38 h38 a39 h39 a40 h40 f0 f1 f2 f3 f4 tt
  clear f0 f2
  have e78 : PT 78 = P_ly := pe78_14 hp
  have e79 : PT 79 = P_fo := pe79_14 hp
  have e193 : PT 193 = P_odY := pe193_14 hp
  simp only [hF2, hFp_78, hFp_79, hFp_193, e78, e79, e193, P_ly, P_fo, P_odY, den_s, den_c, Int.add_zero, List.map_cons, List.map_nil, g4.eq, g5.eq, g6.eq, g13.eq, g14.eq, g15.eq, g16.eq, g17.eq, h1, h2, h9, h10, h11, h12, h13, h14, h15, h16, h17, h18, h35, h36, h37, h38, h39, h40] at f1 f3 f4 ⊢
  obtain ⟨x, y, h1, h2, -⟩ := f3
  exact ⟨_, h2.2.1, by ((repeat' (first | apply And.intro | intro h)) <;> first | omega | rfl | trivial | (exfalso; omega))⟩)
def w_yo_due_0_2 : VC := ((bY ++ [(0, 9), ((-2147483648), (-1)), ((-1), 54), (0, 8), (1, 10)]), [(0, [(none, 0), (none, 0)], []), (2, [(some 14, 0), (none, 0)], []), (1, [(none, 1), (none, 0)], []), (3, [(some 17, (-1)), (some 13, 0)], []), (3, [(some 13, 0), (none, 0)], []), (79, [(some 15, 0), (none, 0), (some 16, 0), (some 17, 0)], [1, 2, 35, 36, 37, 38, 39, 40]), (78, [], [1])], (193, [(none, (-2)), (some 13, 0), (some 14, 0), (some 16, 0), (some 17, 0), (some 4, 0), (some 5, 0), (some 6, 0)], [1, 2, 35, 36, 37, 38, 39, 40, 17, 18, 9, 10, 11, 12, 13, 14, 15, 16]))
set_option maxRecDepth 20000 in
theorem v_yo_due_0_2 {PT : PTy} (hp : HP14 PT) : vcOk PT w_yo_due_0_2 := vc_iv [(4, 0, 8), (5, 0, 6), (6, 0, 6), (13, 0, 9), (14, (-2147483648), (-1)), (15, (-1), 54), (16, 0, 8), (17, 1, 10)] [1, 2, 9, 10, 11, 12, 13, 14, 15, 16, 17, 18, 35, 36, 37, 38, 39, 40] (by decide +kernel) (fun ρ α => by
  intro r4 g4 b4 r5 g5 b5 r6 g6 b6 r13 g13 b13 r14 g14 b14 r15 g15 b15 r16 g16 b16 r17 g17 b17 a1 h1 a2 h2 a9 h9 a10 h10 a11 h11 a12 h12 a13 h13 a14 h14 a15 h15 a16 h16 a17 h17 a18 h18 a35 h35 a36 h36 a37 h37 a38 h38 a39 h39 a40 h40 f0 f1 f2 f3 f4 f5 f6 tt
  clear f0 f1 f2 f4
  have e78 : PT 78 = P_ly := pe78_14 hp
  have e79 : PT 79 = P_fo := pe79_14 hp
  have e193 : PT 193 = P_odY := pe193_14 hp
  simp only [hF3, hFp_78, hFp_79, hFp_193, e78, e79, e193, P_ly, P_fo, P_odY, den_s, den_c, Int.add_zero, List.map_cons, List.map_nil, g4.eq, g5.eq, g6.eq, g13.eq, g14.eq, g15.eq, g16.eq, g17.eq, h1, h2, h9, h10, h11, h12, h13, h14, h15, h16, h17, h18, h35, h36, h37, h38, h39, h40] at f3 f5 f6 ⊢
  obtain ⟨x, y, h1, h2, -⟩ := f5
  exact ⟨_, h2.2.1, by ((repeat' (first | apply And.intro | intro h)) <;> first | omega | rfl | trivial | (exfalso; omega))⟩)
def w_yo_due_0_3 : VC := ((bY ++ [(0, 9), (2, 2147483647), ((-1), 54), (0, 8), (1, 10)]), [(0, [(none, 0), (none, 0)], []), (2, [(none, 1), (some 14, 0)], []), (3, [(some 14, 0), (none, 0)], []), (1, [(none, 1), (none, 0)], []), (3, [(some 17, (-1)), (some 13, 0)], []), (3, [(some 13, 0), (none, 0)], []), (79, [(some 15, 0), (none, 0), (some 16, 0), (some 17, 0)], [1, 2, 35, 36, 37, 38, 39, 40]), (78, [], [1])], (193, [(none, (-2)), (some 13, 0), (some 14, 0), (some 16, 0), (some 17, 0), (some 4, 0), (some 5, 0), (some 6, 0)], [1, 2, 35, 36, 37, 38, 39, 40, 17, 18, 9, 10, 11, 12, 13, 14, 15, 16]))
set_option maxRecDepth 20000 in
theorem v_yo_due_0_3 {PT : PTy} (hp : HP14 PT) : vcOk PT w_yo_due_0_3 := vc_iv [(4, 0, 8), (5, 0, 6), (6, 0, 6), (13, 0, 9), (14, 2, 2147483647), (15, (-1), 54), (16, 0, 8), (17, 1, 10)] [1, 2, 9, 10, 11, 12, 13, 14, 15, 16, 17, 18, 35, 36, 37, 38, 39, 40] (by decide +kernel) (fun ρ α => by
  intro r4 g4 b4 r5 g5 b5 r6 g6 b6 r13 g13 b13 r14 g14 b14 r15 g15 b15 r16 g16 b16 r17 g17 b17 a1 h1 a2 h2 a9 h9 a10 h10 a11 h11 a12 h12 a13 h13 a14 h14 a15 h15 a16 h16 a17 h17 a18 h18 a35 h35 a36 h36 a37 h37 a38 h38 a39 h39 a40 h40 f0 f1 f2 f3 f4 f5 f6 f7 tt
  clear f0 f1 f2 f3 f5
  have e78 : PT 78 = P_ly := pe78_14 hp
  have e79 : PT 79 = P_fo := pe79_14 hp
  have e193 : PT 193 = P_odY := pe193_14 hp
  simp only [hF3, hFp_78, hFp_79, hFp_193, e78, e79, e193, P_ly, P_fo, P_odY, den_s, den_c, Int.add_zero, List.map_cons, List.map_nil, g4.eq, g5.eq, g6.eq, g13.eq, g14.eq, g15.eq, g16.eq, g17.eq, h1, h2, h9, h10, h11, h12, h13, h14, h15, h16, h17, h18, h35, h36, h37, h38, h39, h40] at f4 f6 f7 ⊢
  obtain ⟨x, y, h1, h2, -⟩ := f6
  exact ⟨_, h2.2.1, by ((repeat' (first | apply And.intro | intro h)) <;> first | omega | rfl | trivial | (exfalso; omega))⟩)
def w_yo_due_0_4 : VC := ((bY ++ [(0, 9), (0, 1), ((-1), 54), (0, 8), (1, 10), ((-2147483648), 999), (0, 8), (0, 10), (0, 11), ((-2147483648), 2147483647), ((-2147483648), 2147483647)]), [(192, [(some 18, 0), (some 13, 0), (some 14, 0), (some 19, 0), (some 20, 0), (some 4, 0), (some 5, 0), (some 6, 0)], [1, 2, 41, 42, 43, 44, 45, 46, 47, 48, 9, 10, 11, 12, 13, 14, 15, 16]), (1, [(none, 1), (none, 0)], []), (3, [(none, 1), (some 14, 0)], []), (3, [(some 14, 0), (none, 0)], []), (1, [(none, 1), (none, 0)], []), (3, [(some 17, (-1)), (some 13, 0)], []), (3, [(some 13, 0), (none, 0)], []), (79, [(some 15, 0), (none, 0), (some 16, 0), (some 17, 0)], [1, 2, 35, 36, 37, 38, 39, 40]), (78, [], [1])], (193, [(some 18, 0), (some 13, 0), (some 14, 0), (some 19, 0), (some 20, 0), (some 4, 0), (some 5, 0), (some 6, 0)], [1, 2, 41, 42, 43, 44, 45, 46, 47, 48, 9, 10, 11, 12, 13, 14, 15, 16]))
set_option maxRecDepth 20000 in
theorem v_yo_due_0_4 {PT : PTy} (hp : HP14 PT) : vcOk PT w_yo_due_0_4 := vc_iv [(4, 0, 8), (5, 0, 6), (6, 0, 6), (13, 0, 9), (14, 0, 1), (15, (-1), 54), (16, 0, 8), (17, 1, 10), (18, (-2147483648), 999), (19, 0, 8), (20, 0, 10)] [1, 2, 9, 10, 11, 12, 13, 14, 15, 16, 35, 36, 37, 38, 39, 40, 41, 42, 43, 44, 45, 46, 47, 48] (by decide +kernel) (fun ρ α => by
  intro r4 g4 b4 r5 g5 b5 r6 g6 b6 r13 g13 b13 r14 g14 b14 r15 g15 b15 r16 g16 b16 r17 g17 b17 r18 g18 b18 r19 g19 b19 r20 g20 b20 a1 h1 a2 h2 a9 h9 a10 h10 a11 h11 a12 h12 a13 h13 a14 h14 a15 h15 a16 h16 a35 h35 a36 h36 a37 h37 a38 h38 a39 h39 a40 h40 a41 h41 a42 h42 a43 h43 a44 h44 a45 h45 a46 h46 a47 h47 a48 h48 f0 f1 f2 f3 f4 f5 f6 f7 f8 tt
  clear f1 f2 f3 f4 f6
  have e78 : PT 78 = P_ly := pe78_14 hp
  have e79 : PT 79 = P_fo := pe79_14 hp
  have e192 : PT 192 = P_dyP := pe192_14 hp
  have e193 : PT 193 = P_odY := pe193_14 hp
  simp only [hF3, hFp_78, hFp_79, hFp_192, hFp_193, e78, e79, e192, e193, P_ly, P_fo, P_dyP, P_odY, den_s, den_c, Int.add_zero, List.map_cons, List.map_nil, g4.eq, g5.eq, g6.eq, g13.eq, g14.eq, g15.eq, g16.eq, g17.eq, g18.eq, g19.eq, g20.eq, h1, h2, h9, h10, h11, h12, h13, h14, h15, h16, h35, h36, h37, h38, h39, h40, h41, h42, h43, h44, h45, h46, h47, h48] at f0 f5 f7 f8 ⊢
  obtain ⟨x, y, h1, h2, -⟩ := f7
  obtain ⟨⟨⟨a, b, k1, k2⟩, hk⟩, hr⟩ := f0
  have en := nV_un h2.2.1 k2.2.1
  refine ⟨_, k2.2.1, fun h => ?_, fun h => ⟨rfl, ⟨⟨a, b, k1, k2⟩, hk⟩, hr⟩⟩
  exfalso; omega)
set_option maxRecDepth 1000000 in
theorem k_yo_due {PT : PTy} (hp : HP14 PT) : wfX c_yo_due = true ∧ xcOk PT c_yo_due := xctr (xl (k_faultOf hp.1.1.1.1.1.1.1.1.1.1.1.1) (xl (k_dueOf hp) (xl0))) c_yo_due 68 mX7_due rfl h_yo_due (by decide +kernel) (by decide +kernel) (by decide) (vcs_by [w_yo_due_0_0, w_yo_due_0_1, w_yo_due_0_2, w_yo_due_0_3, w_yo_due_0_4] (by decide +kernel) (vc (v_yo_due_0_0 hp) (vc (v_yo_due_0_1 hp) (vc (v_yo_due_0_2 hp) (vc (v_yo_due_0_3 hp) (vc (v_yo_due_0_4 hp) vn)))))) fmn
