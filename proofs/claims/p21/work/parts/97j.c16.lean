/-! ===== plans; printed by wip/gen/x ===== -/
def P_alk (l : List Int) (a : List (Int → Int)) : Prop := match l, a with
  | [n], [A, B, C, D] => ∀ i, 0 ≤ i → i < n → A i = B i ∧ C i = D i
  | _, _ => False
theorem hFp_180 {PT : PTy} {ρ : Nat → Int} {α : Nat → Int → Int} (l : List AN) (a : List Nat) : hF PT ρ α (180, l, a) = PT 180 (l.map (den ρ)) (a.map α) := rfl
def P_keI (l : List Int) (a : List (Int → Int)) : Prop := match l, a with
  | [i, w, v, d, n, m, nk, nl, nt], [so, sz, wh, gr, md, du, kd, ko, ld, lw, lm, td, tw, tm] => obS (keepQ d n m nk nl nt so sz wh gr md du kd ko ld lw lm td tw tm) i w v
  | _, _ => False
theorem hFp_181 {PT : PTy} {ρ : Nat → Int} {α : Nat → Int → Int} (l : List AN) (a : List Nat) : hF PT ρ α (181, l, a) = PT 181 (l.map (den ρ)) (a.map α) := rfl
def P_okX2 (l : List Int) (a : List (Int → Int)) : Prop := match l, a with
  | [r, d, w, n, m, nk, nl, nt], [so, sz, wh, gr, md, du, kd, ko, ld, lw, lm, td, tw, tm] => (¬ (0 ≤ d ∧ d ≤ 23 ∧ 0 ≤ w ∧ w ≤ 1) → r = -2) ∧ (0 ≤ d ∧ d ≤ 23 ∧ 0 ≤ w ∧ w ≤ 1 → ∃ b v, obS (keepQ d n m nk nl nt so sz wh gr md du kd ko ld lw lm td tw tm) m b v ∧ (w = 0 → r = b) ∧ (w = 1 → r = v))
  | _, _ => False
theorem hFp_182 {PT : PTy} {ρ : Nat → Int} {α : Nat → Int → Int} (l : List AN) (a : List Nat) : hF PT ρ α (182, l, a) = PT 182 (l.map (den ρ)) (a.map α) := rfl
def P_kyI (l : List Int) (a : List (Int → Int)) : Prop := match l, a with
  | [i, w, v, d, n, m, nk, nl, nt], [so, sz, wh, gr, md, du, kd, ko, ld, lw, lm, td, tw, tm] => obS (keepY d n m nk nl nt so sz wh gr md du kd ko ld lw lm td tw tm) i w v
  | _, _ => False
theorem hFp_183 {PT : PTy} {ρ : Nat → Int} {α : Nat → Int → Int} (l : List AN) (a : List Nat) : hF PT ρ α (183, l, a) = PT 183 (l.map (den ρ)) (a.map α) := rfl
def P_kyP (l : List Int) (a : List (Int → Int)) : Prop := match l, a with
  | [r, d, w, n, m, nk, nl, nt], [L, T, so, sz, wh, gr, md, du, kd, ko, ld, lw, lm, td, tw, tm] => (∃ a b, rdP a n (L 0) T so sz ∧ rdV b m (L 1) (sh T) wh gr md du) ∧ ∃ b v, obS (keepY d n m nk nl nt so sz wh gr md du kd ko ld lw lm td tw tm) m b v ∧ (w = 0 → r = b) ∧ (w = 1 → r = v)
  | _, _ => False
theorem hFp_184 {PT : PTy} {ρ : Nat → Int} {α : Nat → Int → Int} (l : List AN) (a : List Nat) : hF PT ρ α (184, l, a) = PT 184 (l.map (den ρ)) (a.map α) := rfl
def P_okY2 (l : List Int) (a : List (Int → Int)) : Prop := match l, a with
  | [r, d, w, n, m, nk, nl, nt], [L, T, so, sz, wh, gr, md, du, kd, ko, ld, lw, lm, td, tw, tm] => (¬ (0 ≤ d ∧ d ≤ 23 ∧ 0 ≤ w ∧ w ≤ 1) → r = -2) ∧ (0 ≤ d ∧ d ≤ 23 ∧ 0 ≤ w ∧ w ≤ 1 → (∃ a b, rdP a n (L 0) T so sz ∧ rdV b m (L 1) (sh T) wh gr md du) ∧ ∃ b v, obS (keepY d n m nk nl nt so sz wh gr md du kd ko ld lw lm td tw tm) m b v ∧ (w = 0 → r = b) ∧ (w = 1 → r = v))
  | _, _ => False
theorem hFp_185 {PT : PTy} {ρ : Nat → Int} {α : Nat → Int → Int} (l : List AN) (a : List Nat) : hF PT ρ α (185, l, a) = PT 185 (l.map (den ρ)) (a.map α) := rfl
def P_al (l : List Int) (a : List (Int → Int)) : Prop := match l, a with
  | [n], [A, B] => ∀ i, 0 ≤ i → i < n → A i = B i
  | _, _ => False
theorem hFp_186 {PT : PTy} {ρ : Nat → Int} {α : Nat → Int → Int} (l : List AN) (a : List Nat) : hF PT ρ α (186, l, a) = PT 186 (l.map (den ρ)) (a.map α) := rfl
def P_bu (l : List Int) (a : List (Int → Int)) : Prop := match l, a with
  | [k], [A, B] => ∀ i, ¬ i = k → A i = B i
  | _, _ => False
theorem hFp_187 {PT : PTy} {ρ : Nat → Int} {α : Nat → Int → Int} (l : List AN) (a : List Nat) : hF PT ρ α (187, l, a) = PT 187 (l.map (den ρ)) (a.map α) := rfl
def HP13 (PT : PTy) : Prop := HP12 PT ∧ (PT 180 = P_alk ∧ PT 181 = P_keI ∧ PT 182 = P_okX2 ∧ PT 183 = P_kyI ∧ PT 184 = P_kyP ∧ PT 185 = P_okY2 ∧ PT 186 = P_al ∧ PT 187 = P_bu ∧ True)
def c_xo_keep : XC := (62, 4, (bT ++ [((-2147483648), 2147483647), ((-2147483648), 2147483647)]), [.inr (.inl 0), .inl (some 14, 0), .inl (some 15, 0)], (gX 999), [], [((bT ++ [((-2147483648), 2147483647), ((-2147483648), 2147483647), ((-2), 2147483647), (0, 49), (0, 49), ((-2147483648), 2147483647), ((-2147483648), 2147483647)]), some (.inl (some 16, 0)), (hst (gX 999) [(5, .inr (.inr (.inr (0, [.inr (.inl 6), .inr (.inl 9), .inr (.inl 14), .inr (.inl 18), .inr (.inl 22), .inr (.inl 26), .inr (.inl 27), .inr (.inl 28), .inr (.inl 29), .inr (.inl 30), .inl (some 17, 0), .inl (some 18, 0), .inl (some 19, 0), .inl (some 20, 0), .inr (.inl 999)]))))]), (ansT 58 [(15, 58), (16, 59), (17, 60), (26, 61), (27, 62), (28, 63), (29, 64), (30, 65)]), 66, [(182, [(some 16, 0), (some 14, 0), (some 15, 0), (some 2, 0), (some 3, 0), (some 4, 0), (some 5, 0), (some 6, 0)], [7, 8, 10, 11, 12, 13, 15, 16, 19, 20, 21, 23, 24, 25]), (186, [(some 4, 0)], [58, 15]), (186, [(some 4, 0)], [59, 16])])])
def h_xo_keep : List XH := [(26, (bT ++ [(0, 23), (0, 1), ((-1), 9), ((-1), 2147483647), (0, 10), (0, 49), (0, 49), ((-2147483648), 2147483647), ((-2147483648), 2147483647)]), [some (.inr (.inl 0)), some (.inl (some 14, 0)), some (.inl (some 15, 0)), some (.inl (some 16, 0)), some (.inl (some 17, 0)), some (.inl (some 18, 0)), none], (hst (gX 999) [(5, .inr (.inr (.inr (0, [.inr (.inl 6), .inr (.inl 9), .inr (.inl 14), .inr (.inl 18), .inr (.inl 22), .inr (.inl 26), .inr (.inl 27), .inr (.inl 28), .inr (.inl 29), .inr (.inl 30), .inl (some 19, 0), .inl (some 20, 0), .inl (some 21, 0), .inl (some 22, 0), .inr (.inl 999)]))))]), (ansT 58 [(15, 58), (16, 59), (17, 60), (26, 61), (27, 62), (28, 63), (29, 64), (30, 65)]), 66, [(180, [(some 4, 0)], [58, 15, 59, 16]), (181, [(some 18, 0), (some 16, 0), (some 17, 0), (some 14, 0), (some 2, 0), (some 3, 0), (some 4, 0), (some 5, 0), (some 6, 0)], [7, 8, 10, 11, 12, 13, 15, 16, 19, 20, 21, 23, 24, 25]), (3, [(some 3, 0), (some 18, 0)], []), (3, [(some 14, 0), (none, 0)], []), (3, [(none, 23), (some 14, 0)], []), (3, [(some 15, 0), (none, 0)], []), (3, [(none, 1), (some 15, 0)], [])], [(true, (none, 1)), (true, (some 18, 0))])]
def w_xo_keep_0_0 : VC := ((bT ++ [((-2147483648), (-1)), ((-2147483648), 2147483647)]), [(0, [(none, 0), (none, 0)], []), (2, [(some 14, 0), (none, 0)], [])], (182, [(none, (-2)), (some 14, 0), (some 15, 0), (some 2, 0), (some 3, 0), (some 4, 0), (some 5, 0), (some 6, 0)], [7, 8, 10, 11, 12, 13, 15, 16, 19, 20, 21, 23, 24, 25]))
theorem pe182_13 {PT : PTy} (hp : HP13 PT) : PT 182 = P_okX2 := hp.2.2.2.1
set_option maxRecDepth 20000 in
theorem v_xo_keep_0_0 {PT : PTy} (hp : HP13 PT) : vcOk PT w_xo_keep_0_0 := vc_iv [(2, 0, 8), (3, 0, 10), (4, 0, 8), (5, 0, 6), (6, 0, 6), (14, (-2147483648), (-1)), (15, (-2147483648), 2147483647)] [7, 8, 10, 11, 12, 13, 15, 16, 19, 20, 21, 23, 24, 25] (by decide +kernel) (fun ρ α => by
  intro r2 g2 b2 r3 g3 b3 r4 g4 b4 r5 g5 b5 r6 g6 b6 r14 g14 b14 r15 g15 b15 a7 h7 a8 h8 a10 h10 a11 h11 a12 h12 a13 h13 a15 h15 a16 h16 a19 h19 a20 h20 a21 h21 a23 h23 a24 h24 a25 h25 f0 f1 tt
  clear f0 f1
  have e182 : PT 182 = P_okX2 := pe182_13 hp
  simp only [hFp_182, e182, P_okX2, den_s, den_c, Int.add_zero, List.map_cons, List.map_nil, g2.eq, g3.eq, g4.eq, g5.eq, g6.eq, g14.eq, g15.eq, h7, h8, h10, h11, h12, h13, h15, h16, h19, h20, h21, h23, h24, h25] at ⊢
  ((repeat' (first | apply And.intro | intro h)) <;> first | omega | rfl | trivial | (exfalso; omega)))
def w_xo_keep_0_1 : VC := ((bT ++ [((-2147483648), (-1)), ((-2147483648), 2147483647)]), [(0, [(none, 0), (none, 0)], []), (2, [(some 14, 0), (none, 0)], [])], (186, [(some 4, 0)], [15, 15]))
theorem pe186_13 {PT : PTy} (hp : HP13 PT) : PT 186 = P_al := hp.2.2.2.2.2.2.2.1
set_option maxRecDepth 20000 in
theorem v_xo_keep_0_1 {PT : PTy} (hp : HP13 PT) : vcOk PT w_xo_keep_0_1 := vc_iv [(4, 0, 8)] [15] (by decide +kernel) (fun ρ α => by
  intro r4 g4 b4 a15 h15 f0 f1 tt
  clear f0 f1
  have e186 : PT 186 = P_al := pe186_13 hp
  simp only [hFp_186, e186, P_al, den_s, den_c, Int.add_zero, List.map_cons, List.map_nil, g4.eq, h15] at ⊢
  exact fun i h1 h2 => (by first | rfl | trivial))
def w_xo_keep_0_2 : VC := ((bT ++ [((-2147483648), (-1)), ((-2147483648), 2147483647)]), [(0, [(none, 0), (none, 0)], []), (2, [(some 14, 0), (none, 0)], [])], (186, [(some 4, 0)], [16, 16]))
set_option maxRecDepth 20000 in
theorem v_xo_keep_0_2 {PT : PTy} (hp : HP13 PT) : vcOk PT w_xo_keep_0_2 := vc_iv [(4, 0, 8)] [16] (by decide +kernel) (fun ρ α => by
  intro r4 g4 b4 a16 h16 f0 f1 tt
  clear f0 f1
  have e186 : PT 186 = P_al := pe186_13 hp
  simp only [hFp_186, e186, P_al, den_s, den_c, Int.add_zero, List.map_cons, List.map_nil, g4.eq, h16] at ⊢
  exact fun i h1 h2 => (by first | rfl | trivial))
def w_xo_keep_0_3 : VC := ((bT ++ [(24, 2147483647), ((-2147483648), 2147483647)]), [(0, [(none, 0), (none, 0)], []), (2, [(none, 23), (some 14, 0)], []), (3, [(some 14, 0), (none, 0)], [])], (182, [(none, (-2)), (some 14, 0), (some 15, 0), (some 2, 0), (some 3, 0), (some 4, 0), (some 5, 0), (some 6, 0)], [7, 8, 10, 11, 12, 13, 15, 16, 19, 20, 21, 23, 24, 25]))
set_option maxRecDepth 20000 in
theorem v_xo_keep_0_3 {PT : PTy} (hp : HP13 PT) : vcOk PT w_xo_keep_0_3 := vc_iv [(2, 0, 8), (3, 0, 10), (4, 0, 8), (5, 0, 6), (6, 0, 6), (14, 24, 2147483647), (15, (-2147483648), 2147483647)] [7, 8, 10, 11, 12, 13, 15, 16, 19, 20, 21, 23, 24, 25] (by decide +kernel) (fun ρ α => by
  intro r2 g2 b2 r3 g3 b3 r4 g4 b4 r5 g5 b5 r6 g6 b6 r14 g14 b14 r15 g15 b15 a7 h7 a8 h8 a10 h10 a11 h11 a12 h12 a13 h13 a15 h15 a16 h16 a19 h19 a20 h20 a21 h21 a23 h23 a24 h24 a25 h25 f0 f1 f2 tt
  clear f0 f1 f2
  have e182 : PT 182 = P_okX2 := pe182_13 hp
  simp only [hFp_182, e182, P_okX2, den_s, den_c, Int.add_zero, List.map_cons, List.map_nil, g2.eq, g3.eq, g4.eq, g5.eq, g6.eq, g14.eq, g15.eq, h7, h8, h10, h11, h12, h13, h15, h16, h19, h20, h21, h23, h24, h25] at ⊢
  ((repeat' (first | apply And.intro | intro h)) <;> first | omega | rfl | trivial | (exfalso; omega)))
def w_xo_keep_0_4 : VC := ((bT ++ [(24, 2147483647), ((-2147483648), 2147483647)]), [(0, [(none, 0), (none, 0)], []), (2, [(none, 23), (some 14, 0)], []), (3, [(some 14, 0), (none, 0)], [])], (186, [(some 4, 0)], [15, 15]))
set_option maxRecDepth 20000 in
theorem v_xo_keep_0_4 {PT : PTy} (hp : HP13 PT) : vcOk PT w_xo_keep_0_4 := vc_iv [(4, 0, 8)] [15] (by decide +kernel) (fun ρ α => by
  intro r4 g4 b4 a15 h15 f0 f1 f2 tt
  clear f0 f1 f2
  have e186 : PT 186 = P_al := pe186_13 hp
  simp only [hFp_186, e186, P_al, den_s, den_c, Int.add_zero, List.map_cons, List.map_nil, g4.eq, h15] at ⊢
  exact fun i h1 h2 => (by first | rfl | trivial))
def w_xo_keep_0_5 : VC := ((bT ++ [(24, 2147483647), ((-2147483648), 2147483647)]), [(0, [(none, 0), (none, 0)], []), (2, [(none, 23), (some 14, 0)], []), (3, [(some 14, 0), (none, 0)], [])], (186, [(some 4, 0)], [16, 16]))
set_option maxRecDepth 20000 in
theorem v_xo_keep_0_5 {PT : PTy} (hp : HP13 PT) : vcOk PT w_xo_keep_0_5 := vc_iv [(4, 0, 8)] [16] (by decide +kernel) (fun ρ α => by
  intro r4 g4 b4 a16 h16 f0 f1 f2 tt
  clear f0 f1 f2
  have e186 : PT 186 = P_al := pe186_13 hp
  simp only [hFp_186, e186, P_al, den_s, den_c, Int.add_zero, List.map_cons, List.map_nil, g4.eq, h16] at ⊢
  exact fun i h1 h2 => (by first | rfl | trivial))
def w_xo_keep_0_6 : VC := ((bT ++ [(0, 23), ((-2147483648), (-1))]), [(0, [(none, 0), (none, 0)], []), (2, [(some 15, 0), (none, 0)], []), (1, [(none, 1), (none, 0)], []), (3, [(none, 23), (some 14, 0)], []), (3, [(some 14, 0), (none, 0)], [])], (182, [(none, (-2)), (some 14, 0), (some 15, 0), (some 2, 0), (some 3, 0), (some 4, 0), (some 5, 0), (some 6, 0)], [7, 8, 10, 11, 12, 13, 15, 16, 19, 20, 21, 23, 24, 25]))
set_option maxRecDepth 20000 in
theorem v_xo_keep_0_6 {PT : PTy} (hp : HP13 PT) : vcOk PT w_xo_keep_0_6 := vc_iv [(2, 0, 8), (3, 0, 10), (4, 0, 8), (5, 0, 6), (6, 0, 6), (14, 0, 23), (15, (-2147483648), (-1))] [7, 8, 10, 11, 12, 13, 15, 16, 19, 20, 21, 23, 24, 25] (by decide +kernel) (fun ρ α => by
  intro r2 g2 b2 r3 g3 b3 r4 g4 b4 r5 g5 b5 r6 g6 b6 r14 g14 b14 r15 g15 b15 a7 h7 a8 h8 a10 h10 a11 h11 a12 h12 a13 h13 a15 h15 a16 h16 a19 h19 a20 h20 a21 h21 a23 h23 a24 h24 a25 h25 f0 f1 f2 f3 f4 tt
  clear f0 f1 f2 f3 f4
  have e182 : PT 182 = P_okX2 := pe182_13 hp
  simp only [hFp_182, e182, P_okX2, den_s, den_c, Int.add_zero, List.map_cons, List.map_nil, g2.eq, g3.eq, g4.eq, g5.eq, g6.eq, g14.eq, g15.eq, h7, h8, h10, h11, h12, h13, h15, h16, h19, h20, h21, h23, h24, h25] at ⊢
  ((repeat' (first | apply And.intro | intro h)) <;> first | omega | rfl | trivial | (exfalso; omega)))
def w_xo_keep_0_7 : VC := ((bT ++ [(0, 23), ((-2147483648), (-1))]), [(0, [(none, 0), (none, 0)], []), (2, [(some 15, 0), (none, 0)], []), (1, [(none, 1), (none, 0)], []), (3, [(none, 23), (some 14, 0)], []), (3, [(some 14, 0), (none, 0)], [])], (186, [(some 4, 0)], [15, 15]))
set_option maxRecDepth 20000 in
theorem v_xo_keep_0_7 {PT : PTy} (hp : HP13 PT) : vcOk PT w_xo_keep_0_7 := vc_iv [(4, 0, 8)] [15] (by decide +kernel) (fun ρ α => by
  intro r4 g4 b4 a15 h15 f0 f1 f2 f3 f4 tt
  clear f0 f1 f2 f3 f4
  have e186 : PT 186 = P_al := pe186_13 hp
  simp only [hFp_186, e186, P_al, den_s, den_c, Int.add_zero, List.map_cons, List.map_nil, g4.eq, h15] at ⊢
  exact fun i h1 h2 => (by first | rfl | trivial))
def w_xo_keep_0_8 : VC := ((bT ++ [(0, 23), ((-2147483648), (-1))]), [(0, [(none, 0), (none, 0)], []), (2, [(some 15, 0), (none, 0)], []), (1, [(none, 1), (none, 0)], []), (3, [(none, 23), (some 14, 0)], []), (3, [(some 14, 0), (none, 0)], [])], (186, [(some 4, 0)], [16, 16]))
set_option maxRecDepth 20000 in
theorem v_xo_keep_0_8 {PT : PTy} (hp : HP13 PT) : vcOk PT w_xo_keep_0_8 := vc_iv [(4, 0, 8)] [16] (by decide +kernel) (fun ρ α => by
  intro r4 g4 b4 a16 h16 f0 f1 f2 f3 f4 tt
  clear f0 f1 f2 f3 f4
  have e186 : PT 186 = P_al := pe186_13 hp
  simp only [hFp_186, e186, P_al, den_s, den_c, Int.add_zero, List.map_cons, List.map_nil, g4.eq, h16] at ⊢
  exact fun i h1 h2 => (by first | rfl | trivial))
def w_xo_keep_0_9 : VC := ((bT ++ [(0, 23), (2, 2147483647)]), [(0, [(none, 0), (none, 0)], []), (2, [(none, 1), (some 15, 0)], []), (3, [(some 15, 0), (none, 0)], []), (1, [(none, 1), (none, 0)], []), (3, [(none, 23), (some 14, 0)], []), (3, [(some 14, 0), (none, 0)], [])], (182, [(none, (-2)), (some 14, 0), (some 15, 0), (some 2, 0), (some 3, 0), (some 4, 0), (some 5, 0), (some 6, 0)], [7, 8, 10, 11, 12, 13, 15, 16, 19, 20, 21, 23, 24, 25]))
set_option maxRecDepth 20000 in
theorem v_xo_keep_0_9 {PT : PTy} (hp : HP13 PT) : vcOk PT w_xo_keep_0_9 := vc_iv [(2, 0, 8), (3, 0, 10), (4, 0, 8), (5, 0, 6), (6, 0, 6), (14, 0, 23), (15, 2, 2147483647)] [7, 8, 10, 11, 12, 13, 15, 16, 19, 20, 21, 23, 24, 25] (by decide +kernel) (fun ρ α => by
  intro r2 g2 b2 r3 g3 b3 r4 g4 b4 r5 g5 b5 r6 g6 b6 r14 g14 b14 r15 g15 b15 a7 h7 a8 h8 a10 h10 a11 h11 a12 h12 a13 h13 a15 h15 a16 h16 a19 h19 a20 h20 a21 h21 a23 h23 a24 h24 a25 h25 f0 f1 f2 f3 f4 f5 tt
  clear f0 f1 f2 f3 f4 f5
  have e182 : PT 182 = P_okX2 := pe182_13 hp
  simp only [hFp_182, e182, P_okX2, den_s, den_c, Int.add_zero, List.map_cons, List.map_nil, g2.eq, g3.eq, g4.eq, g5.eq, g6.eq, g14.eq, g15.eq, h7, h8, h10, h11, h12, h13, h15, h16, h19, h20, h21, h23, h24, h25] at ⊢
  ((repeat' (first | apply And.intro | intro h)) <;> first | omega | rfl | trivial | (exfalso; omega)))
def w_xo_keep_0_10 : VC := ((bT ++ [(0, 23), (2, 2147483647)]), [(0, [(none, 0), (none, 0)], []), (2, [(none, 1), (some 15, 0)], []), (3, [(some 15, 0), (none, 0)], []), (1, [(none, 1), (none, 0)], []), (3, [(none, 23), (some 14, 0)], []), (3, [(some 14, 0), (none, 0)], [])], (186, [(some 4, 0)], [15, 15]))
set_option maxRecDepth 20000 in
theorem v_xo_keep_0_10 {PT : PTy} (hp : HP13 PT) : vcOk PT w_xo_keep_0_10 := vc_iv [(4, 0, 8)] [15] (by decide +kernel) (fun ρ α => by
  intro r4 g4 b4 a15 h15 f0 f1 f2 f3 f4 f5 tt
  clear f0 f1 f2 f3 f4 f5
  have e186 : PT 186 = P_al := pe186_13 hp
  simp only [hFp_186, e186, P_al, den_s, den_c, Int.add_zero, List.map_cons, List.map_nil, g4.eq, h15] at ⊢
  exact fun i h1 h2 => (by first | rfl | trivial))
def w_xo_keep_0_11 : VC := ((bT ++ [(0, 23), (2, 2147483647)]), [(0, [(none, 0), (none, 0)], []), (2, [(none, 1), (some 15, 0)], []), (3, [(some 15, 0), (none, 0)], []), (1, [(none, 1), (none, 0)], []), (3, [(none, 23), (some 14, 0)], []), (3, [(some 14, 0), (none, 0)], [])], (186, [(some 4, 0)], [16, 16]))
set_option maxRecDepth 20000 in
theorem v_xo_keep_0_11 {PT : PTy} (hp : HP13 PT) : vcOk PT w_xo_keep_0_11 := vc_iv [(4, 0, 8)] [16] (by decide +kernel) (fun ρ α => by
  intro r4 g4 b4 a16 h16 f0 f1 f2 f3 f4 f5 tt
  clear f0 f1 f2 f3 f4 f5
  have e186 : PT 186 = P_al := pe186_13 hp
  simp only [hFp_186, e186, P_al, den_s, den_c, Int.add_zero, List.map_cons, List.map_nil, g4.eq, h16] at ⊢
  exact fun i h1 h2 => (by first | rfl | trivial))
def w_xo_keep_0_12 : VC := ((bT ++ [(0, 23), (0, 1)]), [(1, [(none, 1), (none, 0)], []), (3, [(none, 1), (some 15, 0)], []), (3, [(some 15, 0), (none, 0)], []), (1, [(none, 1), (none, 0)], []), (3, [(none, 23), (some 14, 0)], []), (3, [(some 14, 0), (none, 0)], [])], (180, [(some 4, 0)], [15, 15, 16, 16]))
theorem pe180_13 {PT : PTy} (hp : HP13 PT) : PT 180 = P_alk := hp.2.1
set_option maxRecDepth 20000 in
theorem v_xo_keep_0_12 {PT : PTy} (hp : HP13 PT) : vcOk PT w_xo_keep_0_12 := vc_in [(4, 0, 8)] (by decide +kernel) (fun ρ α => by
  intro b4 f0 f1 f2 f3 f4 f5 tt
  clear f0 f1 f2 f3 f4 f5
  have e180 : PT 180 = P_alk := pe180_13 hp
  simp only [hFp_180, e180, P_alk, den_s, den_c, Int.add_zero, List.map_cons, List.map_nil] at ⊢
  exact fun i h1 h2 => (by first | exact ⟨rfl, rfl⟩ | exact ⟨trivial, trivial⟩ | trivial))
def w_xo_keep_0_13 : VC := ((bT ++ [(0, 23), (0, 1)]), [(1, [(none, 1), (none, 0)], []), (3, [(none, 1), (some 15, 0)], []), (3, [(some 15, 0), (none, 0)], []), (1, [(none, 1), (none, 0)], []), (3, [(none, 23), (some 14, 0)], []), (3, [(some 14, 0), (none, 0)], [])], (181, [(none, 0), (none, (-1)), (none, (-1)), (some 14, 0), (some 2, 0), (some 3, 0), (some 4, 0), (some 5, 0), (some 6, 0)], [7, 8, 10, 11, 12, 13, 15, 16, 19, 20, 21, 23, 24, 25]))
theorem pe181_13 {PT : PTy} (hp : HP13 PT) : PT 181 = P_keI := hp.2.2.1
set_option maxRecDepth 20000 in
theorem v_xo_keep_0_13 {PT : PTy} (hp : HP13 PT) : vcOk PT w_xo_keep_0_13 := vc_in [(2, 0, 8), (3, 0, 10), (4, 0, 8), (5, 0, 6), (6, 0, 6), (14, 0, 23)] (by decide +kernel) (fun ρ α => by
  intro b2 b3 b4 b5 b6 b14 f0 f1 f2 f3 f4 f5 tt
  clear f0 f1 f2 f3 f4 f5
  have e181 : PT 181 = P_keI := pe181_13 hp
  simp only [hFp_181, e181, P_keI, den_s, den_c, Int.add_zero, List.map_cons, List.map_nil] at ⊢
  exact obS_z)
def w_xo_keep_0_14 : VC := ((bT ++ [(0, 23), (0, 1)]), [(1, [(none, 1), (none, 0)], []), (3, [(none, 1), (some 15, 0)], []), (3, [(some 15, 0), (none, 0)], []), (1, [(none, 1), (none, 0)], []), (3, [(none, 23), (some 14, 0)], []), (3, [(some 14, 0), (none, 0)], [])], (3, [(some 3, 0), (none, 0)], []))
set_option maxRecDepth 20000 in
theorem v_xo_keep_0_14 {PT : PTy} (hp : HP13 PT) : vcOk PT w_xo_keep_0_14 := vc_iv [(3, 0, 10)] [] (by decide +kernel) (fun ρ α => by
  intro r3 g3 b3 f0 f1 f2 f3 f4 f5 tt
  clear f0 f1 f2 f3 f4 f5
  simp only [hF3, den_s, den_c, Int.add_zero, List.map_cons, List.map_nil, g3.eq] at ⊢
  omega)
def w_xo_keep_1_0 : VC := ((bT ++ [(0, 23), (1, 1), ((-1), 9), ((-1), 2147483647), (0, 10), (0, 49), (0, 49), ((-2147483648), 2147483647), ((-2147483648), 2147483647)]), [(1, [(some 15, 0), (none, 0)], []), (3, [(some 18, 0), (some 3, 0)], []), (180, [(some 4, 0)], [58, 15, 59, 16]), (181, [(some 18, 0), (some 16, 0), (some 17, 0), (some 14, 0), (some 2, 0), (some 3, 0), (some 4, 0), (some 5, 0), (some 6, 0)], [7, 8, 10, 11, 12, 13, 15, 16, 19, 20, 21, 23, 24, 25]), (3, [(some 3, 0), (some 18, 0)], []), (3, [(some 14, 0), (none, 0)], []), (3, [(none, 23), (some 14, 0)], []), (3, [(some 15, 0), (none, 0)], []), (3, [(none, 1), (some 15, 0)], [])], (182, [(some 17, 0), (some 14, 0), (some 15, 0), (some 2, 0), (some 3, 0), (some 4, 0), (some 5, 0), (some 6, 0)], [7, 8, 10, 11, 12, 13, 15, 16, 19, 20, 21, 23, 24, 25]))
set_option maxRecDepth 20000 in
theorem v_xo_keep_1_0 {PT : PTy} (hp : HP13 PT) : vcOk PT w_xo_keep_1_0 := vc_iv [(2, 0, 8), (3, 0, 10), (4, 0, 8), (5, 0, 6), (6, 0, 6), (14, 0, 23), (15, 1, 1), (16, (-1), 9), (17, (-1), 2147483647), (18, 0, 10)] [7, 8, 10, 11, 12, 13, 15, 16, 19, 20, 21, 23, 24, 25, 58, 59] (by decide +kernel) (fun ρ α => by
  intro r2 g2 b2 r3 g3 b3 r4 g4 b4 r5 g5 b5 r6 g6 b6 r14 g14 b14 r15 g15 b15 r16 g16 b16 r17 g17 b17 r18 g18 b18 a7 h7 a8 h8 a10 h10 a11 h11 a12 h12 a13 h13 a15 h15 a16 h16 a19 h19 a20 h20 a21 h21 a23 h23 a24 h24 a25 h25 a58 h58 a59 h59 f0 f1 f2 f3 f4 f5 f6 f7 f8 tt
  clear f0 f5 f6 f7 f8
  have e180 : PT 180 = P_alk := pe180_13 hp
  have e181 : PT 181 = P_keI := pe181_13 hp
  have e182 : PT 182 = P_okX2 := pe182_13 hp
  simp only [hF3, hFp_180, hFp_181, hFp_182, e180, e181, e182, P_alk, P_keI, P_okX2, den_s, den_c, Int.add_zero, List.map_cons, List.map_nil, g2.eq, g3.eq, g4.eq, g5.eq, g6.eq, g14.eq, g15.eq, g16.eq, g17.eq, g18.eq, h7, h8, h10, h11, h12, h13, h15, h16, h19, h20, h21, h23, h24, h25, h58, h59] at f1 f2 f3 f4 ⊢
  have hh := f3
  rw [show r18 = r3 by omega] at hh
  refine ⟨fun h => by exfalso; omega, fun h => ⟨_, _, hh, ?_, ?_⟩⟩
  all_goals (intro q; first | rfl | (exfalso; omega)))
def w_xo_keep_1_1 : VC := ((bT ++ [(0, 23), (1, 1), ((-1), 9), ((-1), 2147483647), (0, 10), (0, 49), (0, 49), ((-2147483648), 2147483647), ((-2147483648), 2147483647)]), [(1, [(some 15, 0), (none, 0)], []), (3, [(some 18, 0), (some 3, 0)], []), (180, [(some 4, 0)], [58, 15, 59, 16]), (181, [(some 18, 0), (some 16, 0), (some 17, 0), (some 14, 0), (some 2, 0), (some 3, 0), (some 4, 0), (some 5, 0), (some 6, 0)], [7, 8, 10, 11, 12, 13, 15, 16, 19, 20, 21, 23, 24, 25]), (3, [(some 3, 0), (some 18, 0)], []), (3, [(some 14, 0), (none, 0)], []), (3, [(none, 23), (some 14, 0)], []), (3, [(some 15, 0), (none, 0)], []), (3, [(none, 1), (some 15, 0)], [])], (186, [(some 4, 0)], [58, 15]))
set_option maxRecDepth 20000 in
theorem v_xo_keep_1_1 {PT : PTy} (hp : HP13 PT) : vcOk PT w_xo_keep_1_1 := vc_iv [(2, 0, 8), (3, 0, 10), (4, 0, 8), (5, 0, 6), (6, 0, 6), (14, 0, 23), (16, (-1), 9), (17, (-1), 2147483647), (18, 0, 10)] [7, 8, 10, 11, 12, 13, 15, 16, 19, 20, 21, 23, 24, 25, 58, 59] (by decide +kernel) (fun ρ α => by
  intro r2 g2 b2 r3 g3 b3 r4 g4 b4 r5 g5 b5 r6 g6 b6 r14 g14 b14 r16 g16 b16 r17 g17 b17 r18 g18 b18 a7 h7 a8 h8 a10 h10 a11 h11 a12 h12 a13 h13 a15 h15 a16 h16 a19 h19 a20 h20 a21 h21 a23 h23 a24 h24 a25 h25 a58 h58 a59 h59 f0 f1 f2 f3 f4 f5 f6 f7 f8 tt
  clear f0 f5 f6 f7 f8
  have e180 : PT 180 = P_alk := pe180_13 hp
  have e181 : PT 181 = P_keI := pe181_13 hp
  have e186 : PT 186 = P_al := pe186_13 hp
  simp only [hF3, hFp_180, hFp_181, hFp_186, e180, e181, e186, P_alk, P_keI, P_al, den_s, den_c, Int.add_zero, List.map_cons, List.map_nil, g2.eq, g3.eq, g4.eq, g5.eq, g6.eq, g14.eq, g16.eq, g17.eq, g18.eq, h7, h8, h10, h11, h12, h13, h15, h16, h19, h20, h21, h23, h24, h25, h58, h59] at f1 f2 f3 f4 ⊢
  exact fun i h1 h2 => (f2 i h1 h2).1)
def w_xo_keep_1_2 : VC := ((bT ++ [(0, 23), (1, 1), ((-1), 9), ((-1), 2147483647), (0, 10), (0, 49), (0, 49), ((-2147483648), 2147483647), ((-2147483648), 2147483647)]), [(1, [(some 15, 0), (none, 0)], []), (3, [(some 18, 0), (some 3, 0)], []), (180, [(some 4, 0)], [58, 15, 59, 16]), (181, [(some 18, 0), (some 16, 0), (some 17, 0), (some 14, 0), (some 2, 0), (some 3, 0), (some 4, 0), (some 5, 0), (some 6, 0)], [7, 8, 10, 11, 12, 13, 15, 16, 19, 20, 21, 23, 24, 25]), (3, [(some 3, 0), (some 18, 0)], []), (3, [(some 14, 0), (none, 0)], []), (3, [(none, 23), (some 14, 0)], []), (3, [(some 15, 0), (none, 0)], []), (3, [(none, 1), (some 15, 0)], [])], (186, [(some 4, 0)], [59, 16]))
set_option maxRecDepth 20000 in
theorem v_xo_keep_1_2 {PT : PTy} (hp : HP13 PT) : vcOk PT w_xo_keep_1_2 := vc_iv [(2, 0, 8), (3, 0, 10), (4, 0, 8), (5, 0, 6), (6, 0, 6), (14, 0, 23), (16, (-1), 9), (17, (-1), 2147483647), (18, 0, 10)] [7, 8, 10, 11, 12, 13, 15, 16, 19, 20, 21, 23, 24, 25, 58, 59] (by decide +kernel) (fun ρ α => by
  intro r2 g2 b2 r3 g3 b3 r4 g4 b4 r5 g5 b5 r6 g6 b6 r14 g14 b14 r16 g16 b16 r17 g17 b17 r18 g18 b18 a7 h7 a8 h8 a10 h10 a11 h11 a12 h12 a13 h13 a15 h15 a16 h16 a19 h19 a20 h20 a21 h21 a23 h23 a24 h24 a25 h25 a58 h58 a59 h59 f0 f1 f2 f3 f4 f5 f6 f7 f8 tt
  clear f0 f5 f6 f7 f8
  have e180 : PT 180 = P_alk := pe180_13 hp
  have e181 : PT 181 = P_keI := pe181_13 hp
  have e186 : PT 186 = P_al := pe186_13 hp
  simp only [hF3, hFp_180, hFp_181, hFp_186, e180, e181, e186, P_alk, P_keI, P_al, den_s, den_c, Int.add_zero, List.map_cons, List.map_nil, g2.eq, g3.eq, g4.eq, g5.eq, g6.eq, g14.eq, g16.eq, g17.eq, g18.eq, h7, h8, h10, h11, h12, h13, h15, h16, h19, h20, h21, h23, h24, h25, h58, h59] at f1 f2 f3 f4 ⊢
  exact fun i h1 h2 => (f2 i h1 h2).2)
def w_xo_keep_1_3 : VC := ((bT ++ [(0, 23), (0, 0), ((-1), 9), ((-1), 2147483647), (0, 10), (0, 49), (0, 49), ((-2147483648), 2147483647), ((-2147483648), 2147483647)]), [(0, [(some 15, 0), (none, 0)], []), (3, [(some 18, 0), (some 3, 0)], []), (180, [(some 4, 0)], [58, 15, 59, 16]), (181, [(some 18, 0), (some 16, 0), (some 17, 0), (some 14, 0), (some 2, 0), (some 3, 0), (some 4, 0), (some 5, 0), (some 6, 0)], [7, 8, 10, 11, 12, 13, 15, 16, 19, 20, 21, 23, 24, 25]), (3, [(some 3, 0), (some 18, 0)], []), (3, [(some 14, 0), (none, 0)], []), (3, [(none, 23), (some 14, 0)], []), (3, [(some 15, 0), (none, 0)], []), (3, [(none, 1), (some 15, 0)], [])], (182, [(some 16, 0), (some 14, 0), (some 15, 0), (some 2, 0), (some 3, 0), (some 4, 0), (some 5, 0), (some 6, 0)], [7, 8, 10, 11, 12, 13, 15, 16, 19, 20, 21, 23, 24, 25]))
set_option maxRecDepth 20000 in
theorem v_xo_keep_1_3 {PT : PTy} (hp : HP13 PT) : vcOk PT w_xo_keep_1_3 := vc_iv [(2, 0, 8), (3, 0, 10), (4, 0, 8), (5, 0, 6), (6, 0, 6), (14, 0, 23), (15, 0, 0), (16, (-1), 9), (17, (-1), 2147483647), (18, 0, 10)] [7, 8, 10, 11, 12, 13, 15, 16, 19, 20, 21, 23, 24, 25, 58, 59] (by decide +kernel) (fun ρ α => by
  intro r2 g2 b2 r3 g3 b3 r4 g4 b4 r5 g5 b5 r6 g6 b6 r14 g14 b14 r15 g15 b15 r16 g16 b16 r17 g17 b17 r18 g18 b18 a7 h7 a8 h8 a10 h10 a11 h11 a12 h12 a13 h13 a15 h15 a16 h16 a19 h19 a20 h20 a21 h21 a23 h23 a24 h24 a25 h25 a58 h58 a59 h59 f0 f1 f2 f3 f4 f5 f6 f7 f8 tt
  clear f5 f6 f7 f8
  have e180 : PT 180 = P_alk := pe180_13 hp
  have e181 : PT 181 = P_keI := pe181_13 hp
  have e182 : PT 182 = P_okX2 := pe182_13 hp
  simp only [hF0, hF3, hFp_180, hFp_181, hFp_182, e180, e181, e182, P_alk, P_keI, P_okX2, den_s, den_c, Int.add_zero, List.map_cons, List.map_nil, g2.eq, g3.eq, g4.eq, g5.eq, g6.eq, g14.eq, g15.eq, g16.eq, g17.eq, g18.eq, h7, h8, h10, h11, h12, h13, h15, h16, h19, h20, h21, h23, h24, h25, h58, h59] at f0 f1 f2 f3 f4 ⊢
  have hh := f3
  rw [show r18 = r3 by omega] at hh
  refine ⟨fun h => by exfalso; omega, fun h => ⟨_, _, hh, ?_, ?_⟩⟩
  all_goals (intro q; first | rfl | (exfalso; omega)))
def w_xo_keep_1_4 : VC := ((bT ++ [(0, 23), (0, 0), ((-1), 9), ((-1), 2147483647), (0, 10), (0, 49), (0, 49), ((-2147483648), 2147483647), ((-2147483648), 2147483647)]), [(0, [(some 15, 0), (none, 0)], []), (3, [(some 18, 0), (some 3, 0)], []), (180, [(some 4, 0)], [58, 15, 59, 16]), (181, [(some 18, 0), (some 16, 0), (some 17, 0), (some 14, 0), (some 2, 0), (some 3, 0), (some 4, 0), (some 5, 0), (some 6, 0)], [7, 8, 10, 11, 12, 13, 15, 16, 19, 20, 21, 23, 24, 25]), (3, [(some 3, 0), (some 18, 0)], []), (3, [(some 14, 0), (none, 0)], []), (3, [(none, 23), (some 14, 0)], []), (3, [(some 15, 0), (none, 0)], []), (3, [(none, 1), (some 15, 0)], [])], (186, [(some 4, 0)], [58, 15]))
set_option maxRecDepth 20000 in
theorem v_xo_keep_1_4 {PT : PTy} (hp : HP13 PT) : vcOk PT w_xo_keep_1_4 := vc_iv [(2, 0, 8), (3, 0, 10), (4, 0, 8), (5, 0, 6), (6, 0, 6), (14, 0, 23), (15, 0, 0), (16, (-1), 9), (17, (-1), 2147483647), (18, 0, 10)] [7, 8, 10, 11, 12, 13, 15, 16, 19, 20, 21, 23, 24, 25, 58, 59] (by decide +kernel) (fun ρ α => by
  intro r2 g2 b2 r3 g3 b3 r4 g4 b4 r5 g5 b5 r6 g6 b6 r14 g14 b14 r15 g15 b15 r16 g16 b16 r17 g17 b17 r18 g18 b18 a7 h7 a8 h8 a10 h10 a11 h11 a12 h12 a13 h13 a15 h15 a16 h16 a19 h19 a20 h20 a21 h21 a23 h23 a24 h24 a25 h25 a58 h58 a59 h59 f0 f1 f2 f3 f4 f5 f6 f7 f8 tt
  clear f5 f6 f7 f8
  have e180 : PT 180 = P_alk := pe180_13 hp
  have e181 : PT 181 = P_keI := pe181_13 hp
  have e186 : PT 186 = P_al := pe186_13 hp
  simp only [hF0, hF3, hFp_180, hFp_181, hFp_186, e180, e181, e186, P_alk, P_keI, P_al, den_s, den_c, Int.add_zero, List.map_cons, List.map_nil, g2.eq, g3.eq, g4.eq, g5.eq, g6.eq, g14.eq, g15.eq, g16.eq, g17.eq, g18.eq, h7, h8, h10, h11, h12, h13, h15, h16, h19, h20, h21, h23, h24, h25, h58, h59] at f0 f1 f2 f3 f4 ⊢
  exact fun i h1 h2 => (f2 i h1 h2).1)
def w_xo_keep_1_5 : VC := ((bT ++ [(0, 23), (0, 0), ((-1), 9), ((-1), 2147483647), (0, 10), (0, 49), (0, 49), ((-2147483648), 2147483647), ((-2147483648), 2147483647)]), [(0, [(some 15, 0), (none, 0)], []), (3, [(some 18, 0), (some 3, 0)], []), (180, [(some 4, 0)], [58, 15, 59, 16]), (181, [(some 18, 0), (some 16, 0), (some 17, 0), (some 14, 0), (some 2, 0), (some 3, 0), (some 4, 0), (some 5, 0), (some 6, 0)], [7, 8, 10, 11, 12, 13, 15, 16, 19, 20, 21, 23, 24, 25]), (3, [(some 3, 0), (some 18, 0)], []), (3, [(some 14, 0), (none, 0)], []), (3, [(none, 23), (some 14, 0)], []), (3, [(some 15, 0), (none, 0)], []), (3, [(none, 1), (some 15, 0)], [])], (186, [(some 4, 0)], [59, 16]))
set_option maxRecDepth 20000 in
theorem v_xo_keep_1_5 {PT : PTy} (hp : HP13 PT) : vcOk PT w_xo_keep_1_5 := vc_iv [(2, 0, 8), (3, 0, 10), (4, 0, 8), (5, 0, 6), (6, 0, 6), (14, 0, 23), (15, 0, 0), (16, (-1), 9), (17, (-1), 2147483647), (18, 0, 10)] [7, 8, 10, 11, 12, 13, 15, 16, 19, 20, 21, 23, 24, 25, 58, 59] (by decide +kernel) (fun ρ α => by
  intro r2 g2 b2 r3 g3 b3 r4 g4 b4 r5 g5 b5 r6 g6 b6 r14 g14 b14 r15 g15 b15 r16 g16 b16 r17 g17 b17 r18 g18 b18 a7 h7 a8 h8 a10 h10 a11 h11 a12 h12 a13 h13 a15 h15 a16 h16 a19 h19 a20 h20 a21 h21 a23 h23 a24 h24 a25 h25 a58 h58 a59 h59 f0 f1 f2 f3 f4 f5 f6 f7 f8 tt
  clear f5 f6 f7 f8
  have e180 : PT 180 = P_alk := pe180_13 hp
  have e181 : PT 181 = P_keI := pe181_13 hp
  have e186 : PT 186 = P_al := pe186_13 hp
  simp only [hF0, hF3, hFp_180, hFp_181, hFp_186, e180, e181, e186, P_alk, P_keI, P_al, den_s, den_c, Int.add_zero, List.map_cons, List.map_nil, g2.eq, g3.eq, g4.eq, g5.eq, g6.eq, g14.eq, g15.eq, g16.eq, g17.eq, g18.eq, h7, h8, h10, h11, h12, h13, h15, h16, h19, h20, h21, h23, h24, h25, h58, h59] at f0 f1 f2 f3 f4 ⊢
  exact fun i h1 h2 => (f2 i h1 h2).2)
def w_xo_keep_1_6 : VC := (([(0, 23), (0, 49), (0, 8), (1, 10), (0, 8), (0, 6), (0, 6), (0, 8), (0, 9), (0, 49), (0, 49), ((-2147483648), 2147483647), ((-2147483648), 2147483647), (0, 5), (0, 23), (0, 1), ((-1), 9), ((-1), 2147483647), (0, 9), (0, 49), (0, 49), ((-2147483648), 2147483647), ((-2147483648), 2147483647), (0, 49), (0, 49), ((-2147483648), 2147483647), ((-2147483648), 2147483647)]), [(2, [(none, 0), (some 4, 1)], []), (3, [(some 17, 0), (some 26, 0)], []), (160, [(some 26, 0), (some 25, 0)], []), (92, [(some 25, 0), (some 2, 0)], [71, 8]), (148, [(none, 23), (some 2, 0), (some 3, 0), (some 4, 1), (some 5, 0), (some 6, 0), (none, 0), (none, 0)], [7, 8, 10, 11, 12, 13, 66, 67, 19, 20, 21, 23, 24, 25, 71, 72, 73]), (21, [(some 4, 0), (none, 0)], [68, 60]), (21, [(some 4, 0), (some 18, 0)], [67, 59]), (21, [(some 4, 0), (some 14, 0)], [66, 58]), (2, [(some 4, 0), (none, 9)], []), (2, [(some 18, 0), (some 3, 0)], []), (180, [(some 4, 0)], [58, 15, 59, 16]), (181, [(some 18, 0), (some 16, 0), (some 17, 0), (some 14, 0), (some 2, 0), (some 3, 0), (some 4, 0), (some 5, 0), (some 6, 0)], [7, 8, 10, 11, 12, 13, 15, 16, 19, 20, 21, 23, 24, 25]), (3, [(some 3, 0), (some 18, 0)], []), (3, [(some 14, 0), (none, 0)], []), (3, [(none, 23), (some 14, 0)], []), (3, [(some 15, 0), (none, 0)], []), (3, [(none, 1), (some 15, 0)], [])], (180, [(some 4, 0)], [66, 15, 67, 16]))
theorem pe92_13 {PT : PTy} (hp : HP13 PT) : PT 92 = P_bits := hp.1.1.1.1.1.1.1.1.1.2.1
theorem pe148_13 {PT : PTy} (hp : HP13 PT) : PT 148 = P_yx := hp.1.1.2.2.1
theorem pe160_13 {PT : PTy} (hp : HP13 PT) : PT 160 = P_bc := hp.1.1.2.2.2.2.2.2.2.2.2.2.2.2.2.2.1
set_option maxRecDepth 20000 in
theorem v_xo_keep_1_6 {PT : PTy} (hp : HP13 PT) : vcOk PT w_xo_keep_1_6 := vc_iv [(2, 0, 8), (3, 1, 10), (4, 0, 8), (5, 0, 6), (6, 0, 6), (14, 0, 23), (16, (-1), 9), (17, (-1), 2147483647), (18, 0, 9), (25, (-2147483648), 2147483647), (26, (-2147483648), 2147483647)] [7, 8, 10, 11, 12, 13, 15, 16, 19, 20, 21, 23, 24, 25, 58, 59, 60, 66, 67, 68, 71, 72, 73] (by decide +kernel) (fun ρ α => by
  intro r2 g2 b2 r3 g3 b3 r4 g4 b4 r5 g5 b5 r6 g6 b6 r14 g14 b14 r16 g16 b16 r17 g17 b17 r18 g18 b18 r25 g25 b25 r26 g26 b26 a7 h7 a8 h8 a10 h10 a11 h11 a12 h12 a13 h13 a15 h15 a16 h16 a19 h19 a20 h20 a21 h21 a23 h23 a24 h24 a25 h25 a58 h58 a59 h59 a60 h60 a66 h66 a67 h67 a68 h68 a71 h71 a72 h72 a73 h73 f0 f1 f2 f3 f4 f5 f6 f7 f8 f9 f10 f11 f12 f13 f14 f15 f16 tt
  clear f0 f8 f13 f14 f15 f16
  have e92 : PT 92 = P_bits := pe92_13 hp
  have e148 : PT 148 = P_yx := pe148_13 hp
  have e160 : PT 160 = P_bc := pe160_13 hp
  have e180 : PT 180 = P_alk := pe180_13 hp
  have e181 : PT 181 = P_keI := pe181_13 hp
  simp only [hF2, hF3, hF21, hFp_92, hFp_148, hFp_160, hFp_180, hFp_181, e92, e148, e160, e180, e181, P_bits, P_yx, P_bc, P_alk, P_keI, den_s, den_c, Int.add_zero, List.map_cons, List.map_nil, g2.eq, g3.eq, g4.eq, g5.eq, g6.eq, g14.eq, g16.eq, g17.eq, g18.eq, g25.eq, g26.eq, h7, h8, h10, h11, h12, h13, h15, h16, h19, h20, h21, h23, h24, h25, h58, h59, h60, h66, h67, h68, h71, h72, h73] at f1 f2 f3 f4 f5 f6 f7 f9 f10 f11 f12 ⊢
  subst f5
  subst f6
  subst f7
  intro i h1 h2
  have := f10 i h1 h2
  rw [updI_ne (by omega), updI_ne (by omega)]
  exact this)
def w_xo_keep_1_7 : VC := (([(0, 23), (0, 49), (0, 8), (1, 10), (0, 8), (0, 6), (0, 6), (0, 8), (0, 9), (0, 49), (0, 49), ((-2147483648), 2147483647), ((-2147483648), 2147483647), (0, 5), (0, 23), (0, 1), ((-1), 9), ((-1), 2147483647), (0, 9), (0, 49), (0, 49), ((-2147483648), 2147483647), ((-2147483648), 2147483647), (0, 49), (0, 49), ((-2147483648), 2147483647), ((-2147483648), 2147483647)]), [(2, [(none, 0), (some 4, 1)], []), (3, [(some 17, 0), (some 26, 0)], []), (160, [(some 26, 0), (some 25, 0)], []), (92, [(some 25, 0), (some 2, 0)], [71, 8]), (148, [(none, 23), (some 2, 0), (some 3, 0), (some 4, 1), (some 5, 0), (some 6, 0), (none, 0), (none, 0)], [7, 8, 10, 11, 12, 13, 66, 67, 19, 20, 21, 23, 24, 25, 71, 72, 73]), (21, [(some 4, 0), (none, 0)], [68, 60]), (21, [(some 4, 0), (some 18, 0)], [67, 59]), (21, [(some 4, 0), (some 14, 0)], [66, 58]), (2, [(some 4, 0), (none, 9)], []), (2, [(some 18, 0), (some 3, 0)], []), (180, [(some 4, 0)], [58, 15, 59, 16]), (181, [(some 18, 0), (some 16, 0), (some 17, 0), (some 14, 0), (some 2, 0), (some 3, 0), (some 4, 0), (some 5, 0), (some 6, 0)], [7, 8, 10, 11, 12, 13, 15, 16, 19, 20, 21, 23, 24, 25]), (3, [(some 3, 0), (some 18, 0)], []), (3, [(some 14, 0), (none, 0)], []), (3, [(none, 23), (some 14, 0)], []), (3, [(some 15, 0), (none, 0)], []), (3, [(none, 1), (some 15, 0)], [])], (181, [(some 18, 1), (some 16, 0), (some 17, 0), (some 14, 0), (some 2, 0), (some 3, 0), (some 4, 0), (some 5, 0), (some 6, 0)], [7, 8, 10, 11, 12, 13, 15, 16, 19, 20, 21, 23, 24, 25]))
set_option maxRecDepth 20000 in
theorem v_xo_keep_1_7 {PT : PTy} (hp : HP13 PT) : vcOk PT w_xo_keep_1_7 := vc_iv [(2, 0, 8), (3, 1, 10), (4, 0, 8), (5, 0, 6), (6, 0, 6), (14, 0, 23), (16, (-1), 9), (17, (-1), 2147483647), (18, 0, 9), (25, (-2147483648), 2147483647), (26, (-2147483648), 2147483647)] [7, 8, 10, 11, 12, 13, 15, 16, 19, 20, 21, 23, 24, 25, 58, 59, 60, 66, 67, 68, 71, 72, 73] (by decide +kernel) (fun ρ α => by
  intro r2 g2 b2 r3 g3 b3 r4 g4 b4 r5 g5 b5 r6 g6 b6 r14 g14 b14 r16 g16 b16 r17 g17 b17 r18 g18 b18 r25 g25 b25 r26 g26 b26 a7 h7 a8 h8 a10 h10 a11 h11 a12 h12 a13 h13 a15 h15 a16 h16 a19 h19 a20 h20 a21 h21 a23 h23 a24 h24 a25 h25 a58 h58 a59 h59 a60 h60 a66 h66 a67 h67 a68 h68 a71 h71 a72 h72 a73 h73 f0 f1 f2 f3 f4 f5 f6 f7 f8 f9 f10 f11 f12 f13 f14 f15 f16 tt
  clear f0 f8 f13 f14 f15 f16
  have e92 : PT 92 = P_bits := pe92_13 hp
  have e148 : PT 148 = P_yx := pe148_13 hp
  have e160 : PT 160 = P_bc := pe160_13 hp
  have e180 : PT 180 = P_alk := pe180_13 hp
  have e181 : PT 181 = P_keI := pe181_13 hp
  simp only [hF2, hF3, hF21, hFp_92, hFp_148, hFp_160, hFp_180, hFp_181, e92, e148, e160, e180, e181, P_bits, P_yx, P_bc, P_alk, P_keI, den_s, den_c, Int.add_zero, List.map_cons, List.map_nil, g2.eq, g3.eq, g4.eq, g5.eq, g6.eq, g14.eq, g16.eq, g17.eq, g18.eq, g25.eq, g26.eq, h7, h8, h10, h11, h12, h13, h15, h16, h19, h20, h21, h23, h24, h25, h58, h59, h60, h66, h67, h68, h71, h72, h73] at f1 f2 f3 f4 f5 f6 f7 f9 f10 f11 f12 ⊢
  subst f5
  subst f6
  subst f7
  have hy := f4
  have hb : r25 = bitF a71 a8 r2 := f3
  have hc := f2
  have ha := f10
  subst hb
  subst hc
  first
    | exact obS_t f11 (by omega) ⟨_, _, fun i h1 h2 => by rw [updI_ne (by omega), updI_ne (by omega)]; exact ha i h1 h2, updI_at _ _ _, updI_at _ _ _, _, _, _, hy, rfl⟩ (by omega) (bc_nn (by omega))
    | exact obS_k f11 (by omega) ⟨_, _, fun i h1 h2 => by rw [updI_ne (by omega), updI_ne (by omega)]; exact ha i h1 h2, updI_at _ _ _, updI_at _ _ _, _, _, _, hy, rfl⟩ (by omega) (bc_nn (by omega)))
def w_xo_keep_1_8 : VC := (([(0, 23), (0, 49), (0, 8), (1, 10), (0, 8), (0, 6), (0, 6), (0, 8), (0, 9), (0, 49), (0, 49), ((-2147483648), 2147483647), ((-2147483648), 2147483647), (0, 5), (0, 23), (0, 1), ((-1), 9), ((-1), 2147483647), (0, 9), (0, 49), (0, 49), ((-2147483648), 2147483647), ((-2147483648), 2147483647), (0, 49), (0, 49), ((-2147483648), 2147483647), ((-2147483648), 2147483647)]), [(2, [(none, 0), (some 4, 1)], []), (3, [(some 17, 0), (some 26, 0)], []), (160, [(some 26, 0), (some 25, 0)], []), (92, [(some 25, 0), (some 2, 0)], [71, 8]), (148, [(none, 23), (some 2, 0), (some 3, 0), (some 4, 1), (some 5, 0), (some 6, 0), (none, 0), (none, 0)], [7, 8, 10, 11, 12, 13, 66, 67, 19, 20, 21, 23, 24, 25, 71, 72, 73]), (21, [(some 4, 0), (none, 0)], [68, 60]), (21, [(some 4, 0), (some 18, 0)], [67, 59]), (21, [(some 4, 0), (some 14, 0)], [66, 58]), (2, [(some 4, 0), (none, 9)], []), (2, [(some 18, 0), (some 3, 0)], []), (180, [(some 4, 0)], [58, 15, 59, 16]), (181, [(some 18, 0), (some 16, 0), (some 17, 0), (some 14, 0), (some 2, 0), (some 3, 0), (some 4, 0), (some 5, 0), (some 6, 0)], [7, 8, 10, 11, 12, 13, 15, 16, 19, 20, 21, 23, 24, 25]), (3, [(some 3, 0), (some 18, 0)], []), (3, [(some 14, 0), (none, 0)], []), (3, [(none, 23), (some 14, 0)], []), (3, [(some 15, 0), (none, 0)], []), (3, [(none, 1), (some 15, 0)], [])], (3, [(some 3, 0), (some 18, 1)], []))
set_option maxRecDepth 20000 in
theorem v_xo_keep_1_8 {PT : PTy} (hp : HP13 PT) : vcOk PT w_xo_keep_1_8 := vc_iv [(2, 0, 8), (3, 1, 10), (4, 0, 8), (5, 0, 6), (6, 0, 6), (14, 0, 23), (16, (-1), 9), (17, (-1), 2147483647), (18, 0, 9), (25, (-2147483648), 2147483647), (26, (-2147483648), 2147483647)] [7, 8, 10, 11, 12, 13, 15, 16, 19, 20, 21, 23, 24, 25, 58, 59, 60, 66, 67, 68, 71, 72, 73] (by decide +kernel) (fun ρ α => by
  intro r2 g2 b2 r3 g3 b3 r4 g4 b4 r5 g5 b5 r6 g6 b6 r14 g14 b14 r16 g16 b16 r17 g17 b17 r18 g18 b18 r25 g25 b25 r26 g26 b26 a7 h7 a8 h8 a10 h10 a11 h11 a12 h12 a13 h13 a15 h15 a16 h16 a19 h19 a20 h20 a21 h21 a23 h23 a24 h24 a25 h25 a58 h58 a59 h59 a60 h60 a66 h66 a67 h67 a68 h68 a71 h71 a72 h72 a73 h73 f0 f1 f2 f3 f4 f5 f6 f7 f8 f9 f10 f11 f12 f13 f14 f15 f16 tt
  clear f0 f8 f13 f14 f15 f16
  have e92 : PT 92 = P_bits := pe92_13 hp
  have e148 : PT 148 = P_yx := pe148_13 hp
  have e160 : PT 160 = P_bc := pe160_13 hp
  have e180 : PT 180 = P_alk := pe180_13 hp
  have e181 : PT 181 = P_keI := pe181_13 hp
  simp only [hF2, hF3, hF21, hFp_92, hFp_148, hFp_160, hFp_180, hFp_181, e92, e148, e160, e180, e181, P_bits, P_yx, P_bc, P_alk, P_keI, den_s, den_c, Int.add_zero, List.map_cons, List.map_nil, g2.eq, g3.eq, g4.eq, g5.eq, g6.eq, g14.eq, g16.eq, g17.eq, g18.eq, g25.eq, g26.eq, h7, h8, h10, h11, h12, h13, h15, h16, h19, h20, h21, h23, h24, h25, h58, h59, h60, h66, h67, h68, h71, h72, h73] at f1 f2 f3 f4 f5 f6 f7 f9 f10 f11 f12 ⊢
  subst f5
  subst f6
  subst f7
  omega)
def w_xo_keep_1_9 : VC := (([(0, 23), (0, 49), (0, 8), (1, 10), (0, 8), (0, 6), (0, 6), (0, 8), (0, 9), (0, 49), (0, 49), ((-2147483648), 2147483647), ((-2147483648), 2147483647), (0, 5), (0, 23), (0, 1), ((-1), 9), ((-1), 2147483646), (0, 9), (0, 49), (0, 49), ((-2147483648), 2147483647), ((-2147483648), 2147483647), (0, 49), (0, 49), ((-2147483648), 2147483647), (0, 2147483647)]), [(2, [(none, 0), (some 4, 1)], []), (2, [(some 17, 0), (some 26, 0)], []), (160, [(some 26, 0), (some 25, 0)], []), (92, [(some 25, 0), (some 2, 0)], [71, 8]), (148, [(none, 23), (some 2, 0), (some 3, 0), (some 4, 1), (some 5, 0), (some 6, 0), (none, 0), (none, 0)], [7, 8, 10, 11, 12, 13, 66, 67, 19, 20, 21, 23, 24, 25, 71, 72, 73]), (21, [(some 4, 0), (none, 0)], [68, 60]), (21, [(some 4, 0), (some 18, 0)], [67, 59]), (21, [(some 4, 0), (some 14, 0)], [66, 58]), (2, [(some 4, 0), (none, 9)], []), (2, [(some 18, 0), (some 3, 0)], []), (180, [(some 4, 0)], [58, 15, 59, 16]), (181, [(some 18, 0), (some 16, 0), (some 17, 0), (some 14, 0), (some 2, 0), (some 3, 0), (some 4, 0), (some 5, 0), (some 6, 0)], [7, 8, 10, 11, 12, 13, 15, 16, 19, 20, 21, 23, 24, 25]), (3, [(some 3, 0), (some 18, 0)], []), (3, [(some 14, 0), (none, 0)], []), (3, [(none, 23), (some 14, 0)], []), (3, [(some 15, 0), (none, 0)], []), (3, [(none, 1), (some 15, 0)], [])], (180, [(some 4, 0)], [66, 15, 67, 16]))
set_option maxRecDepth 20000 in
theorem v_xo_keep_1_9 {PT : PTy} (hp : HP13 PT) : vcOk PT w_xo_keep_1_9 := vc_iv [(2, 0, 8), (3, 1, 10), (4, 0, 8), (5, 0, 6), (6, 0, 6), (14, 0, 23), (16, (-1), 9), (17, (-1), 2147483646), (18, 0, 9), (25, (-2147483648), 2147483647), (26, 0, 2147483647)] [7, 8, 10, 11, 12, 13, 15, 16, 19, 20, 21, 23, 24, 25, 58, 59, 60, 66, 67, 68, 71, 72, 73] (by decide +kernel) (fun ρ α => by
  intro r2 g2 b2 r3 g3 b3 r4 g4 b4 r5 g5 b5 r6 g6 b6 r14 g14 b14 r16 g16 b16 r17 g17 b17 r18 g18 b18 r25 g25 b25 r26 g26 b26 a7 h7 a8 h8 a10 h10 a11 h11 a12 h12 a13 h13 a15 h15 a16 h16 a19 h19 a20 h20 a21 h21 a23 h23 a24 h24 a25 h25 a58 h58 a59 h59 a60 h60 a66 h66 a67 h67 a68 h68 a71 h71 a72 h72 a73 h73 f0 f1 f2 f3 f4 f5 f6 f7 f8 f9 f10 f11 f12 f13 f14 f15 f16 tt
  clear f0 f8 f13 f14 f15 f16
  have e92 : PT 92 = P_bits := pe92_13 hp
  have e148 : PT 148 = P_yx := pe148_13 hp
  have e160 : PT 160 = P_bc := pe160_13 hp
  have e180 : PT 180 = P_alk := pe180_13 hp
  have e181 : PT 181 = P_keI := pe181_13 hp
  simp only [hF2, hF3, hF21, hFp_92, hFp_148, hFp_160, hFp_180, hFp_181, e92, e148, e160, e180, e181, P_bits, P_yx, P_bc, P_alk, P_keI, den_s, den_c, Int.add_zero, List.map_cons, List.map_nil, g2.eq, g3.eq, g4.eq, g5.eq, g6.eq, g14.eq, g16.eq, g17.eq, g18.eq, g25.eq, g26.eq, h7, h8, h10, h11, h12, h13, h15, h16, h19, h20, h21, h23, h24, h25, h58, h59, h60, h66, h67, h68, h71, h72, h73] at f1 f2 f3 f4 f5 f6 f7 f9 f10 f11 f12 ⊢
  subst f5
  subst f6
  subst f7
  intro i h1 h2
  have := f10 i h1 h2
  rw [updI_ne (by omega), updI_ne (by omega)]
  exact this)
def w_xo_keep_1_10 : VC := (([(0, 23), (0, 49), (0, 8), (1, 10), (0, 8), (0, 6), (0, 6), (0, 8), (0, 9), (0, 49), (0, 49), ((-2147483648), 2147483647), ((-2147483648), 2147483647), (0, 5), (0, 23), (0, 1), ((-1), 9), ((-1), 2147483646), (0, 9), (0, 49), (0, 49), ((-2147483648), 2147483647), ((-2147483648), 2147483647), (0, 49), (0, 49), ((-2147483648), 2147483647), (0, 2147483647)]), [(2, [(none, 0), (some 4, 1)], []), (2, [(some 17, 0), (some 26, 0)], []), (160, [(some 26, 0), (some 25, 0)], []), (92, [(some 25, 0), (some 2, 0)], [71, 8]), (148, [(none, 23), (some 2, 0), (some 3, 0), (some 4, 1), (some 5, 0), (some 6, 0), (none, 0), (none, 0)], [7, 8, 10, 11, 12, 13, 66, 67, 19, 20, 21, 23, 24, 25, 71, 72, 73]), (21, [(some 4, 0), (none, 0)], [68, 60]), (21, [(some 4, 0), (some 18, 0)], [67, 59]), (21, [(some 4, 0), (some 14, 0)], [66, 58]), (2, [(some 4, 0), (none, 9)], []), (2, [(some 18, 0), (some 3, 0)], []), (180, [(some 4, 0)], [58, 15, 59, 16]), (181, [(some 18, 0), (some 16, 0), (some 17, 0), (some 14, 0), (some 2, 0), (some 3, 0), (some 4, 0), (some 5, 0), (some 6, 0)], [7, 8, 10, 11, 12, 13, 15, 16, 19, 20, 21, 23, 24, 25]), (3, [(some 3, 0), (some 18, 0)], []), (3, [(some 14, 0), (none, 0)], []), (3, [(none, 23), (some 14, 0)], []), (3, [(some 15, 0), (none, 0)], []), (3, [(none, 1), (some 15, 0)], [])], (181, [(some 18, 1), (some 18, 0), (some 26, 0), (some 14, 0), (some 2, 0), (some 3, 0), (some 4, 0), (some 5, 0), (some 6, 0)], [7, 8, 10, 11, 12, 13, 15, 16, 19, 20, 21, 23, 24, 25]))
set_option maxRecDepth 20000 in
theorem v_xo_keep_1_10 {PT : PTy} (hp : HP13 PT) : vcOk PT w_xo_keep_1_10 := vc_iv [(2, 0, 8), (3, 1, 10), (4, 0, 8), (5, 0, 6), (6, 0, 6), (14, 0, 23), (16, (-1), 9), (17, (-1), 2147483646), (18, 0, 9), (25, (-2147483648), 2147483647), (26, 0, 2147483647)] [7, 8, 10, 11, 12, 13, 15, 16, 19, 20, 21, 23, 24, 25, 58, 59, 60, 66, 67, 68, 71, 72, 73] (by decide +kernel) (fun ρ α => by
  intro r2 g2 b2 r3 g3 b3 r4 g4 b4 r5 g5 b5 r6 g6 b6 r14 g14 b14 r16 g16 b16 r17 g17 b17 r18 g18 b18 r25 g25 b25 r26 g26 b26 a7 h7 a8 h8 a10 h10 a11 h11 a12 h12 a13 h13 a15 h15 a16 h16 a19 h19 a20 h20 a21 h21 a23 h23 a24 h24 a25 h25 a58 h58 a59 h59 a60 h60 a66 h66 a67 h67 a68 h68 a71 h71 a72 h72 a73 h73 f0 f1 f2 f3 f4 f5 f6 f7 f8 f9 f10 f11 f12 f13 f14 f15 f16 tt
  clear f0 f8 f13 f14 f15 f16
  have e92 : PT 92 = P_bits := pe92_13 hp
  have e148 : PT 148 = P_yx := pe148_13 hp
  have e160 : PT 160 = P_bc := pe160_13 hp
  have e180 : PT 180 = P_alk := pe180_13 hp
  have e181 : PT 181 = P_keI := pe181_13 hp
  simp only [hF2, hF3, hF21, hFp_92, hFp_148, hFp_160, hFp_180, hFp_181, e92, e148, e160, e180, e181, P_bits, P_yx, P_bc, P_alk, P_keI, den_s, den_c, Int.add_zero, List.map_cons, List.map_nil, g2.eq, g3.eq, g4.eq, g5.eq, g6.eq, g14.eq, g16.eq, g17.eq, g18.eq, g25.eq, g26.eq, h7, h8, h10, h11, h12, h13, h15, h16, h19, h20, h21, h23, h24, h25, h58, h59, h60, h66, h67, h68, h71, h72, h73] at f1 f2 f3 f4 f5 f6 f7 f9 f10 f11 f12 ⊢
  subst f5
  subst f6
  subst f7
  have hy := f4
  have hb : r25 = bitF a71 a8 r2 := f3
  have hc := f2
  have ha := f10
  subst hb
  subst hc
  first
    | exact obS_t f11 (by omega) ⟨_, _, fun i h1 h2 => by rw [updI_ne (by omega), updI_ne (by omega)]; exact ha i h1 h2, updI_at _ _ _, updI_at _ _ _, _, _, _, hy, rfl⟩ (by omega) (bc_nn (by omega))
    | exact obS_k f11 (by omega) ⟨_, _, fun i h1 h2 => by rw [updI_ne (by omega), updI_ne (by omega)]; exact ha i h1 h2, updI_at _ _ _, updI_at _ _ _, _, _, _, hy, rfl⟩ (by omega) (bc_nn (by omega)))
def w_xo_keep_1_11 : VC := (([(0, 23), (0, 49), (0, 8), (1, 10), (0, 8), (0, 6), (0, 6), (0, 8), (0, 9), (0, 49), (0, 49), ((-2147483648), 2147483647), ((-2147483648), 2147483647), (0, 5), (0, 23), (0, 1), ((-1), 9), ((-1), 2147483646), (0, 9), (0, 49), (0, 49), ((-2147483648), 2147483647), ((-2147483648), 2147483647), (0, 49), (0, 49), ((-2147483648), 2147483647), (0, 2147483647)]), [(2, [(none, 0), (some 4, 1)], []), (2, [(some 17, 0), (some 26, 0)], []), (160, [(some 26, 0), (some 25, 0)], []), (92, [(some 25, 0), (some 2, 0)], [71, 8]), (148, [(none, 23), (some 2, 0), (some 3, 0), (some 4, 1), (some 5, 0), (some 6, 0), (none, 0), (none, 0)], [7, 8, 10, 11, 12, 13, 66, 67, 19, 20, 21, 23, 24, 25, 71, 72, 73]), (21, [(some 4, 0), (none, 0)], [68, 60]), (21, [(some 4, 0), (some 18, 0)], [67, 59]), (21, [(some 4, 0), (some 14, 0)], [66, 58]), (2, [(some 4, 0), (none, 9)], []), (2, [(some 18, 0), (some 3, 0)], []), (180, [(some 4, 0)], [58, 15, 59, 16]), (181, [(some 18, 0), (some 16, 0), (some 17, 0), (some 14, 0), (some 2, 0), (some 3, 0), (some 4, 0), (some 5, 0), (some 6, 0)], [7, 8, 10, 11, 12, 13, 15, 16, 19, 20, 21, 23, 24, 25]), (3, [(some 3, 0), (some 18, 0)], []), (3, [(some 14, 0), (none, 0)], []), (3, [(none, 23), (some 14, 0)], []), (3, [(some 15, 0), (none, 0)], []), (3, [(none, 1), (some 15, 0)], [])], (3, [(some 3, 0), (some 18, 1)], []))
set_option maxRecDepth 20000 in
theorem v_xo_keep_1_11 {PT : PTy} (hp : HP13 PT) : vcOk PT w_xo_keep_1_11 := vc_iv [(2, 0, 8), (3, 1, 10), (4, 0, 8), (5, 0, 6), (6, 0, 6), (14, 0, 23), (16, (-1), 9), (17, (-1), 2147483646), (18, 0, 9), (25, (-2147483648), 2147483647), (26, 0, 2147483647)] [7, 8, 10, 11, 12, 13, 15, 16, 19, 20, 21, 23, 24, 25, 58, 59, 60, 66, 67, 68, 71, 72, 73] (by decide +kernel) (fun ρ α => by
  intro r2 g2 b2 r3 g3 b3 r4 g4 b4 r5 g5 b5 r6 g6 b6 r14 g14 b14 r16 g16 b16 r17 g17 b17 r18 g18 b18 r25 g25 b25 r26 g26 b26 a7 h7 a8 h8 a10 h10 a11 h11 a12 h12 a13 h13 a15 h15 a16 h16 a19 h19 a20 h20 a21 h21 a23 h23 a24 h24 a25 h25 a58 h58 a59 h59 a60 h60 a66 h66 a67 h67 a68 h68 a71 h71 a72 h72 a73 h73 f0 f1 f2 f3 f4 f5 f6 f7 f8 f9 f10 f11 f12 f13 f14 f15 f16 tt
  clear f0 f8 f13 f14 f15 f16
  have e92 : PT 92 = P_bits := pe92_13 hp
  have e148 : PT 148 = P_yx := pe148_13 hp
  have e160 : PT 160 = P_bc := pe160_13 hp
  have e180 : PT 180 = P_alk := pe180_13 hp
  have e181 : PT 181 = P_keI := pe181_13 hp
  simp only [hF2, hF3, hF21, hFp_92, hFp_148, hFp_160, hFp_180, hFp_181, e92, e148, e160, e180, e181, P_bits, P_yx, P_bc, P_alk, P_keI, den_s, den_c, Int.add_zero, List.map_cons, List.map_nil, g2.eq, g3.eq, g4.eq, g5.eq, g6.eq, g14.eq, g16.eq, g17.eq, g18.eq, g25.eq, g26.eq, h7, h8, h10, h11, h12, h13, h15, h16, h19, h20, h21, h23, h24, h25, h58, h59, h60, h66, h67, h68, h71, h72, h73] at f1 f2 f3 f4 f5 f6 f7 f9 f10 f11 f12 ⊢
  subst f5
  subst f6
  subst f7
  omega)
set_option maxRecDepth 1000000 in
theorem k_xo_keep {PT : PTy} (hp : HP13 PT) : wfX c_xo_keep = true ∧ xcOk PT c_xo_keep := xctr (xl (k_fittingBits14 hp.1.1.1.1.1.1.1.1.1) (xl (k_liveX hp.1.1) (xl (k_bitCount hp.1.1) (xl0)))) c_xo_keep 97 mX6_keep rfl h_xo_keep (by decide +kernel) (by decide +kernel) (by decide) (vcs_by [w_xo_keep_0_0, w_xo_keep_0_1, w_xo_keep_0_2, w_xo_keep_0_3, w_xo_keep_0_4, w_xo_keep_0_5, w_xo_keep_0_6, w_xo_keep_0_7, w_xo_keep_0_8, w_xo_keep_0_9, w_xo_keep_0_10, w_xo_keep_0_11, w_xo_keep_0_12, w_xo_keep_0_13, w_xo_keep_0_14] (by decide +kernel) (vc (v_xo_keep_0_0 hp) (vc (v_xo_keep_0_1 hp) (vc (v_xo_keep_0_2 hp) (vc (v_xo_keep_0_3 hp) (vc (v_xo_keep_0_4 hp) (vc (v_xo_keep_0_5 hp) (vc (v_xo_keep_0_6 hp) (vc (v_xo_keep_0_7 hp) (vc (v_xo_keep_0_8 hp) (vc (v_xo_keep_0_9 hp) (vc (v_xo_keep_0_10 hp) (vc (v_xo_keep_0_11 hp) (vc (v_xo_keep_0_12 hp) (vc (v_xo_keep_0_13 hp) (vc (v_xo_keep_0_14 hp) vn)))))))))))))))) (fmc (vcs_by [w_xo_keep_1_0, w_xo_keep_1_1, w_xo_keep_1_2, w_xo_keep_1_3, w_xo_keep_1_4, w_xo_keep_1_5, w_xo_keep_1_6, w_xo_keep_1_7, w_xo_keep_1_8, w_xo_keep_1_9, w_xo_keep_1_10, w_xo_keep_1_11] (by decide +kernel) (vc (v_xo_keep_1_0 hp) (vc (v_xo_keep_1_1 hp) (vc (v_xo_keep_1_2 hp) (vc (v_xo_keep_1_3 hp) (vc (v_xo_keep_1_4 hp) (vc (v_xo_keep_1_5 hp) (vc (v_xo_keep_1_6 hp) (vc (v_xo_keep_1_7 hp) (vc (v_xo_keep_1_8 hp) (vc (v_xo_keep_1_9 hp) (vc (v_xo_keep_1_10 hp) (vc (v_xo_keep_1_11 hp) vn))))))))))))) fmn)
def c_keepBest : XC := (162, 6, (bY ++ [(0, 23), (0, 1)]), [.inr (.inl 0), .inl (some 13, 0), .inl (some 14, 0)], gY2, [(78, [], [1])], [((bY ++ [(0, 23), (0, 1), ((-1), 9), (0, 8), (0, 10), (0, 11), (0, 9), ((-2147483648), 2147483647), ((-2147483648), 2147483647)]), some (.inl (some 15, 0)), (hst gY2 [(0, .inr (.inr (.inr (7, [.inr (.inl 1), .inr (.inl 2), .inl (some 16, 0), .inr (.inl 3), .inr (.inl 4), .inl (some 17, 0), .inr (.inl 5), .inr (.inl 6), .inr (.inl 7), .inr (.inl 8), .inl (some 4, 0), .inr (.inl 9), .inr (.inl 10), .inl (some 5, 0), .inr (.inl 11), .inr (.inl 12), .inr (.inl 13), .inl (some 6, 0), .inr (.inl 14), .inr (.inl 15), .inr (.inl 16), .inl (some 18, 0), .inl (some 19, 0), .inr (.inl 17), .inr (.inl 18), .inl (some 20, 0), .inl (some 21, 0), .inr (.inl 19), .inr (.inl 20), .inr (.inl 21), .inr (.inl 22), .inr (.inl 23), .inr (.inl 24), .inr (.inl 25), .inl (some 7, 0), .inr (.inl 26), .inr (.inl 27), .inr (.inl 28), .inr (.inl 29), .inr (.inl 30), .inr (.inl 31), .inr (.inl 32), .inr (.inl 33), .inr (.inl 34), .inl (some 12, 0)]))))]), [0, 1, 2, 35, 36, 37, 38, 39, 40, 9, 10, 11, 12, 13, 14, 15, 16, 41, 42, 43, 44, 45, 46, 47, 48, 25, 26, 27, 28, 29, 30, 31, 32, 33, 34], 49, [(184, [(some 15, 0), (some 13, 0), (some 14, 0), (some 16, 0), (some 17, 0), (some 4, 0), (some 5, 0), (some 6, 0)], [1, 2, 35, 36, 37, 38, 39, 40, 9, 10, 11, 12, 13, 14, 15, 16])])])
def h_keepBest : List XH := [(32, (bY ++ [(0, 23), (0, 1), ((-1), 9), ((-1), 8), (0, 10), (0, 8), (0, 10), (0, 11), (0, 9), ((-2147483648), 2147483647), ((-2147483648), 2147483647)]), [some (.inr (.inl 0)), some (.inl (some 13, 0)), some (.inl (some 14, 0)), some (.inl (some 15, 0)), some (.inl (some 16, 0)), some (.inl (some 17, 0)), none], (hst gY2 [(0, .inr (.inr (.inr (7, [.inr (.inl 1), .inr (.inl 2), .inl (some 18, 0), .inr (.inl 3), .inr (.inl 4), .inl (some 19, 0), .inr (.inl 5), .inr (.inl 6), .inr (.inl 7), .inr (.inl 8), .inl (some 4, 0), .inr (.inl 9), .inr (.inl 10), .inl (some 5, 0), .inr (.inl 11), .inr (.inl 12), .inr (.inl 13), .inl (some 6, 0), .inr (.inl 14), .inr (.inl 15), .inr (.inl 16), .inl (some 20, 0), .inl (some 21, 0), .inr (.inl 17), .inr (.inl 18), .inl (some 22, 0), .inl (some 23, 0), .inr (.inl 19), .inr (.inl 20), .inr (.inl 21), .inr (.inl 22), .inr (.inl 23), .inr (.inl 24), .inr (.inl 25), .inl (some 7, 0), .inr (.inl 26), .inr (.inl 27), .inr (.inl 28), .inr (.inl 29), .inr (.inl 30), .inr (.inl 31), .inr (.inl 32), .inr (.inl 33), .inr (.inl 34), .inl (some 12, 0)]))))]), [0, 1, 2, 35, 36, 37, 38, 39, 40, 9, 10, 11, 12, 13, 14, 15, 16, 41, 42, 43, 44, 45, 46, 47, 48, 25, 26, 27, 28, 29, 30, 31, 32, 33, 34], 49, [(106, [(some 18, 0), (some 19, 0)], [1, 2, 35, 36, 37, 38, 39, 40]), (105, [(some 4, 0)], [9, 10, 41, 42]), (20, [(some 13, 0), (some 4, 0)], [41]), (183, [(some 17, 0), (some 15, 0), (some 16, 0), (some 13, 0), (some 18, 0), (some 19, 0), (some 4, 0), (some 5, 0), (some 6, 0)], [35, 36, 37, 38, 39, 40, 9, 10, 11, 12, 13, 14, 15, 16]), (0, [(some 20, 0), (some 19, 0)], []), (0, [(some 22, 0), (none, 0)], []), (0, [(some 23, 0), (none, 0)], []), (0, [(some 21, 0), (some 4, 1)], []), (3, [(some 19, 0), (some 17, 0)], [])], [(true, (none, 1)), (true, (some 17, 0))])]
def w_keepBest_0_0 : VC := ((bY ++ [(0, 23), (0, 1), (0, 8), (0, 10), (0, 11), ((-2147483648), 2147483647), ((-2147483648), 2147483647)]), [(21, [(some 4, 0), (some 13, 0)], [43, 41]), (106, [(some 15, 0), (some 16, 0)], [1, 2, 35, 36, 37, 38, 39, 40]), (105, [(some 4, 0)], [9, 10, 41, 42]), (0, [(some 17, 0), (some 16, 0)], []), (0, [(some 4, 0), (some 4, 0)], []), (0, [(some 18, 0), (none, 0)], []), (0, [(some 19, 0), (none, 0)], []), (78, [], [1])], (105, [(some 4, 0)], [9, 10, 43, 42]))
theorem pe78_13 {PT : PTy} (hp : HP13 PT) : PT 78 = P_ly := hp.1.1.1.1.1.1.1.1.1.1.1.2.2.2.2.2.2.2.1
theorem pe105_13 {PT : PTy} (hp : HP13 PT) : PT 105 = P_cp2 := hp.1.1.1.1.1.1.1.1.2.2.2.2.2.2.2.2.2.2.2.1
theorem pe106_13 {PT : PTy} (hp : HP13 PT) : PT 106 = P_rd := hp.1.1.1.1.1.1.1.1.2.2.2.2.2.2.2.2.2.2.2.2.1
set_option maxRecDepth 20000 in
theorem v_keepBest_0_0 {PT : PTy} (hp : HP13 PT) : vcOk PT w_keepBest_0_0 := vc_iv [(4, 0, 8), (13, 0, 23), (15, 0, 8), (16, 0, 10), (17, 0, 11), (18, (-2147483648), 2147483647), (19, (-2147483648), 2147483647)] [1, 2, 9, 10, 35, 36, 37, 38, 39, 40, 41, 42, 43] (by decide +kernel) (fun ρ α => by
  intro r4 g4 b4 r13 g13 b13 r15 g15 b15 r16 g16 b16 r17 g17 b17 r18 g18 b18 r19 g19 b19 a1 h1 a2 h2 a9 h9 a10 h10 a35 h35 a36 h36 a37 h37 a38 h38 a39 h39 a40 h40 a41 h41 a42 h42 a43 h43 f0 f1 f2 f3 f4 f5 f6 f7 tt
  have e78 : PT 78 = P_ly := pe78_13 hp
  have e105 : PT 105 = P_cp2 := pe105_13 hp
  have e106 : PT 106 = P_rd := pe106_13 hp
  simp only [hF0, hF21, hFp_78, hFp_105, hFp_106, e78, e105, e106, P_ly, P_cp2, P_rd, den_s, den_c, Int.add_zero, List.map_cons, List.map_nil, g4.eq, g13.eq, g15.eq, g16.eq, g17.eq, g18.eq, g19.eq, h1, h2, h9, h10, h35, h36, h37, h38, h39, h40, h41, h42, h43] at f0 f1 f2 f3 f4 f5 f6 f7 ⊢
  subst f0
  intro j h1 h2
  have := f2 j h1 h2
  try rw [updI_ne (by omega)]
  try rw [updI_ne (by omega)]
  exact this)
def w_keepBest_0_1 : VC := ((bY ++ [(0, 23), (0, 1), (0, 8), (0, 10), (0, 11), ((-2147483648), 2147483647), ((-2147483648), 2147483647)]), [(21, [(some 4, 0), (some 13, 0)], [43, 41]), (106, [(some 15, 0), (some 16, 0)], [1, 2, 35, 36, 37, 38, 39, 40]), (105, [(some 4, 0)], [9, 10, 41, 42]), (0, [(some 17, 0), (some 16, 0)], []), (0, [(some 4, 0), (some 4, 0)], []), (0, [(some 18, 0), (none, 0)], []), (0, [(some 19, 0), (none, 0)], []), (78, [], [1])], (20, [(some 13, 0), (some 4, 0)], [43]))
set_option maxRecDepth 20000 in
theorem v_keepBest_0_1 {PT : PTy} (hp : HP13 PT) : vcOk PT w_keepBest_0_1 := vc_iv [(4, 0, 8), (13, 0, 23), (15, 0, 8), (16, 0, 10), (17, 0, 11), (18, (-2147483648), 2147483647), (19, (-2147483648), 2147483647)] [1, 2, 9, 10, 35, 36, 37, 38, 39, 40, 41, 42, 43] (by decide +kernel) (fun ρ α => by
  intro r4 g4 b4 r13 g13 b13 r15 g15 b15 r16 g16 b16 r17 g17 b17 r18 g18 b18 r19 g19 b19 a1 h1 a2 h2 a9 h9 a10 h10 a35 h35 a36 h36 a37 h37 a38 h38 a39 h39 a40 h40 a41 h41 a42 h42 a43 h43 f0 f1 f2 f3 f4 f5 f6 f7 tt
  have e78 : PT 78 = P_ly := pe78_13 hp
  have e105 : PT 105 = P_cp2 := pe105_13 hp
  have e106 : PT 106 = P_rd := pe106_13 hp
  simp only [hF0, hF20, hF21, hFp_78, hFp_105, hFp_106, e78, e105, e106, P_ly, P_cp2, P_rd, den_s, den_c, Int.add_zero, List.map_cons, List.map_nil, g4.eq, g13.eq, g15.eq, g16.eq, g17.eq, g18.eq, g19.eq, h1, h2, h9, h10, h35, h36, h37, h38, h39, h40, h41, h42, h43] at f0 f1 f2 f3 f4 f5 f6 f7 ⊢
  clear g4 g13 g15 g16 g17 g18 g19 h1 h2 h9 h10 h35 h36 h37 h38 h39 h40 h41 h42 h43 e78 e105 e106 tt
  subst f0
  first | rfl | exact (updI_at _ _ _).symm | assumption)
def w_keepBest_0_2 : VC := ((bY ++ [(0, 23), (0, 1), (0, 8), (0, 10), (0, 11), ((-2147483648), 2147483647), ((-2147483648), 2147483647)]), [(21, [(some 4, 0), (some 13, 0)], [43, 41]), (106, [(some 15, 0), (some 16, 0)], [1, 2, 35, 36, 37, 38, 39, 40]), (105, [(some 4, 0)], [9, 10, 41, 42]), (0, [(some 17, 0), (some 16, 0)], []), (0, [(some 4, 0), (some 4, 0)], []), (0, [(some 18, 0), (none, 0)], []), (0, [(some 19, 0), (none, 0)], []), (78, [], [1])], (183, [(none, 0), (none, (-1)), (none, (-1)), (some 13, 0), (some 15, 0), (some 16, 0), (some 4, 0), (some 5, 0), (some 6, 0)], [35, 36, 37, 38, 39, 40, 9, 10, 11, 12, 13, 14, 15, 16]))
theorem pe183_13 {PT : PTy} (hp : HP13 PT) : PT 183 = P_kyI := hp.2.2.2.2.1
set_option maxRecDepth 20000 in
theorem v_keepBest_0_2 {PT : PTy} (hp : HP13 PT) : vcOk PT w_keepBest_0_2 := vc_iv [(4, 0, 8), (5, 0, 6), (6, 0, 6), (13, 0, 23), (15, 0, 8), (16, 0, 10), (17, 0, 11), (18, (-2147483648), 2147483647), (19, (-2147483648), 2147483647)] [1, 2, 9, 10, 11, 12, 13, 14, 15, 16, 35, 36, 37, 38, 39, 40, 41, 42, 43] (by decide +kernel) (fun ρ α => by
  intro r4 g4 b4 r5 g5 b5 r6 g6 b6 r13 g13 b13 r15 g15 b15 r16 g16 b16 r17 g17 b17 r18 g18 b18 r19 g19 b19 a1 h1 a2 h2 a9 h9 a10 h10 a11 h11 a12 h12 a13 h13 a14 h14 a15 h15 a16 h16 a35 h35 a36 h36 a37 h37 a38 h38 a39 h39 a40 h40 a41 h41 a42 h42 a43 h43 f0 f1 f2 f3 f4 f5 f6 f7 tt
  have e78 : PT 78 = P_ly := pe78_13 hp
  have e105 : PT 105 = P_cp2 := pe105_13 hp
  have e106 : PT 106 = P_rd := pe106_13 hp
  have e183 : PT 183 = P_kyI := pe183_13 hp
  simp only [hF0, hF21, hFp_78, hFp_105, hFp_106, hFp_183, e78, e105, e106, e183, P_ly, P_cp2, P_rd, P_kyI, den_s, den_c, Int.add_zero, List.map_cons, List.map_nil, g4.eq, g5.eq, g6.eq, g13.eq, g15.eq, g16.eq, g17.eq, g18.eq, g19.eq, h1, h2, h9, h10, h11, h12, h13, h14, h15, h16, h35, h36, h37, h38, h39, h40, h41, h42, h43] at f0 f1 f2 f3 f4 f5 f6 f7 ⊢
  subst f0
  exact obS_z)
def w_keepBest_0_3 : VC := ((bY ++ [(0, 23), (0, 1), (0, 8), (0, 10), (0, 11), ((-2147483648), 2147483647), ((-2147483648), 2147483647)]), [(21, [(some 4, 0), (some 13, 0)], [43, 41]), (106, [(some 15, 0), (some 16, 0)], [1, 2, 35, 36, 37, 38, 39, 40]), (105, [(some 4, 0)], [9, 10, 41, 42]), (0, [(some 17, 0), (some 16, 0)], []), (0, [(some 4, 0), (some 4, 0)], []), (0, [(some 18, 0), (none, 0)], []), (0, [(some 19, 0), (none, 0)], []), (78, [], [1])], (0, [(some 4, 1), (some 4, 1)], []))
theorem v_keepBest_0_3 {PT : PTy} (_ : HP13 PT) : vcOk PT w_keepBest_0_3 := vc_of (fun ρ α _ _ => rfl)
def w_keepBest_0_4 : VC := ((bY ++ [(0, 23), (0, 1), (0, 8), (0, 10), (0, 11), ((-2147483648), 2147483647), ((-2147483648), 2147483647)]), [(21, [(some 4, 0), (some 13, 0)], [43, 41]), (106, [(some 15, 0), (some 16, 0)], [1, 2, 35, 36, 37, 38, 39, 40]), (105, [(some 4, 0)], [9, 10, 41, 42]), (0, [(some 17, 0), (some 16, 0)], []), (0, [(some 4, 0), (some 4, 0)], []), (0, [(some 18, 0), (none, 0)], []), (0, [(some 19, 0), (none, 0)], []), (78, [], [1])], (3, [(some 16, 0), (none, 0)], []))
set_option maxRecDepth 20000 in
theorem v_keepBest_0_4 {PT : PTy} (hp : HP13 PT) : vcOk PT w_keepBest_0_4 := vc_iv [(4, 0, 8), (13, 0, 23), (15, 0, 8), (16, 0, 10), (17, 0, 11), (18, (-2147483648), 2147483647), (19, (-2147483648), 2147483647)] [1, 2, 9, 10, 35, 36, 37, 38, 39, 40, 41, 42, 43] (by decide +kernel) (fun ρ α => by
  intro r4 g4 b4 r13 g13 b13 r15 g15 b15 r16 g16 b16 r17 g17 b17 r18 g18 b18 r19 g19 b19 a1 h1 a2 h2 a9 h9 a10 h10 a35 h35 a36 h36 a37 h37 a38 h38 a39 h39 a40 h40 a41 h41 a42 h42 a43 h43 f0 f1 f2 f3 f4 f5 f6 f7 tt
  have e78 : PT 78 = P_ly := pe78_13 hp
  have e105 : PT 105 = P_cp2 := pe105_13 hp
  have e106 : PT 106 = P_rd := pe106_13 hp
  simp only [hF0, hF3, hF21, hFp_78, hFp_105, hFp_106, e78, e105, e106, P_ly, P_cp2, P_rd, den_s, den_c, Int.add_zero, List.map_cons, List.map_nil, g4.eq, g13.eq, g15.eq, g16.eq, g17.eq, g18.eq, g19.eq, h1, h2, h9, h10, h35, h36, h37, h38, h39, h40, h41, h42, h43] at f0 f1 f2 f3 f4 f5 f6 f7 ⊢
  subst f0
  omega)
def w_keepBest_1_0 : VC := ((bY ++ [(0, 23), (1, 1), ((-1), 9), ((-1), 8), (0, 10), (0, 8), (0, 10), (0, 11), (0, 9), ((-2147483648), 2147483647), ((-2147483648), 2147483647)]), [(1, [(some 14, 0), (none, 0)], []), (3, [(some 17, 0), (some 19, 0)], []), (106, [(some 18, 0), (some 19, 0)], [1, 2, 35, 36, 37, 38, 39, 40]), (105, [(some 4, 0)], [9, 10, 41, 42]), (20, [(some 13, 0), (some 4, 0)], [41]), (183, [(some 17, 0), (some 15, 0), (some 16, 0), (some 13, 0), (some 18, 0), (some 19, 0), (some 4, 0), (some 5, 0), (some 6, 0)], [35, 36, 37, 38, 39, 40, 9, 10, 11, 12, 13, 14, 15, 16]), (0, [(some 20, 0), (some 19, 0)], []), (0, [(some 22, 0), (none, 0)], []), (0, [(some 23, 0), (none, 0)], []), (0, [(some 21, 0), (some 4, 1)], []), (3, [(some 19, 0), (some 17, 0)], []), (78, [], [1])], (184, [(some 16, 0), (some 13, 0), (some 14, 0), (some 18, 0), (some 19, 0), (some 4, 0), (some 5, 0), (some 6, 0)], [1, 2, 35, 36, 37, 38, 39, 40, 9, 10, 11, 12, 13, 14, 15, 16]))
theorem pe184_13 {PT : PTy} (hp : HP13 PT) : PT 184 = P_kyP := hp.2.2.2.2.2.1
set_option maxRecDepth 20000 in
theorem v_keepBest_1_0 {PT : PTy} (hp : HP13 PT) : vcOk PT w_keepBest_1_0 := vc_iv [(4, 0, 8), (5, 0, 6), (6, 0, 6), (13, 0, 23), (14, 1, 1), (15, (-1), 9), (16, (-1), 8), (17, 0, 10), (18, 0, 8), (19, 0, 10), (20, 0, 11), (21, 0, 9), (22, (-2147483648), 2147483647), (23, (-2147483648), 2147483647)] [1, 2, 9, 10, 11, 12, 13, 14, 15, 16, 35, 36, 37, 38, 39, 40, 41, 42] (by decide +kernel) (fun ρ α => by
  intro r4 g4 b4 r5 g5 b5 r6 g6 b6 r13 g13 b13 r14 g14 b14 r15 g15 b15 r16 g16 b16 r17 g17 b17 r18 g18 b18 r19 g19 b19 r20 g20 b20 r21 g21 b21 r22 g22 b22 r23 g23 b23 a1 h1 a2 h2 a9 h9 a10 h10 a11 h11 a12 h12 a13 h13 a14 h14 a15 h15 a16 h16 a35 h35 a36 h36 a37 h37 a38 h38 a39 h39 a40 h40 a41 h41 a42 h42 f0 f1 f2 f3 f4 f5 f6 f7 f8 f9 f10 f11 tt
  clear f0
  have e78 : PT 78 = P_ly := pe78_13 hp
  have e105 : PT 105 = P_cp2 := pe105_13 hp
  have e106 : PT 106 = P_rd := pe106_13 hp
  have e183 : PT 183 = P_kyI := pe183_13 hp
  have e184 : PT 184 = P_kyP := pe184_13 hp
  simp only [hF0, hF3, hF20, hFp_78, hFp_105, hFp_106, hFp_183, hFp_184, e78, e105, e106, e183, e184, P_ly, P_cp2, P_rd, P_kyI, P_kyP, den_s, den_c, Int.add_zero, List.map_cons, List.map_nil, g4.eq, g5.eq, g6.eq, g13.eq, g14.eq, g15.eq, g16.eq, g17.eq, g18.eq, g19.eq, g20.eq, g21.eq, g22.eq, g23.eq, h1, h2, h9, h10, h11, h12, h13, h14, h15, h16, h35, h36, h37, h38, h39, h40, h41, h42] at f1 f2 f3 f4 f5 f6 f7 f8 f9 f10 f11 ⊢
  subst f4
  have hh := f5
  rw [show r17 = r19 by omega] at hh
  refine ⟨f2, _, _, hh, ?_, ?_⟩
  all_goals (intro q; first | rfl | (exfalso; omega)))
def w_keepBest_1_1 : VC := ((bY ++ [(0, 23), (0, 0), ((-1), 9), ((-1), 8), (0, 10), (0, 8), (0, 10), (0, 11), (0, 9), ((-2147483648), 2147483647), ((-2147483648), 2147483647)]), [(0, [(some 14, 0), (none, 0)], []), (3, [(some 17, 0), (some 19, 0)], []), (106, [(some 18, 0), (some 19, 0)], [1, 2, 35, 36, 37, 38, 39, 40]), (105, [(some 4, 0)], [9, 10, 41, 42]), (20, [(some 13, 0), (some 4, 0)], [41]), (183, [(some 17, 0), (some 15, 0), (some 16, 0), (some 13, 0), (some 18, 0), (some 19, 0), (some 4, 0), (some 5, 0), (some 6, 0)], [35, 36, 37, 38, 39, 40, 9, 10, 11, 12, 13, 14, 15, 16]), (0, [(some 20, 0), (some 19, 0)], []), (0, [(some 22, 0), (none, 0)], []), (0, [(some 23, 0), (none, 0)], []), (0, [(some 21, 0), (some 4, 1)], []), (3, [(some 19, 0), (some 17, 0)], []), (78, [], [1])], (184, [(some 15, 0), (some 13, 0), (some 14, 0), (some 18, 0), (some 19, 0), (some 4, 0), (some 5, 0), (some 6, 0)], [1, 2, 35, 36, 37, 38, 39, 40, 9, 10, 11, 12, 13, 14, 15, 16]))
set_option maxRecDepth 20000 in
theorem v_keepBest_1_1 {PT : PTy} (hp : HP13 PT) : vcOk PT w_keepBest_1_1 := vc_iv [(4, 0, 8), (5, 0, 6), (6, 0, 6), (13, 0, 23), (14, 0, 0), (15, (-1), 9), (16, (-1), 8), (17, 0, 10), (18, 0, 8), (19, 0, 10), (20, 0, 11), (21, 0, 9), (22, (-2147483648), 2147483647), (23, (-2147483648), 2147483647)] [1, 2, 9, 10, 11, 12, 13, 14, 15, 16, 35, 36, 37, 38, 39, 40, 41, 42] (by decide +kernel) (fun ρ α => by
  intro r4 g4 b4 r5 g5 b5 r6 g6 b6 r13 g13 b13 r14 g14 b14 r15 g15 b15 r16 g16 b16 r17 g17 b17 r18 g18 b18 r19 g19 b19 r20 g20 b20 r21 g21 b21 r22 g22 b22 r23 g23 b23 a1 h1 a2 h2 a9 h9 a10 h10 a11 h11 a12 h12 a13 h13 a14 h14 a15 h15 a16 h16 a35 h35 a36 h36 a37 h37 a38 h38 a39 h39 a40 h40 a41 h41 a42 h42 f0 f1 f2 f3 f4 f5 f6 f7 f8 f9 f10 f11 tt
  have e78 : PT 78 = P_ly := pe78_13 hp
  have e105 : PT 105 = P_cp2 := pe105_13 hp
  have e106 : PT 106 = P_rd := pe106_13 hp
  have e183 : PT 183 = P_kyI := pe183_13 hp
  have e184 : PT 184 = P_kyP := pe184_13 hp
  simp only [hF0, hF3, hF20, hFp_78, hFp_105, hFp_106, hFp_183, hFp_184, e78, e105, e106, e183, e184, P_ly, P_cp2, P_rd, P_kyI, P_kyP, den_s, den_c, Int.add_zero, List.map_cons, List.map_nil, g4.eq, g5.eq, g6.eq, g13.eq, g14.eq, g15.eq, g16.eq, g17.eq, g18.eq, g19.eq, g20.eq, g21.eq, g22.eq, g23.eq, h1, h2, h9, h10, h11, h12, h13, h14, h15, h16, h35, h36, h37, h38, h39, h40, h41, h42] at f0 f1 f2 f3 f4 f5 f6 f7 f8 f9 f10 f11 ⊢
  subst f4
  have hh := f5
  rw [show r17 = r19 by omega] at hh
  refine ⟨f2, _, _, hh, ?_, ?_⟩
  all_goals (intro q; first | rfl | (exfalso; omega)))
def w_keepBest_1_2 : VC := ((bY ++ [(0, 23), (0, 1), ((-1), 9), (0, 8), (0, 9), (0, 8), (1, 10), (0, 11), (0, 9), ((-2147483648), 2147483647), ((-2147483648), 2147483647), (0, 8)]), [(3, [(some 16, 0), (some 24, 0)], []), (3, [(some 16, 0), (some 24, 0)], []), (174, [(some 24, 0), (some 18, 0), (none, 23)], [53, 36]), (104, [(none, 24), (some 18, 0), (some 20, 0), (some 19, 0), (some 21, 0), (some 5, 0), (some 6, 0), (some 22, 0), (some 23, 0)], [35, 36, 37, 38, 39, 40, 41, 49, 11, 12, 13, 14, 15, 16, 43, 44, 45, 50, 51, 52, 53, 54, 55]), (21, [(some 4, 0), (some 17, 0)], [49, 42]), (2, [(some 17, 0), (some 19, 0)], []), (106, [(some 18, 0), (some 19, 0)], [1, 2, 35, 36, 37, 38, 39, 40]), (105, [(some 4, 0)], [9, 10, 41, 42]), (20, [(some 13, 0), (some 4, 0)], [41]), (183, [(some 17, 0), (some 15, 0), (some 16, 0), (some 13, 0), (some 18, 0), (some 19, 0), (some 4, 0), (some 5, 0), (some 6, 0)], [35, 36, 37, 38, 39, 40, 9, 10, 11, 12, 13, 14, 15, 16]), (0, [(some 20, 0), (some 19, 0)], []), (0, [(some 22, 0), (none, 0)], []), (0, [(some 23, 0), (none, 0)], []), (0, [(some 21, 0), (some 4, 1)], []), (3, [(some 19, 0), (some 17, 0)], []), (78, [], [1])], (105, [(some 4, 0)], [9, 10, 41, 49]))
theorem pe104_13 {PT : PTy} (hp : HP13 PT) : PT 104 = P_ru := hp.1.1.1.1.1.1.1.1.2.2.2.2.2.2.2.2.2.2.1
theorem pe174_13 {PT : PTy} (hp : HP13 PT) : PT 174 = P_cnY := hp.1.2.2.2.2.2.2.2.2.2.2.2.2.1
set_option maxRecDepth 20000 in
theorem v_keepBest_1_2 {PT : PTy} (hp : HP13 PT) : vcOk PT w_keepBest_1_2 := vc_iv [(4, 0, 8), (5, 0, 6), (6, 0, 6), (13, 0, 23), (15, (-1), 9), (16, 0, 8), (17, 0, 9), (18, 0, 8), (19, 1, 10), (20, 0, 11), (21, 0, 9), (22, (-2147483648), 2147483647), (23, (-2147483648), 2147483647), (24, 0, 8)] [1, 2, 9, 10, 11, 12, 13, 14, 15, 16, 35, 36, 37, 38, 39, 40, 41, 42, 43, 44, 45, 49, 50, 51, 52, 53, 54, 55] (by decide +kernel) (fun ρ α => by
  intro r4 g4 b4 r5 g5 b5 r6 g6 b6 r13 g13 b13 r15 g15 b15 r16 g16 b16 r17 g17 b17 r18 g18 b18 r19 g19 b19 r20 g20 b20 r21 g21 b21 r22 g22 b22 r23 g23 b23 r24 g24 b24 a1 h1 a2 h2 a9 h9 a10 h10 a11 h11 a12 h12 a13 h13 a14 h14 a15 h15 a16 h16 a35 h35 a36 h36 a37 h37 a38 h38 a39 h39 a40 h40 a41 h41 a42 h42 a43 h43 a44 h44 a45 h45 a49 h49 a50 h50 a51 h51 a52 h52 a53 h53 a54 h54 a55 h55 f0 f1 f2 f3 f4 f5 f6 f7 f8 f9 f10 f11 f12 f13 f14 f15 tt
  clear f1
  have e78 : PT 78 = P_ly := pe78_13 hp
  have e104 : PT 104 = P_ru := pe104_13 hp
  have e105 : PT 105 = P_cp2 := pe105_13 hp
  have e106 : PT 106 = P_rd := pe106_13 hp
  have e174 : PT 174 = P_cnY := pe174_13 hp
  have e183 : PT 183 = P_kyI := pe183_13 hp
  simp only [hF0, hF2, hF3, hF20, hF21, hFp_78, hFp_104, hFp_105, hFp_106, hFp_174, hFp_183, e78, e104, e105, e106, e174, e183, P_ly, P_ru, P_cp2, P_rd, P_cnY, P_kyI, den_s, den_c, Int.add_zero, List.map_cons, List.map_nil, g4.eq, g5.eq, g6.eq, g13.eq, g15.eq, g16.eq, g17.eq, g18.eq, g19.eq, g20.eq, g21.eq, g22.eq, g23.eq, g24.eq, h1, h2, h9, h10, h11, h12, h13, h14, h15, h16, h35, h36, h37, h38, h39, h40, h41, h42, h43, h44, h45, h49, h50, h51, h52, h53, h54, h55] at f0 f2 f3 f4 f5 f6 f7 f8 f9 f10 f11 f12 f13 f14 f15 ⊢
  subst f4
  subst f8
  intro j h1 h2
  have := f7 j h1 h2
  try rw [updI_ne (by omega)]
  try rw [updI_ne (by omega)]
  exact this)
def w_keepBest_1_3 : VC := ((bY ++ [(0, 23), (0, 1), ((-1), 9), (0, 8), (0, 9), (0, 8), (1, 10), (0, 11), (0, 9), ((-2147483648), 2147483647), ((-2147483648), 2147483647), (0, 8)]), [(3, [(some 16, 0), (some 24, 0)], []), (3, [(some 16, 0), (some 24, 0)], []), (174, [(some 24, 0), (some 18, 0), (none, 23)], [53, 36]), (104, [(none, 24), (some 18, 0), (some 20, 0), (some 19, 0), (some 21, 0), (some 5, 0), (some 6, 0), (some 22, 0), (some 23, 0)], [35, 36, 37, 38, 39, 40, 41, 49, 11, 12, 13, 14, 15, 16, 43, 44, 45, 50, 51, 52, 53, 54, 55]), (21, [(some 4, 0), (some 17, 0)], [49, 42]), (2, [(some 17, 0), (some 19, 0)], []), (106, [(some 18, 0), (some 19, 0)], [1, 2, 35, 36, 37, 38, 39, 40]), (105, [(some 4, 0)], [9, 10, 41, 42]), (20, [(some 13, 0), (some 4, 0)], [41]), (183, [(some 17, 0), (some 15, 0), (some 16, 0), (some 13, 0), (some 18, 0), (some 19, 0), (some 4, 0), (some 5, 0), (some 6, 0)], [35, 36, 37, 38, 39, 40, 9, 10, 11, 12, 13, 14, 15, 16]), (0, [(some 20, 0), (some 19, 0)], []), (0, [(some 22, 0), (none, 0)], []), (0, [(some 23, 0), (none, 0)], []), (0, [(some 21, 0), (some 4, 1)], []), (3, [(some 19, 0), (some 17, 0)], []), (78, [], [1])], (183, [(some 17, 1), (some 15, 0), (some 16, 0), (some 13, 0), (some 18, 0), (some 19, 0), (some 4, 0), (some 5, 0), (some 6, 0)], [35, 36, 37, 38, 39, 40, 9, 10, 11, 12, 13, 14, 15, 16]))
set_option maxRecDepth 20000 in
theorem v_keepBest_1_3 {PT : PTy} (hp : HP13 PT) : vcOk PT w_keepBest_1_3 := vc_iv [(4, 0, 8), (5, 0, 6), (6, 0, 6), (13, 0, 23), (15, (-1), 9), (16, 0, 8), (17, 0, 9), (18, 0, 8), (19, 1, 10), (20, 0, 11), (21, 0, 9), (22, (-2147483648), 2147483647), (23, (-2147483648), 2147483647), (24, 0, 8)] [1, 2, 9, 10, 11, 12, 13, 14, 15, 16, 35, 36, 37, 38, 39, 40, 41, 42, 43, 44, 45, 49, 50, 51, 52, 53, 54, 55] (by decide +kernel) (fun ρ α => by
  intro r4 g4 b4 r5 g5 b5 r6 g6 b6 r13 g13 b13 r15 g15 b15 r16 g16 b16 r17 g17 b17 r18 g18 b18 r19 g19 b19 r20 g20 b20 r21 g21 b21 r22 g22 b22 r23 g23 b23 r24 g24 b24 a1 h1 a2 h2 a9 h9 a10 h10 a11 h11 a12 h12 a13 h13 a14 h14 a15 h15 a16 h16 a35 h35 a36 h36 a37 h37 a38 h38 a39 h39 a40 h40 a41 h41 a42 h42 a43 h43 a44 h44 a45 h45 a49 h49 a50 h50 a51 h51 a52 h52 a53 h53 a54 h54 a55 h55 f0 f1 f2 f3 f4 f5 f6 f7 f8 f9 f10 f11 f12 f13 f14 f15 tt
  clear f1
  have e78 : PT 78 = P_ly := pe78_13 hp
  have e104 : PT 104 = P_ru := pe104_13 hp
  have e105 : PT 105 = P_cp2 := pe105_13 hp
  have e106 : PT 106 = P_rd := pe106_13 hp
  have e174 : PT 174 = P_cnY := pe174_13 hp
  have e183 : PT 183 = P_kyI := pe183_13 hp
  simp only [hF0, hF2, hF3, hF20, hF21, hFp_78, hFp_104, hFp_105, hFp_106, hFp_174, hFp_183, e78, e104, e105, e106, e174, e183, P_ly, P_ru, P_cp2, P_rd, P_cnY, P_kyI, den_s, den_c, Int.add_zero, List.map_cons, List.map_nil, g4.eq, g5.eq, g6.eq, g13.eq, g15.eq, g16.eq, g17.eq, g18.eq, g19.eq, g20.eq, g21.eq, g22.eq, g23.eq, g24.eq, h1, h2, h9, h10, h11, h12, h13, h14, h15, h16, h35, h36, h37, h38, h39, h40, h41, h42, h43, h44, h45, h49, h50, h51, h52, h53, h54, h55] at f0 f2 f3 f4 f5 f6 f7 f8 f9 f10 f11 f12 f13 f14 f15 ⊢
  subst f4
  subst f8
  obtain ⟨h1, h2⟩ := f3
  have e1 : r20 = r19 := by omega
  have e2 : r22 = 0 := by omega
  have e3 : r23 = 0 := by omega
  have e4 : r21 = r4 + 1 := by omega
  rw [e1, e2, e3, e4] at h1 h2
  have hc := (f2).1
  have hp := f7
  have hi := f9
  subst hc
  first
    | (exfalso; omega)
    | exact obS_t hi (by omega) ⟨_, _, _, _, _, _, _, _, fun i i1 i2 => (by rw [updI_ne (by omega)]; exact hp i i1 i2), (by first | rfl | exact updI_at _ _ _ | omega), updI_at _ _ _, ⟨_, _, _, h1, h2⟩, rfl⟩ (by omega) (by rw [cnt_G]; exact (cntG_nn _ _).1)
    | exact obS_k hi (by omega) ⟨_, _, _, _, _, _, _, _, fun i i1 i2 => (by rw [updI_ne (by omega)]; exact hp i i1 i2), (by first | rfl | exact updI_at _ _ _ | omega), updI_at _ _ _, ⟨_, _, _, h1, h2⟩, rfl⟩ (by omega) (by rw [cnt_G]; exact (cntG_nn _ _).1))
def w_keepBest_1_4 : VC := ((bY ++ [(0, 23), (0, 1), ((-1), 9), (0, 8), (0, 9), (0, 8), (1, 10), (0, 11), (0, 9), ((-2147483648), 2147483647), ((-2147483648), 2147483647), (0, 8)]), [(3, [(some 16, 0), (some 24, 0)], []), (3, [(some 16, 0), (some 24, 0)], []), (174, [(some 24, 0), (some 18, 0), (none, 23)], [53, 36]), (104, [(none, 24), (some 18, 0), (some 20, 0), (some 19, 0), (some 21, 0), (some 5, 0), (some 6, 0), (some 22, 0), (some 23, 0)], [35, 36, 37, 38, 39, 40, 41, 49, 11, 12, 13, 14, 15, 16, 43, 44, 45, 50, 51, 52, 53, 54, 55]), (21, [(some 4, 0), (some 17, 0)], [49, 42]), (2, [(some 17, 0), (some 19, 0)], []), (106, [(some 18, 0), (some 19, 0)], [1, 2, 35, 36, 37, 38, 39, 40]), (105, [(some 4, 0)], [9, 10, 41, 42]), (20, [(some 13, 0), (some 4, 0)], [41]), (183, [(some 17, 0), (some 15, 0), (some 16, 0), (some 13, 0), (some 18, 0), (some 19, 0), (some 4, 0), (some 5, 0), (some 6, 0)], [35, 36, 37, 38, 39, 40, 9, 10, 11, 12, 13, 14, 15, 16]), (0, [(some 20, 0), (some 19, 0)], []), (0, [(some 22, 0), (none, 0)], []), (0, [(some 23, 0), (none, 0)], []), (0, [(some 21, 0), (some 4, 1)], []), (3, [(some 19, 0), (some 17, 0)], []), (78, [], [1])], (3, [(some 19, 0), (some 17, 1)], []))
set_option maxRecDepth 20000 in
theorem v_keepBest_1_4 {PT : PTy} (hp : HP13 PT) : vcOk PT w_keepBest_1_4 := vc_iv [(4, 0, 8), (5, 0, 6), (6, 0, 6), (13, 0, 23), (15, (-1), 9), (16, 0, 8), (17, 0, 9), (18, 0, 8), (19, 1, 10), (20, 0, 11), (21, 0, 9), (22, (-2147483648), 2147483647), (23, (-2147483648), 2147483647), (24, 0, 8)] [1, 2, 9, 10, 11, 12, 13, 14, 15, 16, 35, 36, 37, 38, 39, 40, 41, 42, 43, 44, 45, 49, 50, 51, 52, 53, 54, 55] (by decide +kernel) (fun ρ α => by
  intro r4 g4 b4 r5 g5 b5 r6 g6 b6 r13 g13 b13 r15 g15 b15 r16 g16 b16 r17 g17 b17 r18 g18 b18 r19 g19 b19 r20 g20 b20 r21 g21 b21 r22 g22 b22 r23 g23 b23 r24 g24 b24 a1 h1 a2 h2 a9 h9 a10 h10 a11 h11 a12 h12 a13 h13 a14 h14 a15 h15 a16 h16 a35 h35 a36 h36 a37 h37 a38 h38 a39 h39 a40 h40 a41 h41 a42 h42 a43 h43 a44 h44 a45 h45 a49 h49 a50 h50 a51 h51 a52 h52 a53 h53 a54 h54 a55 h55 f0 f1 f2 f3 f4 f5 f6 f7 f8 f9 f10 f11 f12 f13 f14 f15 tt
  clear f1
  have e78 : PT 78 = P_ly := pe78_13 hp
  have e104 : PT 104 = P_ru := pe104_13 hp
  have e105 : PT 105 = P_cp2 := pe105_13 hp
  have e106 : PT 106 = P_rd := pe106_13 hp
  have e174 : PT 174 = P_cnY := pe174_13 hp
  have e183 : PT 183 = P_kyI := pe183_13 hp
  simp only [hF0, hF2, hF3, hF20, hF21, hFp_78, hFp_104, hFp_105, hFp_106, hFp_174, hFp_183, e78, e104, e105, e106, e174, e183, P_ly, P_ru, P_cp2, P_rd, P_cnY, P_kyI, den_s, den_c, Int.add_zero, List.map_cons, List.map_nil, g4.eq, g5.eq, g6.eq, g13.eq, g15.eq, g16.eq, g17.eq, g18.eq, g19.eq, g20.eq, g21.eq, g22.eq, g23.eq, g24.eq, h1, h2, h9, h10, h11, h12, h13, h14, h15, h16, h35, h36, h37, h38, h39, h40, h41, h42, h43, h44, h45, h49, h50, h51, h52, h53, h54, h55] at f0 f2 f3 f4 f5 f6 f7 f8 f9 f10 f11 f12 f13 f14 f15 ⊢
  subst f4
  subst f8
  omega)
def w_keepBest_1_5 : VC := ((bY ++ [(0, 23), (0, 1), ((-1), 9), (0, 7), (0, 9), (0, 8), (1, 10), (0, 11), (0, 9), ((-2147483648), 2147483647), ((-2147483648), 2147483647), (1, 8)]), [(2, [(some 16, 0), (some 24, 0)], []), (3, [(some 16, 0), (some 24, 0)], []), (174, [(some 24, 0), (some 18, 0), (none, 23)], [53, 36]), (104, [(none, 24), (some 18, 0), (some 20, 0), (some 19, 0), (some 21, 0), (some 5, 0), (some 6, 0), (some 22, 0), (some 23, 0)], [35, 36, 37, 38, 39, 40, 41, 49, 11, 12, 13, 14, 15, 16, 43, 44, 45, 50, 51, 52, 53, 54, 55]), (21, [(some 4, 0), (some 17, 0)], [49, 42]), (2, [(some 17, 0), (some 19, 0)], []), (106, [(some 18, 0), (some 19, 0)], [1, 2, 35, 36, 37, 38, 39, 40]), (105, [(some 4, 0)], [9, 10, 41, 42]), (20, [(some 13, 0), (some 4, 0)], [41]), (183, [(some 17, 0), (some 15, 0), (some 16, 0), (some 13, 0), (some 18, 0), (some 19, 0), (some 4, 0), (some 5, 0), (some 6, 0)], [35, 36, 37, 38, 39, 40, 9, 10, 11, 12, 13, 14, 15, 16]), (0, [(some 20, 0), (some 19, 0)], []), (0, [(some 22, 0), (none, 0)], []), (0, [(some 23, 0), (none, 0)], []), (0, [(some 21, 0), (some 4, 1)], []), (3, [(some 19, 0), (some 17, 0)], []), (78, [], [1])], (105, [(some 4, 0)], [9, 10, 41, 49]))
set_option maxRecDepth 20000 in
theorem v_keepBest_1_5 {PT : PTy} (hp : HP13 PT) : vcOk PT w_keepBest_1_5 := vc_iv [(4, 0, 8), (5, 0, 6), (6, 0, 6), (13, 0, 23), (15, (-1), 9), (16, 0, 7), (17, 0, 9), (18, 0, 8), (19, 1, 10), (20, 0, 11), (21, 0, 9), (22, (-2147483648), 2147483647), (23, (-2147483648), 2147483647), (24, 1, 8)] [1, 2, 9, 10, 11, 12, 13, 14, 15, 16, 35, 36, 37, 38, 39, 40, 41, 42, 43, 44, 45, 49, 50, 51, 52, 53, 54, 55] (by decide +kernel) (fun ρ α => by
  intro r4 g4 b4 r5 g5 b5 r6 g6 b6 r13 g13 b13 r15 g15 b15 r16 g16 b16 r17 g17 b17 r18 g18 b18 r19 g19 b19 r20 g20 b20 r21 g21 b21 r22 g22 b22 r23 g23 b23 r24 g24 b24 a1 h1 a2 h2 a9 h9 a10 h10 a11 h11 a12 h12 a13 h13 a14 h14 a15 h15 a16 h16 a35 h35 a36 h36 a37 h37 a38 h38 a39 h39 a40 h40 a41 h41 a42 h42 a43 h43 a44 h44 a45 h45 a49 h49 a50 h50 a51 h51 a52 h52 a53 h53 a54 h54 a55 h55 f0 f1 f2 f3 f4 f5 f6 f7 f8 f9 f10 f11 f12 f13 f14 f15 tt
  have e78 : PT 78 = P_ly := pe78_13 hp
  have e104 : PT 104 = P_ru := pe104_13 hp
  have e105 : PT 105 = P_cp2 := pe105_13 hp
  have e106 : PT 106 = P_rd := pe106_13 hp
  have e174 : PT 174 = P_cnY := pe174_13 hp
  have e183 : PT 183 = P_kyI := pe183_13 hp
  simp only [hF0, hF2, hF3, hF20, hF21, hFp_78, hFp_104, hFp_105, hFp_106, hFp_174, hFp_183, e78, e104, e105, e106, e174, e183, P_ly, P_ru, P_cp2, P_rd, P_cnY, P_kyI, den_s, den_c, Int.add_zero, List.map_cons, List.map_nil, g4.eq, g5.eq, g6.eq, g13.eq, g15.eq, g16.eq, g17.eq, g18.eq, g19.eq, g20.eq, g21.eq, g22.eq, g23.eq, g24.eq, h1, h2, h9, h10, h11, h12, h13, h14, h15, h16, h35, h36, h37, h38, h39, h40, h41, h42, h43, h44, h45, h49, h50, h51, h52, h53, h54, h55] at f0 f1 f2 f3 f4 f5 f6 f7 f8 f9 f10 f11 f12 f13 f14 f15 ⊢
  subst f4
  subst f8
  intro j h1 h2
  have := f7 j h1 h2
  try rw [updI_ne (by omega)]
  try rw [updI_ne (by omega)]
  exact this)
def w_keepBest_1_6 : VC := ((bY ++ [(0, 23), (0, 1), ((-1), 9), (0, 7), (0, 9), (0, 8), (1, 10), (0, 11), (0, 9), ((-2147483648), 2147483647), ((-2147483648), 2147483647), (1, 8)]), [(2, [(some 16, 0), (some 24, 0)], []), (3, [(some 16, 0), (some 24, 0)], []), (174, [(some 24, 0), (some 18, 0), (none, 23)], [53, 36]), (104, [(none, 24), (some 18, 0), (some 20, 0), (some 19, 0), (some 21, 0), (some 5, 0), (some 6, 0), (some 22, 0), (some 23, 0)], [35, 36, 37, 38, 39, 40, 41, 49, 11, 12, 13, 14, 15, 16, 43, 44, 45, 50, 51, 52, 53, 54, 55]), (21, [(some 4, 0), (some 17, 0)], [49, 42]), (2, [(some 17, 0), (some 19, 0)], []), (106, [(some 18, 0), (some 19, 0)], [1, 2, 35, 36, 37, 38, 39, 40]), (105, [(some 4, 0)], [9, 10, 41, 42]), (20, [(some 13, 0), (some 4, 0)], [41]), (183, [(some 17, 0), (some 15, 0), (some 16, 0), (some 13, 0), (some 18, 0), (some 19, 0), (some 4, 0), (some 5, 0), (some 6, 0)], [35, 36, 37, 38, 39, 40, 9, 10, 11, 12, 13, 14, 15, 16]), (0, [(some 20, 0), (some 19, 0)], []), (0, [(some 22, 0), (none, 0)], []), (0, [(some 23, 0), (none, 0)], []), (0, [(some 21, 0), (some 4, 1)], []), (3, [(some 19, 0), (some 17, 0)], []), (78, [], [1])], (183, [(some 17, 1), (some 15, 0), (some 24, 0), (some 13, 0), (some 18, 0), (some 19, 0), (some 4, 0), (some 5, 0), (some 6, 0)], [35, 36, 37, 38, 39, 40, 9, 10, 11, 12, 13, 14, 15, 16]))
set_option maxRecDepth 20000 in
theorem v_keepBest_1_6 {PT : PTy} (hp : HP13 PT) : vcOk PT w_keepBest_1_6 := vc_iv [(4, 0, 8), (5, 0, 6), (6, 0, 6), (13, 0, 23), (15, (-1), 9), (16, 0, 7), (17, 0, 9), (18, 0, 8), (19, 1, 10), (20, 0, 11), (21, 0, 9), (22, (-2147483648), 2147483647), (23, (-2147483648), 2147483647), (24, 1, 8)] [1, 2, 9, 10, 11, 12, 13, 14, 15, 16, 35, 36, 37, 38, 39, 40, 41, 42, 43, 44, 45, 49, 50, 51, 52, 53, 54, 55] (by decide +kernel) (fun ρ α => by
  intro r4 g4 b4 r5 g5 b5 r6 g6 b6 r13 g13 b13 r15 g15 b15 r16 g16 b16 r17 g17 b17 r18 g18 b18 r19 g19 b19 r20 g20 b20 r21 g21 b21 r22 g22 b22 r23 g23 b23 r24 g24 b24 a1 h1 a2 h2 a9 h9 a10 h10 a11 h11 a12 h12 a13 h13 a14 h14 a15 h15 a16 h16 a35 h35 a36 h36 a37 h37 a38 h38 a39 h39 a40 h40 a41 h41 a42 h42 a43 h43 a44 h44 a45 h45 a49 h49 a50 h50 a51 h51 a52 h52 a53 h53 a54 h54 a55 h55 f0 f1 f2 f3 f4 f5 f6 f7 f8 f9 f10 f11 f12 f13 f14 f15 tt
  have e78 : PT 78 = P_ly := pe78_13 hp
  have e104 : PT 104 = P_ru := pe104_13 hp
  have e105 : PT 105 = P_cp2 := pe105_13 hp
  have e106 : PT 106 = P_rd := pe106_13 hp
  have e174 : PT 174 = P_cnY := pe174_13 hp
  have e183 : PT 183 = P_kyI := pe183_13 hp
  simp only [hF0, hF2, hF3, hF20, hF21, hFp_78, hFp_104, hFp_105, hFp_106, hFp_174, hFp_183, e78, e104, e105, e106, e174, e183, P_ly, P_ru, P_cp2, P_rd, P_cnY, P_kyI, den_s, den_c, Int.add_zero, List.map_cons, List.map_nil, g4.eq, g5.eq, g6.eq, g13.eq, g15.eq, g16.eq, g17.eq, g18.eq, g19.eq, g20.eq, g21.eq, g22.eq, g23.eq, g24.eq, h1, h2, h9, h10, h11, h12, h13, h14, h15, h16, h35, h36, h37, h38, h39, h40, h41, h42, h43, h44, h45, h49, h50, h51, h52, h53, h54, h55] at f0 f1 f2 f3 f4 f5 f6 f7 f8 f9 f10 f11 f12 f13 f14 f15 ⊢
  subst f4
  subst f8
  obtain ⟨h1, h2⟩ := f3
  have e1 : r20 = r19 := by omega
  have e2 : r22 = 0 := by omega
  have e3 : r23 = 0 := by omega
  have e4 : r21 = r4 + 1 := by omega
  rw [e1, e2, e3, e4] at h1 h2
  have hc := (f2).1
  have hp := f7
  have hi := f9
  subst hc
  first
    | (exfalso; omega)
    | exact obS_t hi (by omega) ⟨_, _, _, _, _, _, _, _, fun i i1 i2 => (by rw [updI_ne (by omega)]; exact hp i i1 i2), (by first | rfl | exact updI_at _ _ _ | omega), updI_at _ _ _, ⟨_, _, _, h1, h2⟩, rfl⟩ (by omega) (by rw [cnt_G]; exact (cntG_nn _ _).1)
    | exact obS_k hi (by omega) ⟨_, _, _, _, _, _, _, _, fun i i1 i2 => (by rw [updI_ne (by omega)]; exact hp i i1 i2), (by first | rfl | exact updI_at _ _ _ | omega), updI_at _ _ _, ⟨_, _, _, h1, h2⟩, rfl⟩ (by omega) (by rw [cnt_G]; exact (cntG_nn _ _).1))
def w_keepBest_1_7 : VC := ((bY ++ [(0, 23), (0, 1), ((-1), 9), (0, 7), (0, 9), (0, 8), (1, 10), (0, 11), (0, 9), ((-2147483648), 2147483647), ((-2147483648), 2147483647), (1, 8)]), [(2, [(some 16, 0), (some 24, 0)], []), (3, [(some 16, 0), (some 24, 0)], []), (174, [(some 24, 0), (some 18, 0), (none, 23)], [53, 36]), (104, [(none, 24), (some 18, 0), (some 20, 0), (some 19, 0), (some 21, 0), (some 5, 0), (some 6, 0), (some 22, 0), (some 23, 0)], [35, 36, 37, 38, 39, 40, 41, 49, 11, 12, 13, 14, 15, 16, 43, 44, 45, 50, 51, 52, 53, 54, 55]), (21, [(some 4, 0), (some 17, 0)], [49, 42]), (2, [(some 17, 0), (some 19, 0)], []), (106, [(some 18, 0), (some 19, 0)], [1, 2, 35, 36, 37, 38, 39, 40]), (105, [(some 4, 0)], [9, 10, 41, 42]), (20, [(some 13, 0), (some 4, 0)], [41]), (183, [(some 17, 0), (some 15, 0), (some 16, 0), (some 13, 0), (some 18, 0), (some 19, 0), (some 4, 0), (some 5, 0), (some 6, 0)], [35, 36, 37, 38, 39, 40, 9, 10, 11, 12, 13, 14, 15, 16]), (0, [(some 20, 0), (some 19, 0)], []), (0, [(some 22, 0), (none, 0)], []), (0, [(some 23, 0), (none, 0)], []), (0, [(some 21, 0), (some 4, 1)], []), (3, [(some 19, 0), (some 17, 0)], []), (78, [], [1])], (3, [(some 19, 0), (some 17, 1)], []))
set_option maxRecDepth 20000 in
theorem v_keepBest_1_7 {PT : PTy} (hp : HP13 PT) : vcOk PT w_keepBest_1_7 := vc_iv [(4, 0, 8), (5, 0, 6), (6, 0, 6), (13, 0, 23), (15, (-1), 9), (16, 0, 7), (17, 0, 9), (18, 0, 8), (19, 1, 10), (20, 0, 11), (21, 0, 9), (22, (-2147483648), 2147483647), (23, (-2147483648), 2147483647), (24, 1, 8)] [1, 2, 9, 10, 11, 12, 13, 14, 15, 16, 35, 36, 37, 38, 39, 40, 41, 42, 43, 44, 45, 49, 50, 51, 52, 53, 54, 55] (by decide +kernel) (fun ρ α => by
  intro r4 g4 b4 r5 g5 b5 r6 g6 b6 r13 g13 b13 r15 g15 b15 r16 g16 b16 r17 g17 b17 r18 g18 b18 r19 g19 b19 r20 g20 b20 r21 g21 b21 r22 g22 b22 r23 g23 b23 r24 g24 b24 a1 h1 a2 h2 a9 h9 a10 h10 a11 h11 a12 h12 a13 h13 a14 h14 a15 h15 a16 h16 a35 h35 a36 h36 a37 h37 a38 h38 a39 h39 a40 h40 a41 h41 a42 h42 a43 h43 a44 h44 a45 h45 a49 h49 a50 h50 a51 h51 a52 h52 a53 h53 a54 h54 a55 h55 f0 f1 f2 f3 f4 f5 f6 f7 f8 f9 f10 f11 f12 f13 f14 f15 tt
  have e78 : PT 78 = P_ly := pe78_13 hp
  have e104 : PT 104 = P_ru := pe104_13 hp
  have e105 : PT 105 = P_cp2 := pe105_13 hp
  have e106 : PT 106 = P_rd := pe106_13 hp
  have e174 : PT 174 = P_cnY := pe174_13 hp
  have e183 : PT 183 = P_kyI := pe183_13 hp
  simp only [hF0, hF2, hF3, hF20, hF21, hFp_78, hFp_104, hFp_105, hFp_106, hFp_174, hFp_183, e78, e104, e105, e106, e174, e183, P_ly, P_ru, P_cp2, P_rd, P_cnY, P_kyI, den_s, den_c, Int.add_zero, List.map_cons, List.map_nil, g4.eq, g5.eq, g6.eq, g13.eq, g15.eq, g16.eq, g17.eq, g18.eq, g19.eq, g20.eq, g21.eq, g22.eq, g23.eq, g24.eq, h1, h2, h9, h10, h11, h12, h13, h14, h15, h16, h35, h36, h37, h38, h39, h40, h41, h42, h43, h44, h45, h49, h50, h51, h52, h53, h54, h55] at f0 f1 f2 f3 f4 f5 f6 f7 f8 f9 f10 f11 f12 f13 f14 f15 ⊢
  subst f4
  subst f8
  omega)
def w_keepBest_1_8 : VC := ((bY ++ [(0, 23), (0, 1), ((-1), 9), (0, 7), (0, 9), (0, 8), (1, 10), (0, 11), (0, 9), ((-2147483648), 2147483647), ((-2147483648), 2147483647), (0, 7)]), [(3, [(some 16, 0), (some 24, 0)], []), (2, [(some 16, 0), (some 24, 0)], []), (174, [(some 24, 0), (some 18, 0), (none, 23)], [53, 36]), (104, [(none, 24), (some 18, 0), (some 20, 0), (some 19, 0), (some 21, 0), (some 5, 0), (some 6, 0), (some 22, 0), (some 23, 0)], [35, 36, 37, 38, 39, 40, 41, 49, 11, 12, 13, 14, 15, 16, 43, 44, 45, 50, 51, 52, 53, 54, 55]), (21, [(some 4, 0), (some 17, 0)], [49, 42]), (2, [(some 17, 0), (some 19, 0)], []), (106, [(some 18, 0), (some 19, 0)], [1, 2, 35, 36, 37, 38, 39, 40]), (105, [(some 4, 0)], [9, 10, 41, 42]), (20, [(some 13, 0), (some 4, 0)], [41]), (183, [(some 17, 0), (some 15, 0), (some 16, 0), (some 13, 0), (some 18, 0), (some 19, 0), (some 4, 0), (some 5, 0), (some 6, 0)], [35, 36, 37, 38, 39, 40, 9, 10, 11, 12, 13, 14, 15, 16]), (0, [(some 20, 0), (some 19, 0)], []), (0, [(some 22, 0), (none, 0)], []), (0, [(some 23, 0), (none, 0)], []), (0, [(some 21, 0), (some 4, 1)], []), (3, [(some 19, 0), (some 17, 0)], []), (78, [], [1])], (105, [(some 4, 0)], [9, 10, 41, 49]))
set_option maxRecDepth 20000 in
theorem v_keepBest_1_8 {PT : PTy} (hp : HP13 PT) : vcOk PT w_keepBest_1_8 := vc_iv [(4, 0, 8), (5, 0, 6), (6, 0, 6), (13, 0, 23), (15, (-1), 9), (16, 0, 7), (17, 0, 9), (18, 0, 8), (19, 1, 10), (20, 0, 11), (21, 0, 9), (22, (-2147483648), 2147483647), (23, (-2147483648), 2147483647), (24, 0, 7)] [1, 2, 9, 10, 11, 12, 13, 14, 15, 16, 35, 36, 37, 38, 39, 40, 41, 42, 43, 44, 45, 49, 50, 51, 52, 53, 54, 55] (by decide +kernel) (fun ρ α => by
  intro r4 g4 b4 r5 g5 b5 r6 g6 b6 r13 g13 b13 r15 g15 b15 r16 g16 b16 r17 g17 b17 r18 g18 b18 r19 g19 b19 r20 g20 b20 r21 g21 b21 r22 g22 b22 r23 g23 b23 r24 g24 b24 a1 h1 a2 h2 a9 h9 a10 h10 a11 h11 a12 h12 a13 h13 a14 h14 a15 h15 a16 h16 a35 h35 a36 h36 a37 h37 a38 h38 a39 h39 a40 h40 a41 h41 a42 h42 a43 h43 a44 h44 a45 h45 a49 h49 a50 h50 a51 h51 a52 h52 a53 h53 a54 h54 a55 h55 f0 f1 f2 f3 f4 f5 f6 f7 f8 f9 f10 f11 f12 f13 f14 f15 tt
  have e78 : PT 78 = P_ly := pe78_13 hp
  have e104 : PT 104 = P_ru := pe104_13 hp
  have e105 : PT 105 = P_cp2 := pe105_13 hp
  have e106 : PT 106 = P_rd := pe106_13 hp
  have e174 : PT 174 = P_cnY := pe174_13 hp
  have e183 : PT 183 = P_kyI := pe183_13 hp
  simp only [hF0, hF2, hF3, hF20, hF21, hFp_78, hFp_104, hFp_105, hFp_106, hFp_174, hFp_183, e78, e104, e105, e106, e174, e183, P_ly, P_ru, P_cp2, P_rd, P_cnY, P_kyI, den_s, den_c, Int.add_zero, List.map_cons, List.map_nil, g4.eq, g5.eq, g6.eq, g13.eq, g15.eq, g16.eq, g17.eq, g18.eq, g19.eq, g20.eq, g21.eq, g22.eq, g23.eq, g24.eq, h1, h2, h9, h10, h11, h12, h13, h14, h15, h16, h35, h36, h37, h38, h39, h40, h41, h42, h43, h44, h45, h49, h50, h51, h52, h53, h54, h55] at f0 f1 f2 f3 f4 f5 f6 f7 f8 f9 f10 f11 f12 f13 f14 f15 ⊢
  subst f4
  subst f8
  intro j h1 h2
  have := f7 j h1 h2
  try rw [updI_ne (by omega)]
  try rw [updI_ne (by omega)]
  exact this)
def w_keepBest_1_9 : VC := ((bY ++ [(0, 23), (0, 1), ((-1), 9), (0, 7), (0, 9), (0, 8), (1, 10), (0, 11), (0, 9), ((-2147483648), 2147483647), ((-2147483648), 2147483647), (0, 7)]), [(3, [(some 16, 0), (some 24, 0)], []), (2, [(some 16, 0), (some 24, 0)], []), (174, [(some 24, 0), (some 18, 0), (none, 23)], [53, 36]), (104, [(none, 24), (some 18, 0), (some 20, 0), (some 19, 0), (some 21, 0), (some 5, 0), (some 6, 0), (some 22, 0), (some 23, 0)], [35, 36, 37, 38, 39, 40, 41, 49, 11, 12, 13, 14, 15, 16, 43, 44, 45, 50, 51, 52, 53, 54, 55]), (21, [(some 4, 0), (some 17, 0)], [49, 42]), (2, [(some 17, 0), (some 19, 0)], []), (106, [(some 18, 0), (some 19, 0)], [1, 2, 35, 36, 37, 38, 39, 40]), (105, [(some 4, 0)], [9, 10, 41, 42]), (20, [(some 13, 0), (some 4, 0)], [41]), (183, [(some 17, 0), (some 15, 0), (some 16, 0), (some 13, 0), (some 18, 0), (some 19, 0), (some 4, 0), (some 5, 0), (some 6, 0)], [35, 36, 37, 38, 39, 40, 9, 10, 11, 12, 13, 14, 15, 16]), (0, [(some 20, 0), (some 19, 0)], []), (0, [(some 22, 0), (none, 0)], []), (0, [(some 23, 0), (none, 0)], []), (0, [(some 21, 0), (some 4, 1)], []), (3, [(some 19, 0), (some 17, 0)], []), (78, [], [1])], (183, [(some 17, 1), (some 17, 0), (some 16, 0), (some 13, 0), (some 18, 0), (some 19, 0), (some 4, 0), (some 5, 0), (some 6, 0)], [35, 36, 37, 38, 39, 40, 9, 10, 11, 12, 13, 14, 15, 16]))
set_option maxRecDepth 20000 in
theorem v_keepBest_1_9 {PT : PTy} (hp : HP13 PT) : vcOk PT w_keepBest_1_9 := vc_iv [(4, 0, 8), (5, 0, 6), (6, 0, 6), (13, 0, 23), (15, (-1), 9), (16, 0, 7), (17, 0, 9), (18, 0, 8), (19, 1, 10), (20, 0, 11), (21, 0, 9), (22, (-2147483648), 2147483647), (23, (-2147483648), 2147483647), (24, 0, 7)] [1, 2, 9, 10, 11, 12, 13, 14, 15, 16, 35, 36, 37, 38, 39, 40, 41, 42, 43, 44, 45, 49, 50, 51, 52, 53, 54, 55] (by decide +kernel) (fun ρ α => by
  intro r4 g4 b4 r5 g5 b5 r6 g6 b6 r13 g13 b13 r15 g15 b15 r16 g16 b16 r17 g17 b17 r18 g18 b18 r19 g19 b19 r20 g20 b20 r21 g21 b21 r22 g22 b22 r23 g23 b23 r24 g24 b24 a1 h1 a2 h2 a9 h9 a10 h10 a11 h11 a12 h12 a13 h13 a14 h14 a15 h15 a16 h16 a35 h35 a36 h36 a37 h37 a38 h38 a39 h39 a40 h40 a41 h41 a42 h42 a43 h43 a44 h44 a45 h45 a49 h49 a50 h50 a51 h51 a52 h52 a53 h53 a54 h54 a55 h55 f0 f1 f2 f3 f4 f5 f6 f7 f8 f9 f10 f11 f12 f13 f14 f15 tt
  have e78 : PT 78 = P_ly := pe78_13 hp
  have e104 : PT 104 = P_ru := pe104_13 hp
  have e105 : PT 105 = P_cp2 := pe105_13 hp
  have e106 : PT 106 = P_rd := pe106_13 hp
  have e174 : PT 174 = P_cnY := pe174_13 hp
  have e183 : PT 183 = P_kyI := pe183_13 hp
  simp only [hF0, hF2, hF3, hF20, hF21, hFp_78, hFp_104, hFp_105, hFp_106, hFp_174, hFp_183, e78, e104, e105, e106, e174, e183, P_ly, P_ru, P_cp2, P_rd, P_cnY, P_kyI, den_s, den_c, Int.add_zero, List.map_cons, List.map_nil, g4.eq, g5.eq, g6.eq, g13.eq, g15.eq, g16.eq, g17.eq, g18.eq, g19.eq, g20.eq, g21.eq, g22.eq, g23.eq, g24.eq, h1, h2, h9, h10, h11, h12, h13, h14, h15, h16, h35, h36, h37, h38, h39, h40, h41, h42, h43, h44, h45, h49, h50, h51, h52, h53, h54, h55] at f0 f1 f2 f3 f4 f5 f6 f7 f8 f9 f10 f11 f12 f13 f14 f15 ⊢
  subst f4
  subst f8
  obtain ⟨h1, h2⟩ := f3
  have e1 : r20 = r19 := by omega
  have e2 : r22 = 0 := by omega
  have e3 : r23 = 0 := by omega
  have e4 : r21 = r4 + 1 := by omega
  rw [e1, e2, e3, e4] at h1 h2
  have hc := (f2).1
  have hp := f7
  have hi := f9
  subst hc
  first
    | (exfalso; omega)
    | exact obS_t hi (by omega) ⟨_, _, _, _, _, _, _, _, fun i i1 i2 => (by rw [updI_ne (by omega)]; exact hp i i1 i2), (by first | rfl | exact updI_at _ _ _ | omega), updI_at _ _ _, ⟨_, _, _, h1, h2⟩, rfl⟩ (by omega) (by rw [cnt_G]; exact (cntG_nn _ _).1)
    | exact obS_k hi (by omega) ⟨_, _, _, _, _, _, _, _, fun i i1 i2 => (by rw [updI_ne (by omega)]; exact hp i i1 i2), (by first | rfl | exact updI_at _ _ _ | omega), updI_at _ _ _, ⟨_, _, _, h1, h2⟩, rfl⟩ (by omega) (by rw [cnt_G]; exact (cntG_nn _ _).1))
def w_keepBest_1_10 : VC := ((bY ++ [(0, 23), (0, 1), ((-1), 9), (0, 7), (0, 9), (0, 8), (1, 10), (0, 11), (0, 9), ((-2147483648), 2147483647), ((-2147483648), 2147483647), (0, 7)]), [(3, [(some 16, 0), (some 24, 0)], []), (2, [(some 16, 0), (some 24, 0)], []), (174, [(some 24, 0), (some 18, 0), (none, 23)], [53, 36]), (104, [(none, 24), (some 18, 0), (some 20, 0), (some 19, 0), (some 21, 0), (some 5, 0), (some 6, 0), (some 22, 0), (some 23, 0)], [35, 36, 37, 38, 39, 40, 41, 49, 11, 12, 13, 14, 15, 16, 43, 44, 45, 50, 51, 52, 53, 54, 55]), (21, [(some 4, 0), (some 17, 0)], [49, 42]), (2, [(some 17, 0), (some 19, 0)], []), (106, [(some 18, 0), (some 19, 0)], [1, 2, 35, 36, 37, 38, 39, 40]), (105, [(some 4, 0)], [9, 10, 41, 42]), (20, [(some 13, 0), (some 4, 0)], [41]), (183, [(some 17, 0), (some 15, 0), (some 16, 0), (some 13, 0), (some 18, 0), (some 19, 0), (some 4, 0), (some 5, 0), (some 6, 0)], [35, 36, 37, 38, 39, 40, 9, 10, 11, 12, 13, 14, 15, 16]), (0, [(some 20, 0), (some 19, 0)], []), (0, [(some 22, 0), (none, 0)], []), (0, [(some 23, 0), (none, 0)], []), (0, [(some 21, 0), (some 4, 1)], []), (3, [(some 19, 0), (some 17, 0)], []), (78, [], [1])], (3, [(some 19, 0), (some 17, 1)], []))
set_option maxRecDepth 20000 in
theorem v_keepBest_1_10 {PT : PTy} (hp : HP13 PT) : vcOk PT w_keepBest_1_10 := vc_iv [(4, 0, 8), (5, 0, 6), (6, 0, 6), (13, 0, 23), (15, (-1), 9), (16, 0, 7), (17, 0, 9), (18, 0, 8), (19, 1, 10), (20, 0, 11), (21, 0, 9), (22, (-2147483648), 2147483647), (23, (-2147483648), 2147483647), (24, 0, 7)] [1, 2, 9, 10, 11, 12, 13, 14, 15, 16, 35, 36, 37, 38, 39, 40, 41, 42, 43, 44, 45, 49, 50, 51, 52, 53, 54, 55] (by decide +kernel) (fun ρ α => by
  intro r4 g4 b4 r5 g5 b5 r6 g6 b6 r13 g13 b13 r15 g15 b15 r16 g16 b16 r17 g17 b17 r18 g18 b18 r19 g19 b19 r20 g20 b20 r21 g21 b21 r22 g22 b22 r23 g23 b23 r24 g24 b24 a1 h1 a2 h2 a9 h9 a10 h10 a11 h11 a12 h12 a13 h13 a14 h14 a15 h15 a16 h16 a35 h35 a36 h36 a37 h37 a38 h38 a39 h39 a40 h40 a41 h41 a42 h42 a43 h43 a44 h44 a45 h45 a49 h49 a50 h50 a51 h51 a52 h52 a53 h53 a54 h54 a55 h55 f0 f1 f2 f3 f4 f5 f6 f7 f8 f9 f10 f11 f12 f13 f14 f15 tt
  have e78 : PT 78 = P_ly := pe78_13 hp
  have e104 : PT 104 = P_ru := pe104_13 hp
  have e105 : PT 105 = P_cp2 := pe105_13 hp
  have e106 : PT 106 = P_rd := pe106_13 hp
  have e174 : PT 174 = P_cnY := pe174_13 hp
  have e183 : PT 183 = P_kyI := pe183_13 hp
  simp only [hF0, hF2, hF3, hF20, hF21, hFp_78, hFp_104, hFp_105, hFp_106, hFp_174, hFp_183, e78, e104, e105, e106, e174, e183, P_ly, P_ru, P_cp2, P_rd, P_cnY, P_kyI, den_s, den_c, Int.add_zero, List.map_cons, List.map_nil, g4.eq, g5.eq, g6.eq, g13.eq, g15.eq, g16.eq, g17.eq, g18.eq, g19.eq, g20.eq, g21.eq, g22.eq, g23.eq, g24.eq, h1, h2, h9, h10, h11, h12, h13, h14, h15, h16, h35, h36, h37, h38, h39, h40, h41, h42, h43, h44, h45, h49, h50, h51, h52, h53, h54, h55] at f0 f1 f2 f3 f4 f5 f6 f7 f8 f9 f10 f11 f12 f13 f14 f15 ⊢
  subst f4
  subst f8
  omega)
def w_keepBest_1_11 : VC := ((bY ++ [(0, 23), (0, 1), ((-1), 9), ((-1), 7), (0, 9), (0, 8), (1, 10), (0, 11), (0, 9), ((-2147483648), 2147483647), ((-2147483648), 2147483647), (0, 8)]), [(2, [(some 16, 0), (some 24, 0)], []), (2, [(some 16, 0), (some 24, 0)], []), (174, [(some 24, 0), (some 18, 0), (none, 23)], [53, 36]), (104, [(none, 24), (some 18, 0), (some 20, 0), (some 19, 0), (some 21, 0), (some 5, 0), (some 6, 0), (some 22, 0), (some 23, 0)], [35, 36, 37, 38, 39, 40, 41, 49, 11, 12, 13, 14, 15, 16, 43, 44, 45, 50, 51, 52, 53, 54, 55]), (21, [(some 4, 0), (some 17, 0)], [49, 42]), (2, [(some 17, 0), (some 19, 0)], []), (106, [(some 18, 0), (some 19, 0)], [1, 2, 35, 36, 37, 38, 39, 40]), (105, [(some 4, 0)], [9, 10, 41, 42]), (20, [(some 13, 0), (some 4, 0)], [41]), (183, [(some 17, 0), (some 15, 0), (some 16, 0), (some 13, 0), (some 18, 0), (some 19, 0), (some 4, 0), (some 5, 0), (some 6, 0)], [35, 36, 37, 38, 39, 40, 9, 10, 11, 12, 13, 14, 15, 16]), (0, [(some 20, 0), (some 19, 0)], []), (0, [(some 22, 0), (none, 0)], []), (0, [(some 23, 0), (none, 0)], []), (0, [(some 21, 0), (some 4, 1)], []), (3, [(some 19, 0), (some 17, 0)], []), (78, [], [1])], (105, [(some 4, 0)], [9, 10, 41, 49]))
set_option maxRecDepth 20000 in
theorem v_keepBest_1_11 {PT : PTy} (hp : HP13 PT) : vcOk PT w_keepBest_1_11 := vc_iv [(4, 0, 8), (5, 0, 6), (6, 0, 6), (13, 0, 23), (15, (-1), 9), (16, (-1), 7), (17, 0, 9), (18, 0, 8), (19, 1, 10), (20, 0, 11), (21, 0, 9), (22, (-2147483648), 2147483647), (23, (-2147483648), 2147483647), (24, 0, 8)] [1, 2, 9, 10, 11, 12, 13, 14, 15, 16, 35, 36, 37, 38, 39, 40, 41, 42, 43, 44, 45, 49, 50, 51, 52, 53, 54, 55] (by decide +kernel) (fun ρ α => by
  intro r4 g4 b4 r5 g5 b5 r6 g6 b6 r13 g13 b13 r15 g15 b15 r16 g16 b16 r17 g17 b17 r18 g18 b18 r19 g19 b19 r20 g20 b20 r21 g21 b21 r22 g22 b22 r23 g23 b23 r24 g24 b24 a1 h1 a2 h2 a9 h9 a10 h10 a11 h11 a12 h12 a13 h13 a14 h14 a15 h15 a16 h16 a35 h35 a36 h36 a37 h37 a38 h38 a39 h39 a40 h40 a41 h41 a42 h42 a43 h43 a44 h44 a45 h45 a49 h49 a50 h50 a51 h51 a52 h52 a53 h53 a54 h54 a55 h55 f0 f1 f2 f3 f4 f5 f6 f7 f8 f9 f10 f11 f12 f13 f14 f15 tt
  clear f1
  have e78 : PT 78 = P_ly := pe78_13 hp
  have e104 : PT 104 = P_ru := pe104_13 hp
  have e105 : PT 105 = P_cp2 := pe105_13 hp
  have e106 : PT 106 = P_rd := pe106_13 hp
  have e174 : PT 174 = P_cnY := pe174_13 hp
  have e183 : PT 183 = P_kyI := pe183_13 hp
  simp only [hF0, hF2, hF3, hF20, hF21, hFp_78, hFp_104, hFp_105, hFp_106, hFp_174, hFp_183, e78, e104, e105, e106, e174, e183, P_ly, P_ru, P_cp2, P_rd, P_cnY, P_kyI, den_s, den_c, Int.add_zero, List.map_cons, List.map_nil, g4.eq, g5.eq, g6.eq, g13.eq, g15.eq, g16.eq, g17.eq, g18.eq, g19.eq, g20.eq, g21.eq, g22.eq, g23.eq, g24.eq, h1, h2, h9, h10, h11, h12, h13, h14, h15, h16, h35, h36, h37, h38, h39, h40, h41, h42, h43, h44, h45, h49, h50, h51, h52, h53, h54, h55] at f0 f2 f3 f4 f5 f6 f7 f8 f9 f10 f11 f12 f13 f14 f15 ⊢
  subst f4
  subst f8
  intro j h1 h2
  have := f7 j h1 h2
  try rw [updI_ne (by omega)]
  try rw [updI_ne (by omega)]
  exact this)
def w_keepBest_1_12 : VC := ((bY ++ [(0, 23), (0, 1), ((-1), 9), ((-1), 7), (0, 9), (0, 8), (1, 10), (0, 11), (0, 9), ((-2147483648), 2147483647), ((-2147483648), 2147483647), (0, 8)]), [(2, [(some 16, 0), (some 24, 0)], []), (2, [(some 16, 0), (some 24, 0)], []), (174, [(some 24, 0), (some 18, 0), (none, 23)], [53, 36]), (104, [(none, 24), (some 18, 0), (some 20, 0), (some 19, 0), (some 21, 0), (some 5, 0), (some 6, 0), (some 22, 0), (some 23, 0)], [35, 36, 37, 38, 39, 40, 41, 49, 11, 12, 13, 14, 15, 16, 43, 44, 45, 50, 51, 52, 53, 54, 55]), (21, [(some 4, 0), (some 17, 0)], [49, 42]), (2, [(some 17, 0), (some 19, 0)], []), (106, [(some 18, 0), (some 19, 0)], [1, 2, 35, 36, 37, 38, 39, 40]), (105, [(some 4, 0)], [9, 10, 41, 42]), (20, [(some 13, 0), (some 4, 0)], [41]), (183, [(some 17, 0), (some 15, 0), (some 16, 0), (some 13, 0), (some 18, 0), (some 19, 0), (some 4, 0), (some 5, 0), (some 6, 0)], [35, 36, 37, 38, 39, 40, 9, 10, 11, 12, 13, 14, 15, 16]), (0, [(some 20, 0), (some 19, 0)], []), (0, [(some 22, 0), (none, 0)], []), (0, [(some 23, 0), (none, 0)], []), (0, [(some 21, 0), (some 4, 1)], []), (3, [(some 19, 0), (some 17, 0)], []), (78, [], [1])], (183, [(some 17, 1), (some 17, 0), (some 24, 0), (some 13, 0), (some 18, 0), (some 19, 0), (some 4, 0), (some 5, 0), (some 6, 0)], [35, 36, 37, 38, 39, 40, 9, 10, 11, 12, 13, 14, 15, 16]))
set_option maxRecDepth 20000 in
theorem v_keepBest_1_12 {PT : PTy} (hp : HP13 PT) : vcOk PT w_keepBest_1_12 := vc_iv [(4, 0, 8), (5, 0, 6), (6, 0, 6), (13, 0, 23), (15, (-1), 9), (16, (-1), 7), (17, 0, 9), (18, 0, 8), (19, 1, 10), (20, 0, 11), (21, 0, 9), (22, (-2147483648), 2147483647), (23, (-2147483648), 2147483647), (24, 0, 8)] [1, 2, 9, 10, 11, 12, 13, 14, 15, 16, 35, 36, 37, 38, 39, 40, 41, 42, 43, 44, 45, 49, 50, 51, 52, 53, 54, 55] (by decide +kernel) (fun ρ α => by
  intro r4 g4 b4 r5 g5 b5 r6 g6 b6 r13 g13 b13 r15 g15 b15 r16 g16 b16 r17 g17 b17 r18 g18 b18 r19 g19 b19 r20 g20 b20 r21 g21 b21 r22 g22 b22 r23 g23 b23 r24 g24 b24 a1 h1 a2 h2 a9 h9 a10 h10 a11 h11 a12 h12 a13 h13 a14 h14 a15 h15 a16 h16 a35 h35 a36 h36 a37 h37 a38 h38 a39 h39 a40 h40 a41 h41 a42 h42 a43 h43 a44 h44 a45 h45 a49 h49 a50 h50 a51 h51 a52 h52 a53 h53 a54 h54 a55 h55 f0 f1 f2 f3 f4 f5 f6 f7 f8 f9 f10 f11 f12 f13 f14 f15 tt
  clear f1
  have e78 : PT 78 = P_ly := pe78_13 hp
  have e104 : PT 104 = P_ru := pe104_13 hp
  have e105 : PT 105 = P_cp2 := pe105_13 hp
  have e106 : PT 106 = P_rd := pe106_13 hp
  have e174 : PT 174 = P_cnY := pe174_13 hp
  have e183 : PT 183 = P_kyI := pe183_13 hp
  simp only [hF0, hF2, hF3, hF20, hF21, hFp_78, hFp_104, hFp_105, hFp_106, hFp_174, hFp_183, e78, e104, e105, e106, e174, e183, P_ly, P_ru, P_cp2, P_rd, P_cnY, P_kyI, den_s, den_c, Int.add_zero, List.map_cons, List.map_nil, g4.eq, g5.eq, g6.eq, g13.eq, g15.eq, g16.eq, g17.eq, g18.eq, g19.eq, g20.eq, g21.eq, g22.eq, g23.eq, g24.eq, h1, h2, h9, h10, h11, h12, h13, h14, h15, h16, h35, h36, h37, h38, h39, h40, h41, h42, h43, h44, h45, h49, h50, h51, h52, h53, h54, h55] at f0 f2 f3 f4 f5 f6 f7 f8 f9 f10 f11 f12 f13 f14 f15 ⊢
  subst f4
  subst f8
  obtain ⟨h1, h2⟩ := f3
  have e1 : r20 = r19 := by omega
  have e2 : r22 = 0 := by omega
  have e3 : r23 = 0 := by omega
  have e4 : r21 = r4 + 1 := by omega
  rw [e1, e2, e3, e4] at h1 h2
  have hc := (f2).1
  have hp := f7
  have hi := f9
  subst hc
  first
    | (exfalso; omega)
    | exact obS_t hi (by omega) ⟨_, _, _, _, _, _, _, _, fun i i1 i2 => (by rw [updI_ne (by omega)]; exact hp i i1 i2), (by first | rfl | exact updI_at _ _ _ | omega), updI_at _ _ _, ⟨_, _, _, h1, h2⟩, rfl⟩ (by omega) (by rw [cnt_G]; exact (cntG_nn _ _).1)
    | exact obS_k hi (by omega) ⟨_, _, _, _, _, _, _, _, fun i i1 i2 => (by rw [updI_ne (by omega)]; exact hp i i1 i2), (by first | rfl | exact updI_at _ _ _ | omega), updI_at _ _ _, ⟨_, _, _, h1, h2⟩, rfl⟩ (by omega) (by rw [cnt_G]; exact (cntG_nn _ _).1))
def w_keepBest_1_13 : VC := ((bY ++ [(0, 23), (0, 1), ((-1), 9), ((-1), 7), (0, 9), (0, 8), (1, 10), (0, 11), (0, 9), ((-2147483648), 2147483647), ((-2147483648), 2147483647), (0, 8)]), [(2, [(some 16, 0), (some 24, 0)], []), (2, [(some 16, 0), (some 24, 0)], []), (174, [(some 24, 0), (some 18, 0), (none, 23)], [53, 36]), (104, [(none, 24), (some 18, 0), (some 20, 0), (some 19, 0), (some 21, 0), (some 5, 0), (some 6, 0), (some 22, 0), (some 23, 0)], [35, 36, 37, 38, 39, 40, 41, 49, 11, 12, 13, 14, 15, 16, 43, 44, 45, 50, 51, 52, 53, 54, 55]), (21, [(some 4, 0), (some 17, 0)], [49, 42]), (2, [(some 17, 0), (some 19, 0)], []), (106, [(some 18, 0), (some 19, 0)], [1, 2, 35, 36, 37, 38, 39, 40]), (105, [(some 4, 0)], [9, 10, 41, 42]), (20, [(some 13, 0), (some 4, 0)], [41]), (183, [(some 17, 0), (some 15, 0), (some 16, 0), (some 13, 0), (some 18, 0), (some 19, 0), (some 4, 0), (some 5, 0), (some 6, 0)], [35, 36, 37, 38, 39, 40, 9, 10, 11, 12, 13, 14, 15, 16]), (0, [(some 20, 0), (some 19, 0)], []), (0, [(some 22, 0), (none, 0)], []), (0, [(some 23, 0), (none, 0)], []), (0, [(some 21, 0), (some 4, 1)], []), (3, [(some 19, 0), (some 17, 0)], []), (78, [], [1])], (3, [(some 19, 0), (some 17, 1)], []))
set_option maxRecDepth 20000 in
theorem v_keepBest_1_13 {PT : PTy} (hp : HP13 PT) : vcOk PT w_keepBest_1_13 := vc_iv [(4, 0, 8), (5, 0, 6), (6, 0, 6), (13, 0, 23), (15, (-1), 9), (16, (-1), 7), (17, 0, 9), (18, 0, 8), (19, 1, 10), (20, 0, 11), (21, 0, 9), (22, (-2147483648), 2147483647), (23, (-2147483648), 2147483647), (24, 0, 8)] [1, 2, 9, 10, 11, 12, 13, 14, 15, 16, 35, 36, 37, 38, 39, 40, 41, 42, 43, 44, 45, 49, 50, 51, 52, 53, 54, 55] (by decide +kernel) (fun ρ α => by
  intro r4 g4 b4 r5 g5 b5 r6 g6 b6 r13 g13 b13 r15 g15 b15 r16 g16 b16 r17 g17 b17 r18 g18 b18 r19 g19 b19 r20 g20 b20 r21 g21 b21 r22 g22 b22 r23 g23 b23 r24 g24 b24 a1 h1 a2 h2 a9 h9 a10 h10 a11 h11 a12 h12 a13 h13 a14 h14 a15 h15 a16 h16 a35 h35 a36 h36 a37 h37 a38 h38 a39 h39 a40 h40 a41 h41 a42 h42 a43 h43 a44 h44 a45 h45 a49 h49 a50 h50 a51 h51 a52 h52 a53 h53 a54 h54 a55 h55 f0 f1 f2 f3 f4 f5 f6 f7 f8 f9 f10 f11 f12 f13 f14 f15 tt
  clear f1
  have e78 : PT 78 = P_ly := pe78_13 hp
  have e104 : PT 104 = P_ru := pe104_13 hp
  have e105 : PT 105 = P_cp2 := pe105_13 hp
  have e106 : PT 106 = P_rd := pe106_13 hp
  have e174 : PT 174 = P_cnY := pe174_13 hp
  have e183 : PT 183 = P_kyI := pe183_13 hp
  simp only [hF0, hF2, hF3, hF20, hF21, hFp_78, hFp_104, hFp_105, hFp_106, hFp_174, hFp_183, e78, e104, e105, e106, e174, e183, P_ly, P_ru, P_cp2, P_rd, P_cnY, P_kyI, den_s, den_c, Int.add_zero, List.map_cons, List.map_nil, g4.eq, g5.eq, g6.eq, g13.eq, g15.eq, g16.eq, g17.eq, g18.eq, g19.eq, g20.eq, g21.eq, g22.eq, g23.eq, g24.eq, h1, h2, h9, h10, h11, h12, h13, h14, h15, h16, h35, h36, h37, h38, h39, h40, h41, h42, h43, h44, h45, h49, h50, h51, h52, h53, h54, h55] at f0 f2 f3 f4 f5 f6 f7 f8 f9 f10 f11 f12 f13 f14 f15 ⊢
  subst f4
  subst f8
  omega)
set_option maxRecDepth 1000000 in
theorem k_keepBest {PT : PTy} (hp : HP13 PT) : wfX c_keepBest = true ∧ xcOk PT c_keepBest := xctr (xl (k_runs hp.1.1.1.1.1.1.1.1) (xl (k_asTold hp.1.1.1.1.1.1.1.1) (xl (k_fitMany hp.1) (xl0)))) c_keepBest 51 mX7_keepBest rfl h_keepBest (by decide +kernel) (by decide +kernel) (by decide) (vcs_by [w_keepBest_0_0, w_keepBest_0_1, w_keepBest_0_2, w_keepBest_0_3, w_keepBest_0_4] (by decide +kernel) (vc (v_keepBest_0_0 hp) (vc (v_keepBest_0_1 hp) (vc (v_keepBest_0_2 hp) (vc (v_keepBest_0_3 hp) (vc (v_keepBest_0_4 hp) vn)))))) (fmc (vcs_by [w_keepBest_1_0, w_keepBest_1_1, w_keepBest_1_2, w_keepBest_1_3, w_keepBest_1_4, w_keepBest_1_5, w_keepBest_1_6, w_keepBest_1_7, w_keepBest_1_8, w_keepBest_1_9, w_keepBest_1_10, w_keepBest_1_11, w_keepBest_1_12, w_keepBest_1_13] (by decide +kernel) (vc (v_keepBest_1_0 hp) (vc (v_keepBest_1_1 hp) (vc (v_keepBest_1_2 hp) (vc (v_keepBest_1_3 hp) (vc (v_keepBest_1_4 hp) (vc (v_keepBest_1_5 hp) (vc (v_keepBest_1_6 hp) (vc (v_keepBest_1_7 hp) (vc (v_keepBest_1_8 hp) (vc (v_keepBest_1_9 hp) (vc (v_keepBest_1_10 hp) (vc (v_keepBest_1_11 hp) (vc (v_keepBest_1_12 hp) (vc (v_keepBest_1_13 hp) vn))))))))))))))) fmn)
def c_yo_keep : XC := (163, 7, (bY ++ [((-2147483648), 2147483647), ((-2147483648), 2147483647)]), [.inr (.inl 0), .inl (some 13, 0), .inl (some 14, 0)], gY2, [(78, [], [1])], [((bY ++ [((-2147483648), 2147483647), ((-2147483648), 2147483647), ((-2), 9), (0, 8), (0, 10), (0, 11), (0, 9), ((-2147483648), 2147483647), ((-2147483648), 2147483647)]), some (.inl (some 15, 0)), (hst gY2 [(0, .inr (.inr (.inr (7, [.inr (.inl 1), .inr (.inl 2), .inl (some 16, 0), .inr (.inl 3), .inr (.inl 4), .inl (some 17, 0), .inr (.inl 5), .inr (.inl 6), .inr (.inl 7), .inr (.inl 8), .inl (some 4, 0), .inr (.inl 9), .inr (.inl 10), .inl (some 5, 0), .inr (.inl 11), .inr (.inl 12), .inr (.inl 13), .inl (some 6, 0), .inr (.inl 14), .inr (.inl 15), .inr (.inl 16), .inl (some 18, 0), .inl (some 19, 0), .inr (.inl 17), .inr (.inl 18), .inl (some 20, 0), .inl (some 21, 0), .inr (.inl 19), .inr (.inl 20), .inr (.inl 21), .inr (.inl 22), .inr (.inl 23), .inr (.inl 24), .inr (.inl 25), .inl (some 7, 0), .inr (.inl 26), .inr (.inl 27), .inr (.inl 28), .inr (.inl 29), .inr (.inl 30), .inr (.inl 31), .inr (.inl 32), .inr (.inl 33), .inr (.inl 34), .inl (some 12, 0)]))))]), [0, 1, 2, 35, 36, 37, 38, 39, 40, 9, 10, 11, 12, 13, 14, 15, 16, 41, 42, 43, 44, 45, 46, 47, 48, 25, 26, 27, 28, 29, 30, 31, 32, 33, 34], 49, [(185, [(some 15, 0), (some 13, 0), (some 14, 0), (some 16, 0), (some 17, 0), (some 4, 0), (some 5, 0), (some 6, 0)], [1, 2, 35, 36, 37, 38, 39, 40, 9, 10, 11, 12, 13, 14, 15, 16])])])
def h_yo_keep : List XH := []
def w_yo_keep_0_0 : VC := ((bY ++ [((-2147483648), (-1)), ((-2147483648), 2147483647)]), [(0, [(none, 0), (none, 0)], []), (2, [(some 13, 0), (none, 0)], []), (78, [], [1])], (185, [(none, (-2)), (some 13, 0), (some 14, 0), (some 2, 0), (some 3, 0), (some 4, 0), (some 5, 0), (some 6, 0)], [1, 2, 3, 4, 5, 6, 7, 8, 9, 10, 11, 12, 13, 14, 15, 16]))
theorem pe185_13 {PT : PTy} (hp : HP13 PT) : PT 185 = P_okY2 := hp.2.2.2.2.2.2.1
set_option maxRecDepth 20000 in
theorem v_yo_keep_0_0 {PT : PTy} (hp : HP13 PT) : vcOk PT w_yo_keep_0_0 := vc_iv [(2, 0, 8), (3, 0, 10), (4, 0, 8), (5, 0, 6), (6, 0, 6), (13, (-2147483648), (-1)), (14, (-2147483648), 2147483647)] [1, 2, 3, 4, 5, 6, 7, 8, 9, 10, 11, 12, 13, 14, 15, 16] (by decide +kernel) (fun ρ α => by
  intro r2 g2 b2 r3 g3 b3 r4 g4 b4 r5 g5 b5 r6 g6 b6 r13 g13 b13 r14 g14 b14 a1 h1 a2 h2 a3 h3 a4 h4 a5 h5 a6 h6 a7 h7 a8 h8 a9 h9 a10 h10 a11 h11 a12 h12 a13 h13 a14 h14 a15 h15 a16 h16 f0 f1 f2 tt
  clear f0 f1
  have e78 : PT 78 = P_ly := pe78_13 hp
  have e185 : PT 185 = P_okY2 := pe185_13 hp
  simp only [hFp_78, hFp_185, e78, e185, P_ly, P_okY2, den_s, den_c, Int.add_zero, List.map_cons, List.map_nil, g2.eq, g3.eq, g4.eq, g5.eq, g6.eq, g13.eq, g14.eq, h1, h2, h3, h4, h5, h6, h7, h8, h9, h10, h11, h12, h13, h14, h15, h16] at f2 ⊢
  ((repeat' (first | apply And.intro | intro h)) <;> first | omega | rfl | trivial | (exfalso; omega) | exact (MISSING).1 | exact (MISSING).2))
def w_yo_keep_0_1 : VC := ((bY ++ [(24, 2147483647), ((-2147483648), 2147483647)]), [(0, [(none, 0), (none, 0)], []), (2, [(none, 23), (some 13, 0)], []), (3, [(some 13, 0), (none, 0)], []), (78, [], [1])], (185, [(none, (-2)), (some 13, 0), (some 14, 0), (some 2, 0), (some 3, 0), (some 4, 0), (some 5, 0), (some 6, 0)], [1, 2, 3, 4, 5, 6, 7, 8, 9, 10, 11, 12, 13, 14, 15, 16]))
set_option maxRecDepth 20000 in
theorem v_yo_keep_0_1 {PT : PTy} (hp : HP13 PT) : vcOk PT w_yo_keep_0_1 := vc_iv [(2, 0, 8), (3, 0, 10), (4, 0, 8), (5, 0, 6), (6, 0, 6), (13, 24, 2147483647), (14, (-2147483648), 2147483647)] [1, 2, 3, 4, 5, 6, 7, 8, 9, 10, 11, 12, 13, 14, 15, 16] (by decide +kernel) (fun ρ α => by
  intro r2 g2 b2 r3 g3 b3 r4 g4 b4 r5 g5 b5 r6 g6 b6 r13 g13 b13 r14 g14 b14 a1 h1 a2 h2 a3 h3 a4 h4 a5 h5 a6 h6 a7 h7 a8 h8 a9 h9 a10 h10 a11 h11 a12 h12 a13 h13 a14 h14 a15 h15 a16 h16 f0 f1 f2 f3 tt
  clear f0 f1 f2
  have e78 : PT 78 = P_ly := pe78_13 hp
  have e185 : PT 185 = P_okY2 := pe185_13 hp
  simp only [hFp_78, hFp_185, e78, e185, P_ly, P_okY2, den_s, den_c, Int.add_zero, List.map_cons, List.map_nil, g2.eq, g3.eq, g4.eq, g5.eq, g6.eq, g13.eq, g14.eq, h1, h2, h3, h4, h5, h6, h7, h8, h9, h10, h11, h12, h13, h14, h15, h16] at f3 ⊢
  ((repeat' (first | apply And.intro | intro h)) <;> first | omega | rfl | trivial | (exfalso; omega) | exact (MISSING).1 | exact (MISSING).2))
def w_yo_keep_0_2 : VC := ((bY ++ [(0, 23), ((-2147483648), (-1))]), [(0, [(none, 0), (none, 0)], []), (2, [(some 14, 0), (none, 0)], []), (1, [(none, 1), (none, 0)], []), (3, [(none, 23), (some 13, 0)], []), (3, [(some 13, 0), (none, 0)], []), (78, [], [1])], (185, [(none, (-2)), (some 13, 0), (some 14, 0), (some 2, 0), (some 3, 0), (some 4, 0), (some 5, 0), (some 6, 0)], [1, 2, 3, 4, 5, 6, 7, 8, 9, 10, 11, 12, 13, 14, 15, 16]))
set_option maxRecDepth 20000 in
theorem v_yo_keep_0_2 {PT : PTy} (hp : HP13 PT) : vcOk PT w_yo_keep_0_2 := vc_iv [(2, 0, 8), (3, 0, 10), (4, 0, 8), (5, 0, 6), (6, 0, 6), (13, 0, 23), (14, (-2147483648), (-1))] [1, 2, 3, 4, 5, 6, 7, 8, 9, 10, 11, 12, 13, 14, 15, 16] (by decide +kernel) (fun ρ α => by
  intro r2 g2 b2 r3 g3 b3 r4 g4 b4 r5 g5 b5 r6 g6 b6 r13 g13 b13 r14 g14 b14 a1 h1 a2 h2 a3 h3 a4 h4 a5 h5 a6 h6 a7 h7 a8 h8 a9 h9 a10 h10 a11 h11 a12 h12 a13 h13 a14 h14 a15 h15 a16 h16 f0 f1 f2 f3 f4 f5 tt
  clear f0 f1 f2 f3 f4
  have e78 : PT 78 = P_ly := pe78_13 hp
  have e185 : PT 185 = P_okY2 := pe185_13 hp
  simp only [hFp_78, hFp_185, e78, e185, P_ly, P_okY2, den_s, den_c, Int.add_zero, List.map_cons, List.map_nil, g2.eq, g3.eq, g4.eq, g5.eq, g6.eq, g13.eq, g14.eq, h1, h2, h3, h4, h5, h6, h7, h8, h9, h10, h11, h12, h13, h14, h15, h16] at f5 ⊢
  ((repeat' (first | apply And.intro | intro h)) <;> first | omega | rfl | trivial | (exfalso; omega) | exact (MISSING).1 | exact (MISSING).2))
def w_yo_keep_0_3 : VC := ((bY ++ [(0, 23), (2, 2147483647)]), [(0, [(none, 0), (none, 0)], []), (2, [(none, 1), (some 14, 0)], []), (3, [(some 14, 0), (none, 0)], []), (1, [(none, 1), (none, 0)], []), (3, [(none, 23), (some 13, 0)], []), (3, [(some 13, 0), (none, 0)], []), (78, [], [1])], (185, [(none, (-2)), (some 13, 0), (some 14, 0), (some 2, 0), (some 3, 0), (some 4, 0), (some 5, 0), (some 6, 0)], [1, 2, 3, 4, 5, 6, 7, 8, 9, 10, 11, 12, 13, 14, 15, 16]))
set_option maxRecDepth 20000 in
theorem v_yo_keep_0_3 {PT : PTy} (hp : HP13 PT) : vcOk PT w_yo_keep_0_3 := vc_iv [(2, 0, 8), (3, 0, 10), (4, 0, 8), (5, 0, 6), (6, 0, 6), (13, 0, 23), (14, 2, 2147483647)] [1, 2, 3, 4, 5, 6, 7, 8, 9, 10, 11, 12, 13, 14, 15, 16] (by decide +kernel) (fun ρ α => by
  intro r2 g2 b2 r3 g3 b3 r4 g4 b4 r5 g5 b5 r6 g6 b6 r13 g13 b13 r14 g14 b14 a1 h1 a2 h2 a3 h3 a4 h4 a5 h5 a6 h6 a7 h7 a8 h8 a9 h9 a10 h10 a11 h11 a12 h12 a13 h13 a14 h14 a15 h15 a16 h16 f0 f1 f2 f3 f4 f5 f6 tt
  clear f0 f1 f2 f3 f4 f5
  have e78 : PT 78 = P_ly := pe78_13 hp
  have e185 : PT 185 = P_okY2 := pe185_13 hp
  simp only [hFp_78, hFp_185, e78, e185, P_ly, P_okY2, den_s, den_c, Int.add_zero, List.map_cons, List.map_nil, g2.eq, g3.eq, g4.eq, g5.eq, g6.eq, g13.eq, g14.eq, h1, h2, h3, h4, h5, h6, h7, h8, h9, h10, h11, h12, h13, h14, h15, h16] at f6 ⊢
  ((repeat' (first | apply And.intro | intro h)) <;> first | omega | rfl | trivial | (exfalso; omega) | exact (MISSING).1 | exact (MISSING).2))
def w_yo_keep_0_4 : VC := ((bY ++ [(0, 23), (0, 1), ((-1), 9), (0, 8), (0, 10), (0, 11), (0, 9), ((-2147483648), 2147483647), ((-2147483648), 2147483647)]), [(184, [(some 15, 0), (some 13, 0), (some 14, 0), (some 16, 0), (some 17, 0), (some 4, 0), (some 5, 0), (some 6, 0)], [1, 2, 35, 36, 37, 38, 39, 40, 9, 10, 11, 12, 13, 14, 15, 16]), (1, [(none, 1), (none, 0)], []), (3, [(none, 1), (some 14, 0)], []), (3, [(some 14, 0), (none, 0)], []), (1, [(none, 1), (none, 0)], []), (3, [(none, 23), (some 13, 0)], []), (3, [(some 13, 0), (none, 0)], []), (78, [], [1])], (185, [(some 15, 0), (some 13, 0), (some 14, 0), (some 16, 0), (some 17, 0), (some 4, 0), (some 5, 0), (some 6, 0)], [1, 2, 35, 36, 37, 38, 39, 40, 9, 10, 11, 12, 13, 14, 15, 16]))
set_option maxRecDepth 20000 in
theorem v_yo_keep_0_4 {PT : PTy} (hp : HP13 PT) : vcOk PT w_yo_keep_0_4 := vc_iv [(4, 0, 8), (5, 0, 6), (6, 0, 6), (13, 0, 23), (14, 0, 1), (15, (-1), 9), (16, 0, 8), (17, 0, 10)] [1, 2, 9, 10, 11, 12, 13, 14, 15, 16, 35, 36, 37, 38, 39, 40] (by decide +kernel) (fun ρ α => by
  intro r4 g4 b4 r5 g5 b5 r6 g6 b6 r13 g13 b13 r14 g14 b14 r15 g15 b15 r16 g16 b16 r17 g17 b17 a1 h1 a2 h2 a9 h9 a10 h10 a11 h11 a12 h12 a13 h13 a14 h14 a15 h15 a16 h16 a35 h35 a36 h36 a37 h37 a38 h38 a39 h39 a40 h40 f0 f1 f2 f3 f4 f5 f6 f7 tt
  clear f1 f2 f3 f4 f5 f6
  have e78 : PT 78 = P_ly := pe78_13 hp
  have e184 : PT 184 = P_kyP := pe184_13 hp
  have e185 : PT 185 = P_okY2 := pe185_13 hp
  simp only [hFp_78, hFp_184, hFp_185, e78, e184, e185, P_ly, P_kyP, P_okY2, den_s, den_c, Int.add_zero, List.map_cons, List.map_nil, g4.eq, g5.eq, g6.eq, g13.eq, g14.eq, g15.eq, g16.eq, g17.eq, h1, h2, h9, h10, h11, h12, h13, h14, h15, h16, h35, h36, h37, h38, h39, h40] at f0 f7 ⊢
  ((repeat' (first | apply And.intro | intro h)) <;> first | omega | rfl | trivial | (exfalso; omega) | exact (f0).1 | exact (f0).2))
set_option maxRecDepth 1000000 in
theorem k_yo_keep {PT : PTy} (hp : HP13 PT) : wfX c_yo_keep = true ∧ xcOk PT c_yo_keep := xctr (xl (k_keepBest hp) (xl0)) c_yo_keep 57 mX7_keep rfl h_yo_keep (by decide +kernel) (by decide +kernel) (by decide) (vcs_by [w_yo_keep_0_0, w_yo_keep_0_1, w_yo_keep_0_2, w_yo_keep_0_3, w_yo_keep_0_4] (by decide +kernel) (vc (v_yo_keep_0_0 hp) (vc (v_yo_keep_0_1 hp) (vc (v_yo_keep_0_2 hp) (vc (v_yo_keep_0_3 hp) (vc (v_yo_keep_0_4 hp) vn)))))) fmn
