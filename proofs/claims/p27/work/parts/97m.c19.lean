/-! ===== plans; printed by wip/gen/x ===== -/
def P_wsI (l : List Int) (a : List (Int → Int)) : Prop := match l, a with
  | [i, b, k, ns, n, m, nk, nl, nt, u, h], [so, sz, wh, gr, md, du, kd, ko, ld, lw, lm, td, tw, tm, sd, sw, sm] => obB (wsQ k ns n m nk nl nt u h so sz wh gr md du kd ko ld lw lm td tw tm sd sw sm) i b
  | _, _ => False
theorem hFp_203 {PT : PTy} {ρ : Nat → Int} {α : Nat → Int → Int} (l : List AN) (a : List Nat) : hF PT ρ α (203, l, a) = PT 203 (l.map (den ρ)) (a.map α) := rfl
def P_woI (l : List Int) (a : List (Int → Int)) : Prop := match l, a with
  | [i, b, k, ns, n, m, nk, nl, nt, u, h], [so, sz, wh, gr, md, du, kd, ko, ld, lw, lm, td, tw, tm, sd, sw, sm] => obB (woQ k ns n m nk nl nt u h so sz wh gr md du kd ko ld lw lm td tw tm sd sw sm) i b
  | _, _ => False
theorem hFp_204 {PT : PTy} {ρ : Nat → Int} {α : Nat → Int → Int} (l : List AN) (a : List Nat) : hF PT ρ α (204, l, a) = PT 204 (l.map (den ρ)) (a.map α) := rfl
def P_owaX (l : List Int) (a : List (Int → Int)) : Prop := match l, a with
  | [r, k, w, ns, n, m, nk, nl, nt, u, h], [so, sz, wh, gr, md, du, kd, ko, ld, lw, lm, td, tw, tm, sd, sw, sm] => (¬ (0 ≤ k ∧ k < n ∧ 0 ≤ w ∧ w ≤ 1) → r = -2) ∧ (0 ≤ k ∧ k < n ∧ 0 ≤ w ∧ w ≤ 1 → (w = 0 → obB (wsQ k ns n m nk nl nt u h so sz wh gr md du kd ko ld lw lm td tw tm sd sw sm) 10 r) ∧ (w = 1 → obB (woQ k ns n m nk nl nt u h so sz wh gr md du kd ko ld lw lm td tw tm sd sw sm) 3 r))
  | _, _ => False
theorem hFp_205 {PT : PTy} {ρ : Nat → Int} {α : Nat → Int → Int} (l : List AN) (a : List Nat) : hF PT ρ α (205, l, a) = PT 205 (l.map (den ρ)) (a.map α) := rfl
def HP16 (PT : PTy) : Prop := HP15 PT ∧ (PT 203 = P_wsI ∧ PT 204 = P_woI ∧ PT 205 = P_owaX ∧ True)
def c_fvS : XC := (92, 4, (bX ++ [(0, 7)]), [.inr (.inl 0), .inr (.inl 8), .inl (some 14, 0), .inl (none, 10)], (gX 14), [(150, [(some 9, 0), (some 2, 0), (some 3, 0), (some 4, 0), (some 5, 0), (some 6, 0)], [26, 27, 7, 8, 10, 11, 12, 13, 15, 16, 19, 20, 21, 23, 24, 25])], [((bX ++ [(0, 7), ((-2147483648), 2147483647), (0, 49)]), some (.inl (some 15, 0)), (hst (gX 14) [(5, .inr (.inr (.inr (0, [.inr (.inl 6), .inr (.inl 9), .inr (.inl 14), .inr (.inl 18), .inr (.inl 22), .inr (.inl 26), .inr (.inl 27), .inr (.inl 28), .inr (.inl 29), .inr (.inl 30), .inl (some 9, 0), .inl (some 16, 0), .inl (some 11, 0), .inl (some 12, 0), .inr (.inl 14)]))))]), (ansT 58 [(8, 58), (28, 59), (29, 60), (30, 61)]), 62, [(203, [(none, 10), (some 15, 0), (some 14, 0), (some 7, 0), (some 2, 0), (some 3, 0), (some 4, 0), (some 5, 0), (some 6, 0), (some 11, 0), (some 12, 0)], [7, 8, 10, 11, 12, 13, 15, 16, 19, 20, 21, 23, 24, 25, 32, 33, 34]), (27, [], [58, 8])])])
def h_fvS : List XH := [(11, (bX ++ [(0, 7), (0, 9), ((-2147483648), 2147483647), (0, 10), (0, 49)]), [some (.inr (.inl 0)), some (.inr (.inl 8)), some (.inl (some 14, 0)), some (.inl (none, 10)), some (.inl (some 15, 0)), some (.inl (some 16, 0)), some (.inl (some 17, 0))], (hst (gX 14) [(5, .inr (.inr (.inr (0, [.inr (.inl 6), .inr (.inl 9), .inr (.inl 14), .inr (.inl 18), .inr (.inl 22), .inr (.inl 26), .inr (.inl 27), .inr (.inl 28), .inr (.inl 29), .inr (.inl 30), .inl (some 9, 0), .inl (some 18, 0), .inl (some 11, 0), .inl (some 12, 0), .inr (.inl 14)]))))]), (ansT 58 [(8, 58), (28, 59), (29, 60), (30, 61)]), 62, [(188, [(some 14, 0)], [58, 8]), (20, [(some 15, 0), (some 14, 0)], [8]), (203, [(some 17, 0), (some 16, 0), (some 14, 0), (some 7, 0), (some 2, 0), (some 3, 0), (some 4, 0), (some 5, 0), (some 6, 0), (some 11, 0), (some 12, 0)], [7, 8, 10, 11, 12, 13, 15, 16, 19, 20, 21, 23, 24, 25, 32, 33, 34]), (3, [(none, 10), (some 17, 0)], [])], [(true, (none, 1)), (true, (some 17, 0))])]
def w_fvS_0_0 : VC := ((bX ++ [(0, 7), (0, 9)]), [(20, [(some 15, 0), (some 14, 0)], [8]), (150, [(some 9, 0), (some 2, 0), (some 3, 0), (some 4, 0), (some 5, 0), (some 6, 0)], [26, 27, 7, 8, 10, 11, 12, 13, 15, 16, 19, 20, 21, 23, 24, 25])], (188, [(some 14, 0)], [8, 8]))
theorem pe150_16 {PT : PTy} (hp : HP16 PT) : PT 150 = P_ar2 := hp.1.1.1.1.1.2.2.2.2.1
theorem pe188_16 {PT : PTy} (hp : HP16 PT) : PT 188 = P_bu2 := hp.1.1.2.1
set_option maxRecDepth 20000 in
theorem v_fvS_0_0 {PT : PTy} (hp : HP16 PT) : vcOk PT w_fvS_0_0 := vc_in [(2, 0, 8), (3, 0, 11), (4, 0, 9), (5, 0, 6), (6, 0, 6), (9, 0, 49), (14, 0, 7), (15, 0, 9)] (by decide +kernel) (fun ρ α => by
  intro b2 b3 b4 b5 b6 b9 b14 b15 f0 f1 tt
  have e150 : PT 150 = P_ar2 := pe150_16 hp
  have e188 : PT 188 = P_bu2 := pe188_16 hp
  simp only [hF20, hFp_150, hFp_188, e150, e188, P_ar2, P_bu2, den_s, den_c, Int.add_zero, List.map_cons, List.map_nil] at f0 f1 ⊢
  exact fun i h => (by first | rfl | trivial))
def w_fvS_0_1 : VC := ((bX ++ [(0, 7), (0, 9)]), [(20, [(some 15, 0), (some 14, 0)], [8]), (150, [(some 9, 0), (some 2, 0), (some 3, 0), (some 4, 0), (some 5, 0), (some 6, 0)], [26, 27, 7, 8, 10, 11, 12, 13, 15, 16, 19, 20, 21, 23, 24, 25])], (203, [(none, 0), (none, 0), (some 14, 0), (some 7, 0), (some 2, 0), (some 3, 0), (some 4, 0), (some 5, 0), (some 6, 0), (some 11, 0), (some 12, 0)], [7, 8, 10, 11, 12, 13, 15, 16, 19, 20, 21, 23, 24, 25, 32, 33, 34]))
theorem pe203_16 {PT : PTy} (hp : HP16 PT) : PT 203 = P_wsI := hp.2.1
set_option maxRecDepth 20000 in
theorem v_fvS_0_1 {PT : PTy} (hp : HP16 PT) : vcOk PT w_fvS_0_1 := vc_in [(2, 0, 8), (3, 0, 11), (4, 0, 9), (5, 0, 6), (6, 0, 6), (7, 0, 8), (9, 0, 49), (11, (-2147483648), 2147483647), (12, (-2147483648), 2147483647), (14, 0, 7), (15, 0, 9)] (by decide +kernel) (fun ρ α => by
  intro b2 b3 b4 b5 b6 b7 b9 b11 b12 b14 b15 f0 f1 tt
  have e150 : PT 150 = P_ar2 := pe150_16 hp
  have e203 : PT 203 = P_wsI := pe203_16 hp
  simp only [hF20, hFp_150, hFp_203, e150, e203, P_ar2, P_wsI, den_s, den_c, Int.add_zero, List.map_cons, List.map_nil] at f0 f1 ⊢
  exact obB_z)
def w_fvS_0_2 : VC := ((bX ++ [(0, 7), (0, 9)]), [(20, [(some 15, 0), (some 14, 0)], [8]), (150, [(some 9, 0), (some 2, 0), (some 3, 0), (some 4, 0), (some 5, 0), (some 6, 0)], [26, 27, 7, 8, 10, 11, 12, 13, 15, 16, 19, 20, 21, 23, 24, 25])], (3, [(none, 10), (none, 0)], []))
theorem v_fvS_0_2 {PT : PTy} (_ : HP16 PT) : vcOk PT w_fvS_0_2 := vc_of (fun ρ α _ _ => by simp only [hF3, den_c] <;> omega)
def w_fvS_1_0 : VC := ((bX ++ [(0, 7), (0, 9), ((-2147483648), 2147483647), (10, 10), (0, 49)]), [(21, [(some 14, 0), (some 15, 0)], [62, 58]), (3, [(some 17, 0), (none, 10)], []), (188, [(some 14, 0)], [58, 8]), (20, [(some 15, 0), (some 14, 0)], [8]), (203, [(some 17, 0), (some 16, 0), (some 14, 0), (some 7, 0), (some 2, 0), (some 3, 0), (some 4, 0), (some 5, 0), (some 6, 0), (some 11, 0), (some 12, 0)], [7, 8, 10, 11, 12, 13, 15, 16, 19, 20, 21, 23, 24, 25, 32, 33, 34]), (3, [(none, 10), (some 17, 0)], []), (150, [(some 9, 0), (some 2, 0), (some 3, 0), (some 4, 0), (some 5, 0), (some 6, 0)], [26, 27, 7, 8, 10, 11, 12, 13, 15, 16, 19, 20, 21, 23, 24, 25])], (203, [(none, 10), (some 16, 0), (some 14, 0), (some 7, 0), (some 2, 0), (some 3, 0), (some 4, 0), (some 5, 0), (some 6, 0), (some 11, 0), (some 12, 0)], [7, 8, 10, 11, 12, 13, 15, 16, 19, 20, 21, 23, 24, 25, 32, 33, 34]))
set_option maxRecDepth 20000 in
theorem v_fvS_1_0 {PT : PTy} (hp : HP16 PT) : vcOk PT w_fvS_1_0 := vc_iv [(2, 0, 8), (3, 0, 11), (4, 0, 9), (5, 0, 6), (6, 0, 6), (7, 0, 8), (9, 0, 49), (11, (-2147483648), 2147483647), (12, (-2147483648), 2147483647), (14, 0, 7), (15, 0, 9), (16, (-2147483648), 2147483647), (17, 10, 10)] [7, 8, 10, 11, 12, 13, 15, 16, 19, 20, 21, 23, 24, 25, 26, 27, 32, 33, 34, 58, 62] (by decide +kernel) (fun ρ α => by
  intro r2 g2 b2 r3 g3 b3 r4 g4 b4 r5 g5 b5 r6 g6 b6 r7 g7 b7 r9 g9 b9 r11 g11 b11 r12 g12 b12 r14 g14 b14 r15 g15 b15 r16 g16 b16 r17 g17 b17 a7 h7 a8 h8 a10 h10 a11 h11 a12 h12 a13 h13 a15 h15 a16 h16 a19 h19 a20 h20 a21 h21 a23 h23 a24 h24 a25 h25 a26 h26 a27 h27 a32 h32 a33 h33 a34 h34 a58 h58 a62 h62 f0 f1 f2 f3 f4 f5 f6 tt
  clear f1 f5
  have e150 : PT 150 = P_ar2 := pe150_16 hp
  have e188 : PT 188 = P_bu2 := pe188_16 hp
  have e203 : PT 203 = P_wsI := pe203_16 hp
  simp only [hF20, hF21, hFp_150, hFp_188, hFp_203, e150, e188, e203, P_ar2, P_bu2, P_wsI, den_s, den_c, Int.add_zero, List.map_cons, List.map_nil, g2.eq, g3.eq, g4.eq, g5.eq, g6.eq, g7.eq, g9.eq, g11.eq, g12.eq, g14.eq, g15.eq, g16.eq, g17.eq, h7, h8, h10, h11, h12, h13, h15, h16, h19, h20, h21, h23, h24, h25, h26, h27, h32, h33, h34, h58, h62] at f0 f2 f3 f4 f6 ⊢
  subst f0
  subst f3
  have hh := f4
  rw [show r17 = 10 by omega] at hh
  exact hh)
def w_fvS_1_1 : VC := ((bX ++ [(0, 7), (0, 9), ((-2147483648), 2147483647), (10, 10), (0, 49)]), [(21, [(some 14, 0), (some 15, 0)], [62, 58]), (3, [(some 17, 0), (none, 10)], []), (188, [(some 14, 0)], [58, 8]), (20, [(some 15, 0), (some 14, 0)], [8]), (203, [(some 17, 0), (some 16, 0), (some 14, 0), (some 7, 0), (some 2, 0), (some 3, 0), (some 4, 0), (some 5, 0), (some 6, 0), (some 11, 0), (some 12, 0)], [7, 8, 10, 11, 12, 13, 15, 16, 19, 20, 21, 23, 24, 25, 32, 33, 34]), (3, [(none, 10), (some 17, 0)], []), (150, [(some 9, 0), (some 2, 0), (some 3, 0), (some 4, 0), (some 5, 0), (some 6, 0)], [26, 27, 7, 8, 10, 11, 12, 13, 15, 16, 19, 20, 21, 23, 24, 25])], (27, [], [62, 8]))
set_option maxRecDepth 20000 in
theorem v_fvS_1_1 {PT : PTy} (hp : HP16 PT) : vcOk PT w_fvS_1_1 := vc_iv [(2, 0, 8), (3, 0, 11), (4, 0, 9), (5, 0, 6), (6, 0, 6), (7, 0, 8), (9, 0, 49), (11, (-2147483648), 2147483647), (12, (-2147483648), 2147483647), (14, 0, 7), (15, 0, 9), (16, (-2147483648), 2147483647), (17, 10, 10)] [7, 8, 10, 11, 12, 13, 15, 16, 19, 20, 21, 23, 24, 25, 26, 27, 32, 33, 34, 58, 62] (by decide +kernel) (fun ρ α => by
  intro r2 g2 b2 r3 g3 b3 r4 g4 b4 r5 g5 b5 r6 g6 b6 r7 g7 b7 r9 g9 b9 r11 g11 b11 r12 g12 b12 r14 g14 b14 r15 g15 b15 r16 g16 b16 r17 g17 b17 a7 h7 a8 h8 a10 h10 a11 h11 a12 h12 a13 h13 a15 h15 a16 h16 a19 h19 a20 h20 a21 h21 a23 h23 a24 h24 a25 h25 a26 h26 a27 h27 a32 h32 a33 h33 a34 h34 a58 h58 a62 h62 f0 f1 f2 f3 f4 f5 f6 tt
  clear f1 f5
  have e150 : PT 150 = P_ar2 := pe150_16 hp
  have e188 : PT 188 = P_bu2 := pe188_16 hp
  have e203 : PT 203 = P_wsI := pe203_16 hp
  simp only [hF20, hF21, hF27, hFp_150, hFp_188, hFp_203, e150, e188, e203, P_ar2, P_bu2, P_wsI, den_s, den_c, Int.add_zero, List.map_cons, List.map_nil, g2.eq, g3.eq, g4.eq, g5.eq, g6.eq, g7.eq, g9.eq, g11.eq, g12.eq, g14.eq, g15.eq, g16.eq, g17.eq, h7, h8, h10, h11, h12, h13, h15, h16, h19, h20, h21, h23, h24, h25, h26, h27, h32, h33, h34, h58, h62] at f0 f2 f3 f4 f6 ⊢
  subst f0
  subst f3
  exact upd_bk f2)
def w_fvS_1_2 : VC := ((bX ++ [(0, 7), (0, 9), ((-2147483648), 2147483647), (0, 9), (0, 49)]), [(21, [(some 14, 0), (some 17, 0)], [62, 58]), (2, [(some 17, 0), (none, 10)], []), (188, [(some 14, 0)], [58, 8]), (20, [(some 15, 0), (some 14, 0)], [8]), (203, [(some 17, 0), (some 16, 0), (some 14, 0), (some 7, 0), (some 2, 0), (some 3, 0), (some 4, 0), (some 5, 0), (some 6, 0), (some 11, 0), (some 12, 0)], [7, 8, 10, 11, 12, 13, 15, 16, 19, 20, 21, 23, 24, 25, 32, 33, 34]), (3, [(none, 10), (some 17, 0)], []), (150, [(some 9, 0), (some 2, 0), (some 3, 0), (some 4, 0), (some 5, 0), (some 6, 0)], [26, 27, 7, 8, 10, 11, 12, 13, 15, 16, 19, 20, 21, 23, 24, 25])], (150, [(some 9, 0), (some 2, 0), (some 3, 0), (some 4, 0), (some 5, 0), (some 6, 0)], [26, 27, 7, 62, 10, 11, 12, 13, 15, 16, 19, 20, 21, 23, 24, 25]))
set_option maxRecDepth 20000 in
theorem v_fvS_1_2 {PT : PTy} (hp : HP16 PT) : vcOk PT w_fvS_1_2 := vc_in [(2, 0, 8), (3, 0, 11), (4, 0, 9), (5, 0, 6), (6, 0, 6), (7, 0, 8), (9, 0, 49), (11, (-2147483648), 2147483647), (12, (-2147483648), 2147483647), (14, 0, 7), (15, 0, 9), (16, (-2147483648), 2147483647), (17, 0, 9)] (by decide +kernel) (fun ρ α => by
  intro b2 b3 b4 b5 b6 b7 b9 b11 b12 b14 b15 b16 b17 f0 f1 f2 f3 f4 f5 f6 tt
  clear f1 f5
  have e150 : PT 150 = P_ar2 := pe150_16 hp
  have e188 : PT 188 = P_bu2 := pe188_16 hp
  have e203 : PT 203 = P_wsI := pe203_16 hp
  simp only [hF20, hF21, hFp_150, hFp_188, hFp_203, e150, e188, e203, P_ar2, P_bu2, P_wsI, den_s, den_c, Int.add_zero, List.map_cons, List.map_nil] at f0 f2 f3 f4 f6 ⊢
  exact f6)
def w_fvS_1_3 : VC := ((bX ++ [(0, 7), (0, 9), ((-2147483648), 2147483647), (0, 9), (0, 49), (0, 0), (0, 49)]), [(0, [(some 19, 0), (none, 0)], []), (197, [(some 19, 0), (some 7, 0), (some 2, 0), (some 3, 0), (some 4, 0), (some 5, 0), (some 6, 0), (some 11, 0), (some 12, 0)], [7, 62, 10, 11, 12, 13, 15, 16, 19, 20, 21, 23, 24, 25, 32, 33, 34]), (21, [(some 14, 0), (some 17, 0)], [62, 58]), (2, [(some 17, 0), (none, 10)], []), (188, [(some 14, 0)], [58, 8]), (20, [(some 15, 0), (some 14, 0)], [8]), (203, [(some 17, 0), (some 16, 0), (some 14, 0), (some 7, 0), (some 2, 0), (some 3, 0), (some 4, 0), (some 5, 0), (some 6, 0), (some 11, 0), (some 12, 0)], [7, 8, 10, 11, 12, 13, 15, 16, 19, 20, 21, 23, 24, 25, 32, 33, 34]), (3, [(none, 10), (some 17, 0)], []), (150, [(some 9, 0), (some 2, 0), (some 3, 0), (some 4, 0), (some 5, 0), (some 6, 0)], [26, 27, 7, 8, 10, 11, 12, 13, 15, 16, 19, 20, 21, 23, 24, 25])], (188, [(some 14, 0)], [62, 8]))
theorem pe197_16 {PT : PTy} (hp : HP16 PT) : PT 197 = P_saX := hp.1.2.2.2.2.1
set_option maxRecDepth 20000 in
theorem v_fvS_1_3 {PT : PTy} (hp : HP16 PT) : vcOk PT w_fvS_1_3 := vc_iv [(2, 0, 8), (3, 0, 11), (4, 0, 9), (5, 0, 6), (6, 0, 6), (7, 0, 8), (9, 0, 49), (11, (-2147483648), 2147483647), (12, (-2147483648), 2147483647), (14, 0, 7), (15, 0, 9), (16, (-2147483648), 2147483647), (17, 0, 9), (19, 0, 0)] [7, 8, 10, 11, 12, 13, 15, 16, 19, 20, 21, 23, 24, 25, 26, 27, 32, 33, 34, 58, 62] (by decide +kernel) (fun ρ α => by
  intro r2 g2 b2 r3 g3 b3 r4 g4 b4 r5 g5 b5 r6 g6 b6 r7 g7 b7 r9 g9 b9 r11 g11 b11 r12 g12 b12 r14 g14 b14 r15 g15 b15 r16 g16 b16 r17 g17 b17 r19 g19 b19 a7 h7 a8 h8 a10 h10 a11 h11 a12 h12 a13 h13 a15 h15 a16 h16 a19 h19 a20 h20 a21 h21 a23 h23 a24 h24 a25 h25 a26 h26 a27 h27 a32 h32 a33 h33 a34 h34 a58 h58 a62 h62 f0 f1 f2 f3 f4 f5 f6 f7 f8 tt
  clear f3 f7
  have e150 : PT 150 = P_ar2 := pe150_16 hp
  have e188 : PT 188 = P_bu2 := pe188_16 hp
  have e197 : PT 197 = P_saX := pe197_16 hp
  have e203 : PT 203 = P_wsI := pe203_16 hp
  simp only [hF0, hF20, hF21, hFp_150, hFp_188, hFp_197, hFp_203, e150, e188, e197, e203, P_ar2, P_bu2, P_saX, P_wsI, den_s, den_c, Int.add_zero, List.map_cons, List.map_nil, g2.eq, g3.eq, g4.eq, g5.eq, g6.eq, g7.eq, g9.eq, g11.eq, g12.eq, g14.eq, g15.eq, g16.eq, g17.eq, g19.eq, h7, h8, h10, h11, h12, h13, h15, h16, h19, h20, h21, h23, h24, h25, h26, h27, h32, h33, h34, h58, h62] at f0 f1 f2 f4 f5 f6 f8 ⊢
  subst f2
  subst f5
  exact bu_up f4)
def w_fvS_1_4 : VC := ((bX ++ [(0, 7), (0, 9), ((-2147483648), 2147483647), (0, 9), (0, 49), (0, 0), (0, 49)]), [(0, [(some 19, 0), (none, 0)], []), (197, [(some 19, 0), (some 7, 0), (some 2, 0), (some 3, 0), (some 4, 0), (some 5, 0), (some 6, 0), (some 11, 0), (some 12, 0)], [7, 62, 10, 11, 12, 13, 15, 16, 19, 20, 21, 23, 24, 25, 32, 33, 34]), (21, [(some 14, 0), (some 17, 0)], [62, 58]), (2, [(some 17, 0), (none, 10)], []), (188, [(some 14, 0)], [58, 8]), (20, [(some 15, 0), (some 14, 0)], [8]), (203, [(some 17, 0), (some 16, 0), (some 14, 0), (some 7, 0), (some 2, 0), (some 3, 0), (some 4, 0), (some 5, 0), (some 6, 0), (some 11, 0), (some 12, 0)], [7, 8, 10, 11, 12, 13, 15, 16, 19, 20, 21, 23, 24, 25, 32, 33, 34]), (3, [(none, 10), (some 17, 0)], []), (150, [(some 9, 0), (some 2, 0), (some 3, 0), (some 4, 0), (some 5, 0), (some 6, 0)], [26, 27, 7, 8, 10, 11, 12, 13, 15, 16, 19, 20, 21, 23, 24, 25])], (203, [(some 17, 1), (some 16, 0), (some 14, 0), (some 7, 0), (some 2, 0), (some 3, 0), (some 4, 0), (some 5, 0), (some 6, 0), (some 11, 0), (some 12, 0)], [7, 8, 10, 11, 12, 13, 15, 16, 19, 20, 21, 23, 24, 25, 32, 33, 34]))
set_option maxRecDepth 20000 in
theorem v_fvS_1_4 {PT : PTy} (hp : HP16 PT) : vcOk PT w_fvS_1_4 := vc_iv [(2, 0, 8), (3, 0, 11), (4, 0, 9), (5, 0, 6), (6, 0, 6), (7, 0, 8), (9, 0, 49), (11, (-2147483648), 2147483647), (12, (-2147483648), 2147483647), (14, 0, 7), (15, 0, 9), (16, (-2147483648), 2147483647), (17, 0, 9), (19, 0, 0)] [7, 8, 10, 11, 12, 13, 15, 16, 19, 20, 21, 23, 24, 25, 26, 27, 32, 33, 34, 58, 62] (by decide +kernel) (fun ρ α => by
  intro r2 g2 b2 r3 g3 b3 r4 g4 b4 r5 g5 b5 r6 g6 b6 r7 g7 b7 r9 g9 b9 r11 g11 b11 r12 g12 b12 r14 g14 b14 r15 g15 b15 r16 g16 b16 r17 g17 b17 r19 g19 b19 a7 h7 a8 h8 a10 h10 a11 h11 a12 h12 a13 h13 a15 h15 a16 h16 a19 h19 a20 h20 a21 h21 a23 h23 a24 h24 a25 h25 a26 h26 a27 h27 a32 h32 a33 h33 a34 h34 a58 h58 a62 h62 f0 f1 f2 f3 f4 f5 f6 f7 f8 tt
  clear f3 f7
  have e150 : PT 150 = P_ar2 := pe150_16 hp
  have e188 : PT 188 = P_bu2 := pe188_16 hp
  have e197 : PT 197 = P_saX := pe197_16 hp
  have e203 : PT 203 = P_wsI := pe203_16 hp
  simp only [hF0, hF20, hF21, hFp_150, hFp_188, hFp_197, hFp_203, e150, e188, e197, e203, P_ar2, P_bu2, P_saX, P_wsI, den_s, den_c, Int.add_zero, List.map_cons, List.map_nil, g2.eq, g3.eq, g4.eq, g5.eq, g6.eq, g7.eq, g9.eq, g11.eq, g12.eq, g14.eq, g15.eq, g16.eq, g17.eq, g19.eq, h7, h8, h10, h11, h12, h13, h15, h16, h19, h20, h21, h23, h24, h25, h26, h27, h32, h33, h34, h58, h62] at f0 f1 f2 f4 f5 f6 f8 ⊢
  subst f2
  subst f5
  have hs := f1
  have hb := f4
  first
    | exact obB_s f6 (by omega) ⟨_, fun q hq => by rw [updI_ne hq]; exact hb q hq, updI_at _ _ _, hs⟩ (by rw [if_pos (by omega)])
    | exact obB_s f6 (by omega) ⟨_, fun q hq => by rw [updI_ne hq]; exact hb q hq, updI_at _ _ _, hs⟩ (by rw [if_neg (by omega)]))
def w_fvS_1_5 : VC := ((bX ++ [(0, 7), (0, 9), ((-2147483648), 2147483647), (0, 9), (0, 49), (0, 0), (0, 49)]), [(0, [(some 19, 0), (none, 0)], []), (197, [(some 19, 0), (some 7, 0), (some 2, 0), (some 3, 0), (some 4, 0), (some 5, 0), (some 6, 0), (some 11, 0), (some 12, 0)], [7, 62, 10, 11, 12, 13, 15, 16, 19, 20, 21, 23, 24, 25, 32, 33, 34]), (21, [(some 14, 0), (some 17, 0)], [62, 58]), (2, [(some 17, 0), (none, 10)], []), (188, [(some 14, 0)], [58, 8]), (20, [(some 15, 0), (some 14, 0)], [8]), (203, [(some 17, 0), (some 16, 0), (some 14, 0), (some 7, 0), (some 2, 0), (some 3, 0), (some 4, 0), (some 5, 0), (some 6, 0), (some 11, 0), (some 12, 0)], [7, 8, 10, 11, 12, 13, 15, 16, 19, 20, 21, 23, 24, 25, 32, 33, 34]), (3, [(none, 10), (some 17, 0)], []), (150, [(some 9, 0), (some 2, 0), (some 3, 0), (some 4, 0), (some 5, 0), (some 6, 0)], [26, 27, 7, 8, 10, 11, 12, 13, 15, 16, 19, 20, 21, 23, 24, 25])], (3, [(none, 10), (some 17, 1)], []))
set_option maxRecDepth 20000 in
theorem v_fvS_1_5 {PT : PTy} (hp : HP16 PT) : vcOk PT w_fvS_1_5 := vc_iv [(2, 0, 8), (3, 0, 11), (4, 0, 9), (5, 0, 6), (6, 0, 6), (7, 0, 8), (9, 0, 49), (11, (-2147483648), 2147483647), (12, (-2147483648), 2147483647), (14, 0, 7), (15, 0, 9), (16, (-2147483648), 2147483647), (17, 0, 9), (19, 0, 0)] [7, 8, 10, 11, 12, 13, 15, 16, 19, 20, 21, 23, 24, 25, 26, 27, 32, 33, 34, 58, 62] (by decide +kernel) (fun ρ α => by
  intro r2 g2 b2 r3 g3 b3 r4 g4 b4 r5 g5 b5 r6 g6 b6 r7 g7 b7 r9 g9 b9 r11 g11 b11 r12 g12 b12 r14 g14 b14 r15 g15 b15 r16 g16 b16 r17 g17 b17 r19 g19 b19 a7 h7 a8 h8 a10 h10 a11 h11 a12 h12 a13 h13 a15 h15 a16 h16 a19 h19 a20 h20 a21 h21 a23 h23 a24 h24 a25 h25 a26 h26 a27 h27 a32 h32 a33 h33 a34 h34 a58 h58 a62 h62 f0 f1 f2 f3 f4 f5 f6 f7 f8 tt
  clear f3 f7
  have e150 : PT 150 = P_ar2 := pe150_16 hp
  have e188 : PT 188 = P_bu2 := pe188_16 hp
  have e197 : PT 197 = P_saX := pe197_16 hp
  have e203 : PT 203 = P_wsI := pe203_16 hp
  simp only [hF0, hF3, hF20, hF21, hFp_150, hFp_188, hFp_197, hFp_203, e150, e188, e197, e203, P_ar2, P_bu2, P_saX, P_wsI, den_s, den_c, Int.add_zero, List.map_cons, List.map_nil, g2.eq, g3.eq, g4.eq, g5.eq, g6.eq, g7.eq, g9.eq, g11.eq, g12.eq, g14.eq, g15.eq, g16.eq, g17.eq, g19.eq, h7, h8, h10, h11, h12, h13, h15, h16, h19, h20, h21, h23, h24, h25, h26, h27, h32, h33, h34, h58, h62] at f0 f1 f2 f4 f5 f6 f8 ⊢
  subst f2
  subst f5
  omega)
def w_fvS_1_6 : VC := ((bX ++ [(0, 7), (0, 9), ((-2147483648), 2147483647), (0, 9), (0, 49), (1, 1), (0, 49), (1, 512), ((-2147483648), 2147483647)]), [(11, [(some 22, 0), (some 16, 0), (some 21, 0)], []), (13, [(some 21, 0), (none, 1), (some 17, 0)], []), (1, [(some 19, 0), (none, 0)], []), (197, [(some 19, 0), (some 7, 0), (some 2, 0), (some 3, 0), (some 4, 0), (some 5, 0), (some 6, 0), (some 11, 0), (some 12, 0)], [7, 62, 10, 11, 12, 13, 15, 16, 19, 20, 21, 23, 24, 25, 32, 33, 34]), (21, [(some 14, 0), (some 17, 0)], [62, 58]), (2, [(some 17, 0), (none, 10)], []), (188, [(some 14, 0)], [58, 8]), (20, [(some 15, 0), (some 14, 0)], [8]), (203, [(some 17, 0), (some 16, 0), (some 14, 0), (some 7, 0), (some 2, 0), (some 3, 0), (some 4, 0), (some 5, 0), (some 6, 0), (some 11, 0), (some 12, 0)], [7, 8, 10, 11, 12, 13, 15, 16, 19, 20, 21, 23, 24, 25, 32, 33, 34]), (3, [(none, 10), (some 17, 0)], []), (150, [(some 9, 0), (some 2, 0), (some 3, 0), (some 4, 0), (some 5, 0), (some 6, 0)], [26, 27, 7, 8, 10, 11, 12, 13, 15, 16, 19, 20, 21, 23, 24, 25])], (188, [(some 14, 0)], [62, 8]))
set_option maxRecDepth 20000 in
theorem v_fvS_1_6 {PT : PTy} (hp : HP16 PT) : vcOk PT w_fvS_1_6 := vc_iv [(2, 0, 8), (3, 0, 11), (4, 0, 9), (5, 0, 6), (6, 0, 6), (7, 0, 8), (9, 0, 49), (11, (-2147483648), 2147483647), (12, (-2147483648), 2147483647), (14, 0, 7), (15, 0, 9), (16, (-2147483648), 2147483647), (17, 0, 9), (19, 1, 1), (21, 1, 512), (22, (-2147483648), 2147483647)] [7, 8, 10, 11, 12, 13, 15, 16, 19, 20, 21, 23, 24, 25, 26, 27, 32, 33, 34, 58, 62] (by decide +kernel) (fun ρ α => by
  intro r2 g2 b2 r3 g3 b3 r4 g4 b4 r5 g5 b5 r6 g6 b6 r7 g7 b7 r9 g9 b9 r11 g11 b11 r12 g12 b12 r14 g14 b14 r15 g15 b15 r16 g16 b16 r17 g17 b17 r19 g19 b19 r21 g21 b21 r22 g22 b22 a7 h7 a8 h8 a10 h10 a11 h11 a12 h12 a13 h13 a15 h15 a16 h16 a19 h19 a20 h20 a21 h21 a23 h23 a24 h24 a25 h25 a26 h26 a27 h27 a32 h32 a33 h33 a34 h34 a58 h58 a62 h62 f0 f1 f2 f3 f4 f5 f6 f7 f8 f9 f10 tt
  clear f2 f5 f9
  have e150 : PT 150 = P_ar2 := pe150_16 hp
  have e188 : PT 188 = P_bu2 := pe188_16 hp
  have e197 : PT 197 = P_saX := pe197_16 hp
  have e203 : PT 203 = P_wsI := pe203_16 hp
  simp only [hF11, hF13, hF20, hF21, hFp_150, hFp_188, hFp_197, hFp_203, e150, e188, e197, e203, P_ar2, P_bu2, P_saX, P_wsI, den_s, den_c, Int.add_zero, List.map_cons, List.map_nil, g2.eq, g3.eq, g4.eq, g5.eq, g6.eq, g7.eq, g9.eq, g11.eq, g12.eq, g14.eq, g15.eq, g16.eq, g17.eq, g19.eq, g21.eq, g22.eq, h7, h8, h10, h11, h12, h13, h15, h16, h19, h20, h21, h23, h24, h25, h26, h27, h32, h33, h34, h58, h62] at f0 f1 f3 f4 f6 f7 f8 f10 ⊢
  subst f0
  subst f1
  subst f4
  subst f7
  exact bu_up f6)
def w_fvS_1_7 : VC := ((bX ++ [(0, 7), (0, 9), ((-2147483648), 2147483647), (0, 9), (0, 49), (1, 1), (0, 49), (1, 512), ((-2147483648), 2147483647)]), [(11, [(some 22, 0), (some 16, 0), (some 21, 0)], []), (13, [(some 21, 0), (none, 1), (some 17, 0)], []), (1, [(some 19, 0), (none, 0)], []), (197, [(some 19, 0), (some 7, 0), (some 2, 0), (some 3, 0), (some 4, 0), (some 5, 0), (some 6, 0), (some 11, 0), (some 12, 0)], [7, 62, 10, 11, 12, 13, 15, 16, 19, 20, 21, 23, 24, 25, 32, 33, 34]), (21, [(some 14, 0), (some 17, 0)], [62, 58]), (2, [(some 17, 0), (none, 10)], []), (188, [(some 14, 0)], [58, 8]), (20, [(some 15, 0), (some 14, 0)], [8]), (203, [(some 17, 0), (some 16, 0), (some 14, 0), (some 7, 0), (some 2, 0), (some 3, 0), (some 4, 0), (some 5, 0), (some 6, 0), (some 11, 0), (some 12, 0)], [7, 8, 10, 11, 12, 13, 15, 16, 19, 20, 21, 23, 24, 25, 32, 33, 34]), (3, [(none, 10), (some 17, 0)], []), (150, [(some 9, 0), (some 2, 0), (some 3, 0), (some 4, 0), (some 5, 0), (some 6, 0)], [26, 27, 7, 8, 10, 11, 12, 13, 15, 16, 19, 20, 21, 23, 24, 25])], (203, [(some 17, 1), (some 22, 0), (some 14, 0), (some 7, 0), (some 2, 0), (some 3, 0), (some 4, 0), (some 5, 0), (some 6, 0), (some 11, 0), (some 12, 0)], [7, 8, 10, 11, 12, 13, 15, 16, 19, 20, 21, 23, 24, 25, 32, 33, 34]))
set_option maxRecDepth 20000 in
theorem v_fvS_1_7 {PT : PTy} (hp : HP16 PT) : vcOk PT w_fvS_1_7 := vc_iv [(2, 0, 8), (3, 0, 11), (4, 0, 9), (5, 0, 6), (6, 0, 6), (7, 0, 8), (9, 0, 49), (11, (-2147483648), 2147483647), (12, (-2147483648), 2147483647), (14, 0, 7), (15, 0, 9), (16, (-2147483648), 2147483647), (17, 0, 9), (19, 1, 1), (21, 1, 512), (22, (-2147483648), 2147483647)] [7, 8, 10, 11, 12, 13, 15, 16, 19, 20, 21, 23, 24, 25, 26, 27, 32, 33, 34, 58, 62] (by decide +kernel) (fun ρ α => by
  intro r2 g2 b2 r3 g3 b3 r4 g4 b4 r5 g5 b5 r6 g6 b6 r7 g7 b7 r9 g9 b9 r11 g11 b11 r12 g12 b12 r14 g14 b14 r15 g15 b15 r16 g16 b16 r17 g17 b17 r19 g19 b19 r21 g21 b21 r22 g22 b22 a7 h7 a8 h8 a10 h10 a11 h11 a12 h12 a13 h13 a15 h15 a16 h16 a19 h19 a20 h20 a21 h21 a23 h23 a24 h24 a25 h25 a26 h26 a27 h27 a32 h32 a33 h33 a34 h34 a58 h58 a62 h62 f0 f1 f2 f3 f4 f5 f6 f7 f8 f9 f10 tt
  clear f2 f5 f9
  have e150 : PT 150 = P_ar2 := pe150_16 hp
  have e188 : PT 188 = P_bu2 := pe188_16 hp
  have e197 : PT 197 = P_saX := pe197_16 hp
  have e203 : PT 203 = P_wsI := pe203_16 hp
  simp only [hF11, hF13, hF20, hF21, hFp_150, hFp_188, hFp_197, hFp_203, e150, e188, e197, e203, P_ar2, P_bu2, P_saX, P_wsI, den_s, den_c, Int.add_zero, List.map_cons, List.map_nil, g2.eq, g3.eq, g4.eq, g5.eq, g6.eq, g7.eq, g9.eq, g11.eq, g12.eq, g14.eq, g15.eq, g16.eq, g17.eq, g19.eq, g21.eq, g22.eq, h7, h8, h10, h11, h12, h13, h15, h16, h19, h20, h21, h23, h24, h25, h26, h27, h32, h33, h34, h58, h62] at f0 f1 f3 f4 f6 f7 f8 f10 ⊢
  subst f0
  subst f1
  subst f4
  subst f7
  have hs := f3
  have hb := f6
  first
    | exact obB_s f8 (by omega) ⟨_, fun q hq => by rw [updI_ne hq]; exact hb q hq, updI_at _ _ _, hs⟩ (by rw [if_pos (by omega)])
    | exact obB_s f8 (by omega) ⟨_, fun q hq => by rw [updI_ne hq]; exact hb q hq, updI_at _ _ _, hs⟩ (by rw [if_neg (by omega)]))
def w_fvS_1_8 : VC := ((bX ++ [(0, 7), (0, 9), ((-2147483648), 2147483647), (0, 9), (0, 49), (1, 1), (0, 49), (1, 512), ((-2147483648), 2147483647)]), [(11, [(some 22, 0), (some 16, 0), (some 21, 0)], []), (13, [(some 21, 0), (none, 1), (some 17, 0)], []), (1, [(some 19, 0), (none, 0)], []), (197, [(some 19, 0), (some 7, 0), (some 2, 0), (some 3, 0), (some 4, 0), (some 5, 0), (some 6, 0), (some 11, 0), (some 12, 0)], [7, 62, 10, 11, 12, 13, 15, 16, 19, 20, 21, 23, 24, 25, 32, 33, 34]), (21, [(some 14, 0), (some 17, 0)], [62, 58]), (2, [(some 17, 0), (none, 10)], []), (188, [(some 14, 0)], [58, 8]), (20, [(some 15, 0), (some 14, 0)], [8]), (203, [(some 17, 0), (some 16, 0), (some 14, 0), (some 7, 0), (some 2, 0), (some 3, 0), (some 4, 0), (some 5, 0), (some 6, 0), (some 11, 0), (some 12, 0)], [7, 8, 10, 11, 12, 13, 15, 16, 19, 20, 21, 23, 24, 25, 32, 33, 34]), (3, [(none, 10), (some 17, 0)], []), (150, [(some 9, 0), (some 2, 0), (some 3, 0), (some 4, 0), (some 5, 0), (some 6, 0)], [26, 27, 7, 8, 10, 11, 12, 13, 15, 16, 19, 20, 21, 23, 24, 25])], (3, [(none, 10), (some 17, 1)], []))
set_option maxRecDepth 20000 in
theorem v_fvS_1_8 {PT : PTy} (hp : HP16 PT) : vcOk PT w_fvS_1_8 := vc_iv [(2, 0, 8), (3, 0, 11), (4, 0, 9), (5, 0, 6), (6, 0, 6), (7, 0, 8), (9, 0, 49), (11, (-2147483648), 2147483647), (12, (-2147483648), 2147483647), (14, 0, 7), (15, 0, 9), (16, (-2147483648), 2147483647), (17, 0, 9), (19, 1, 1), (21, 1, 512), (22, (-2147483648), 2147483647)] [7, 8, 10, 11, 12, 13, 15, 16, 19, 20, 21, 23, 24, 25, 26, 27, 32, 33, 34, 58, 62] (by decide +kernel) (fun ρ α => by
  intro r2 g2 b2 r3 g3 b3 r4 g4 b4 r5 g5 b5 r6 g6 b6 r7 g7 b7 r9 g9 b9 r11 g11 b11 r12 g12 b12 r14 g14 b14 r15 g15 b15 r16 g16 b16 r17 g17 b17 r19 g19 b19 r21 g21 b21 r22 g22 b22 a7 h7 a8 h8 a10 h10 a11 h11 a12 h12 a13 h13 a15 h15 a16 h16 a19 h19 a20 h20 a21 h21 a23 h23 a24 h24 a25 h25 a26 h26 a27 h27 a32 h32 a33 h33 a34 h34 a58 h58 a62 h62 f0 f1 f2 f3 f4 f5 f6 f7 f8 f9 f10 tt
  clear f2 f5 f9
  have e150 : PT 150 = P_ar2 := pe150_16 hp
  have e188 : PT 188 = P_bu2 := pe188_16 hp
  have e197 : PT 197 = P_saX := pe197_16 hp
  have e203 : PT 203 = P_wsI := pe203_16 hp
  simp only [hF3, hF11, hF13, hF20, hF21, hFp_150, hFp_188, hFp_197, hFp_203, e150, e188, e197, e203, P_ar2, P_bu2, P_saX, P_wsI, den_s, den_c, Int.add_zero, List.map_cons, List.map_nil, g2.eq, g3.eq, g4.eq, g5.eq, g6.eq, g7.eq, g9.eq, g11.eq, g12.eq, g14.eq, g15.eq, g16.eq, g17.eq, g19.eq, g21.eq, g22.eq, h7, h8, h10, h11, h12, h13, h15, h16, h19, h20, h21, h23, h24, h25, h26, h27, h32, h33, h34, h58, h62] at f0 f1 f3 f4 f6 f7 f8 f10 ⊢
  subst f0
  subst f1
  subst f4
  subst f7
  omega)
set_option maxRecDepth 1000000 in
theorem k_fvS {PT : PTy} (hp : HP16 PT) : wfX c_fvS = true ∧ xcOk PT c_fvS := xctr (xl (k_showsAll hp.1) (xl0)) c_fvS 42 mX6_fittingValues rfl h_fvS (by decide +kernel) (by decide +kernel) (by decide) (vcs_by [w_fvS_0_0, w_fvS_0_1, w_fvS_0_2] (by decide +kernel) (vc (v_fvS_0_0 hp) (vc (v_fvS_0_1 hp) (vc (v_fvS_0_2 hp) vn)))) (fmc (vcs_by [w_fvS_1_0, w_fvS_1_1, w_fvS_1_2, w_fvS_1_3, w_fvS_1_4, w_fvS_1_5, w_fvS_1_6, w_fvS_1_7, w_fvS_1_8] (by decide +kernel) (vc (v_fvS_1_0 hp) (vc (v_fvS_1_1 hp) (vc (v_fvS_1_2 hp) (vc (v_fvS_1_3 hp) (vc (v_fvS_1_4 hp) (vc (v_fvS_1_5 hp) (vc (v_fvS_1_6 hp) (vc (v_fvS_1_7 hp) (vc (v_fvS_1_8 hp) vn)))))))))) fmn)
def c_fvO : XC := (92, 4, (bX ++ [(0, 7)]), [.inr (.inl 0), .inr (.inl 7), .inl (some 14, 0), .inl (none, 3)], (gX 14), [(150, [(some 9, 0), (some 2, 0), (some 3, 0), (some 4, 0), (some 5, 0), (some 6, 0)], [26, 27, 7, 8, 10, 11, 12, 13, 15, 16, 19, 20, 21, 23, 24, 25])], [((bX ++ [(0, 7), ((-2147483648), 2147483647), (0, 49)]), some (.inl (some 15, 0)), (hst (gX 14) [(5, .inr (.inr (.inr (0, [.inr (.inl 6), .inr (.inl 9), .inr (.inl 14), .inr (.inl 18), .inr (.inl 22), .inr (.inl 26), .inr (.inl 27), .inr (.inl 28), .inr (.inl 29), .inr (.inl 30), .inl (some 9, 0), .inl (some 16, 0), .inl (some 11, 0), .inl (some 12, 0), .inr (.inl 14)]))))]), (ansT 58 [(7, 58), (28, 59), (29, 60), (30, 61)]), 62, [(204, [(none, 3), (some 15, 0), (some 14, 0), (some 7, 0), (some 2, 0), (some 3, 0), (some 4, 0), (some 5, 0), (some 6, 0), (some 11, 0), (some 12, 0)], [7, 8, 10, 11, 12, 13, 15, 16, 19, 20, 21, 23, 24, 25, 32, 33, 34]), (27, [], [58, 7])])])
def h_fvO : List XH := [(11, (bX ++ [(0, 7), (0, 2), ((-2147483648), 2147483647), (0, 3), (0, 49)]), [some (.inr (.inl 0)), some (.inr (.inl 7)), some (.inl (some 14, 0)), some (.inl (none, 3)), some (.inl (some 15, 0)), some (.inl (some 16, 0)), some (.inl (some 17, 0))], (hst (gX 14) [(5, .inr (.inr (.inr (0, [.inr (.inl 6), .inr (.inl 9), .inr (.inl 14), .inr (.inl 18), .inr (.inl 22), .inr (.inl 26), .inr (.inl 27), .inr (.inl 28), .inr (.inl 29), .inr (.inl 30), .inl (some 9, 0), .inl (some 18, 0), .inl (some 11, 0), .inl (some 12, 0), .inr (.inl 14)]))))]), (ansT 58 [(7, 58), (28, 59), (29, 60), (30, 61)]), 62, [(188, [(some 14, 0)], [58, 7]), (20, [(some 15, 0), (some 14, 0)], [7]), (204, [(some 17, 0), (some 16, 0), (some 14, 0), (some 7, 0), (some 2, 0), (some 3, 0), (some 4, 0), (some 5, 0), (some 6, 0), (some 11, 0), (some 12, 0)], [7, 8, 10, 11, 12, 13, 15, 16, 19, 20, 21, 23, 24, 25, 32, 33, 34]), (3, [(none, 3), (some 17, 0)], [])], [(true, (none, 1)), (true, (some 17, 0))])]
def w_fvO_0_0 : VC := ((bX ++ [(0, 7), (0, 2)]), [(20, [(some 15, 0), (some 14, 0)], [7]), (150, [(some 9, 0), (some 2, 0), (some 3, 0), (some 4, 0), (some 5, 0), (some 6, 0)], [26, 27, 7, 8, 10, 11, 12, 13, 15, 16, 19, 20, 21, 23, 24, 25])], (188, [(some 14, 0)], [7, 7]))
set_option maxRecDepth 20000 in
theorem v_fvO_0_0 {PT : PTy} (hp : HP16 PT) : vcOk PT w_fvO_0_0 := vc_in [(2, 0, 8), (3, 0, 11), (4, 0, 9), (5, 0, 6), (6, 0, 6), (9, 0, 49), (14, 0, 7), (15, 0, 2)] (by decide +kernel) (fun ρ α => by
  intro b2 b3 b4 b5 b6 b9 b14 b15 f0 f1 tt
  have e150 : PT 150 = P_ar2 := pe150_16 hp
  have e188 : PT 188 = P_bu2 := pe188_16 hp
  simp only [hF20, hFp_150, hFp_188, e150, e188, P_ar2, P_bu2, den_s, den_c, Int.add_zero, List.map_cons, List.map_nil] at f0 f1 ⊢
  exact fun i h => (by first | rfl | trivial))
def w_fvO_0_1 : VC := ((bX ++ [(0, 7), (0, 2)]), [(20, [(some 15, 0), (some 14, 0)], [7]), (150, [(some 9, 0), (some 2, 0), (some 3, 0), (some 4, 0), (some 5, 0), (some 6, 0)], [26, 27, 7, 8, 10, 11, 12, 13, 15, 16, 19, 20, 21, 23, 24, 25])], (204, [(none, 0), (none, 0), (some 14, 0), (some 7, 0), (some 2, 0), (some 3, 0), (some 4, 0), (some 5, 0), (some 6, 0), (some 11, 0), (some 12, 0)], [7, 8, 10, 11, 12, 13, 15, 16, 19, 20, 21, 23, 24, 25, 32, 33, 34]))
theorem pe204_16 {PT : PTy} (hp : HP16 PT) : PT 204 = P_woI := hp.2.2.1
set_option maxRecDepth 20000 in
theorem v_fvO_0_1 {PT : PTy} (hp : HP16 PT) : vcOk PT w_fvO_0_1 := vc_in [(2, 0, 8), (3, 0, 11), (4, 0, 9), (5, 0, 6), (6, 0, 6), (7, 0, 8), (9, 0, 49), (11, (-2147483648), 2147483647), (12, (-2147483648), 2147483647), (14, 0, 7), (15, 0, 2)] (by decide +kernel) (fun ρ α => by
  intro b2 b3 b4 b5 b6 b7 b9 b11 b12 b14 b15 f0 f1 tt
  have e150 : PT 150 = P_ar2 := pe150_16 hp
  have e204 : PT 204 = P_woI := pe204_16 hp
  simp only [hF20, hFp_150, hFp_204, e150, e204, P_ar2, P_woI, den_s, den_c, Int.add_zero, List.map_cons, List.map_nil] at f0 f1 ⊢
  exact obB_z)
def w_fvO_0_2 : VC := ((bX ++ [(0, 7), (0, 2)]), [(20, [(some 15, 0), (some 14, 0)], [7]), (150, [(some 9, 0), (some 2, 0), (some 3, 0), (some 4, 0), (some 5, 0), (some 6, 0)], [26, 27, 7, 8, 10, 11, 12, 13, 15, 16, 19, 20, 21, 23, 24, 25])], (3, [(none, 3), (none, 0)], []))
theorem v_fvO_0_2 {PT : PTy} (_ : HP16 PT) : vcOk PT w_fvO_0_2 := vc_of (fun ρ α _ _ => by simp only [hF3, den_c] <;> omega)
def w_fvO_1_0 : VC := ((bX ++ [(0, 7), (0, 2), ((-2147483648), 2147483647), (3, 3), (0, 49)]), [(21, [(some 14, 0), (some 15, 0)], [62, 58]), (3, [(some 17, 0), (none, 3)], []), (188, [(some 14, 0)], [58, 7]), (20, [(some 15, 0), (some 14, 0)], [7]), (204, [(some 17, 0), (some 16, 0), (some 14, 0), (some 7, 0), (some 2, 0), (some 3, 0), (some 4, 0), (some 5, 0), (some 6, 0), (some 11, 0), (some 12, 0)], [7, 8, 10, 11, 12, 13, 15, 16, 19, 20, 21, 23, 24, 25, 32, 33, 34]), (3, [(none, 3), (some 17, 0)], []), (150, [(some 9, 0), (some 2, 0), (some 3, 0), (some 4, 0), (some 5, 0), (some 6, 0)], [26, 27, 7, 8, 10, 11, 12, 13, 15, 16, 19, 20, 21, 23, 24, 25])], (204, [(none, 3), (some 16, 0), (some 14, 0), (some 7, 0), (some 2, 0), (some 3, 0), (some 4, 0), (some 5, 0), (some 6, 0), (some 11, 0), (some 12, 0)], [7, 8, 10, 11, 12, 13, 15, 16, 19, 20, 21, 23, 24, 25, 32, 33, 34]))
set_option maxRecDepth 20000 in
theorem v_fvO_1_0 {PT : PTy} (hp : HP16 PT) : vcOk PT w_fvO_1_0 := vc_iv [(2, 0, 8), (3, 0, 11), (4, 0, 9), (5, 0, 6), (6, 0, 6), (7, 0, 8), (9, 0, 49), (11, (-2147483648), 2147483647), (12, (-2147483648), 2147483647), (14, 0, 7), (15, 0, 2), (16, (-2147483648), 2147483647), (17, 3, 3)] [7, 8, 10, 11, 12, 13, 15, 16, 19, 20, 21, 23, 24, 25, 26, 27, 32, 33, 34, 58, 62] (by decide +kernel) (fun ρ α => by
  intro r2 g2 b2 r3 g3 b3 r4 g4 b4 r5 g5 b5 r6 g6 b6 r7 g7 b7 r9 g9 b9 r11 g11 b11 r12 g12 b12 r14 g14 b14 r15 g15 b15 r16 g16 b16 r17 g17 b17 a7 h7 a8 h8 a10 h10 a11 h11 a12 h12 a13 h13 a15 h15 a16 h16 a19 h19 a20 h20 a21 h21 a23 h23 a24 h24 a25 h25 a26 h26 a27 h27 a32 h32 a33 h33 a34 h34 a58 h58 a62 h62 f0 f1 f2 f3 f4 f5 f6 tt
  clear f1 f5
  have e150 : PT 150 = P_ar2 := pe150_16 hp
  have e188 : PT 188 = P_bu2 := pe188_16 hp
  have e204 : PT 204 = P_woI := pe204_16 hp
  simp only [hF20, hF21, hFp_150, hFp_188, hFp_204, e150, e188, e204, P_ar2, P_bu2, P_woI, den_s, den_c, Int.add_zero, List.map_cons, List.map_nil, g2.eq, g3.eq, g4.eq, g5.eq, g6.eq, g7.eq, g9.eq, g11.eq, g12.eq, g14.eq, g15.eq, g16.eq, g17.eq, h7, h8, h10, h11, h12, h13, h15, h16, h19, h20, h21, h23, h24, h25, h26, h27, h32, h33, h34, h58, h62] at f0 f2 f3 f4 f6 ⊢
  subst f0
  subst f3
  have hh := f4
  rw [show r17 = 3 by omega] at hh
  exact hh)
def w_fvO_1_1 : VC := ((bX ++ [(0, 7), (0, 2), ((-2147483648), 2147483647), (3, 3), (0, 49)]), [(21, [(some 14, 0), (some 15, 0)], [62, 58]), (3, [(some 17, 0), (none, 3)], []), (188, [(some 14, 0)], [58, 7]), (20, [(some 15, 0), (some 14, 0)], [7]), (204, [(some 17, 0), (some 16, 0), (some 14, 0), (some 7, 0), (some 2, 0), (some 3, 0), (some 4, 0), (some 5, 0), (some 6, 0), (some 11, 0), (some 12, 0)], [7, 8, 10, 11, 12, 13, 15, 16, 19, 20, 21, 23, 24, 25, 32, 33, 34]), (3, [(none, 3), (some 17, 0)], []), (150, [(some 9, 0), (some 2, 0), (some 3, 0), (some 4, 0), (some 5, 0), (some 6, 0)], [26, 27, 7, 8, 10, 11, 12, 13, 15, 16, 19, 20, 21, 23, 24, 25])], (27, [], [62, 7]))
set_option maxRecDepth 20000 in
theorem v_fvO_1_1 {PT : PTy} (hp : HP16 PT) : vcOk PT w_fvO_1_1 := vc_iv [(2, 0, 8), (3, 0, 11), (4, 0, 9), (5, 0, 6), (6, 0, 6), (7, 0, 8), (9, 0, 49), (11, (-2147483648), 2147483647), (12, (-2147483648), 2147483647), (14, 0, 7), (15, 0, 2), (16, (-2147483648), 2147483647), (17, 3, 3)] [7, 8, 10, 11, 12, 13, 15, 16, 19, 20, 21, 23, 24, 25, 26, 27, 32, 33, 34, 58, 62] (by decide +kernel) (fun ρ α => by
  intro r2 g2 b2 r3 g3 b3 r4 g4 b4 r5 g5 b5 r6 g6 b6 r7 g7 b7 r9 g9 b9 r11 g11 b11 r12 g12 b12 r14 g14 b14 r15 g15 b15 r16 g16 b16 r17 g17 b17 a7 h7 a8 h8 a10 h10 a11 h11 a12 h12 a13 h13 a15 h15 a16 h16 a19 h19 a20 h20 a21 h21 a23 h23 a24 h24 a25 h25 a26 h26 a27 h27 a32 h32 a33 h33 a34 h34 a58 h58 a62 h62 f0 f1 f2 f3 f4 f5 f6 tt
  clear f1 f5
  have e150 : PT 150 = P_ar2 := pe150_16 hp
  have e188 : PT 188 = P_bu2 := pe188_16 hp
  have e204 : PT 204 = P_woI := pe204_16 hp
  simp only [hF20, hF21, hF27, hFp_150, hFp_188, hFp_204, e150, e188, e204, P_ar2, P_bu2, P_woI, den_s, den_c, Int.add_zero, List.map_cons, List.map_nil, g2.eq, g3.eq, g4.eq, g5.eq, g6.eq, g7.eq, g9.eq, g11.eq, g12.eq, g14.eq, g15.eq, g16.eq, g17.eq, h7, h8, h10, h11, h12, h13, h15, h16, h19, h20, h21, h23, h24, h25, h26, h27, h32, h33, h34, h58, h62] at f0 f2 f3 f4 f6 ⊢
  subst f0
  subst f3
  exact upd_bk f2)
def w_fvO_1_2 : VC := ((bX ++ [(0, 7), (0, 2), ((-2147483648), 2147483647), (0, 2), (0, 49)]), [(21, [(some 14, 0), (some 17, 0)], [62, 58]), (2, [(some 17, 0), (none, 3)], []), (188, [(some 14, 0)], [58, 7]), (20, [(some 15, 0), (some 14, 0)], [7]), (204, [(some 17, 0), (some 16, 0), (some 14, 0), (some 7, 0), (some 2, 0), (some 3, 0), (some 4, 0), (some 5, 0), (some 6, 0), (some 11, 0), (some 12, 0)], [7, 8, 10, 11, 12, 13, 15, 16, 19, 20, 21, 23, 24, 25, 32, 33, 34]), (3, [(none, 3), (some 17, 0)], []), (150, [(some 9, 0), (some 2, 0), (some 3, 0), (some 4, 0), (some 5, 0), (some 6, 0)], [26, 27, 7, 8, 10, 11, 12, 13, 15, 16, 19, 20, 21, 23, 24, 25])], (150, [(some 9, 0), (some 2, 0), (some 3, 0), (some 4, 0), (some 5, 0), (some 6, 0)], [26, 27, 62, 8, 10, 11, 12, 13, 15, 16, 19, 20, 21, 23, 24, 25]))
set_option maxRecDepth 20000 in
theorem v_fvO_1_2 {PT : PTy} (hp : HP16 PT) : vcOk PT w_fvO_1_2 := vc_in [(2, 0, 8), (3, 0, 11), (4, 0, 9), (5, 0, 6), (6, 0, 6), (7, 0, 8), (9, 0, 49), (11, (-2147483648), 2147483647), (12, (-2147483648), 2147483647), (14, 0, 7), (15, 0, 2), (16, (-2147483648), 2147483647), (17, 0, 2)] (by decide +kernel) (fun ρ α => by
  intro b2 b3 b4 b5 b6 b7 b9 b11 b12 b14 b15 b16 b17 f0 f1 f2 f3 f4 f5 f6 tt
  clear f1 f5
  have e150 : PT 150 = P_ar2 := pe150_16 hp
  have e188 : PT 188 = P_bu2 := pe188_16 hp
  have e204 : PT 204 = P_woI := pe204_16 hp
  simp only [hF20, hF21, hFp_150, hFp_188, hFp_204, e150, e188, e204, P_ar2, P_bu2, P_woI, den_s, den_c, Int.add_zero, List.map_cons, List.map_nil] at f0 f2 f3 f4 f6 ⊢
  exact f6)
def w_fvO_1_3 : VC := ((bX ++ [(0, 7), (0, 2), ((-2147483648), 2147483647), (0, 2), (0, 49), (0, 0), (0, 49)]), [(0, [(some 19, 0), (none, 0)], []), (197, [(some 19, 0), (some 7, 0), (some 2, 0), (some 3, 0), (some 4, 0), (some 5, 0), (some 6, 0), (some 11, 0), (some 12, 0)], [62, 8, 10, 11, 12, 13, 15, 16, 19, 20, 21, 23, 24, 25, 32, 33, 34]), (21, [(some 14, 0), (some 17, 0)], [62, 58]), (2, [(some 17, 0), (none, 3)], []), (188, [(some 14, 0)], [58, 7]), (20, [(some 15, 0), (some 14, 0)], [7]), (204, [(some 17, 0), (some 16, 0), (some 14, 0), (some 7, 0), (some 2, 0), (some 3, 0), (some 4, 0), (some 5, 0), (some 6, 0), (some 11, 0), (some 12, 0)], [7, 8, 10, 11, 12, 13, 15, 16, 19, 20, 21, 23, 24, 25, 32, 33, 34]), (3, [(none, 3), (some 17, 0)], []), (150, [(some 9, 0), (some 2, 0), (some 3, 0), (some 4, 0), (some 5, 0), (some 6, 0)], [26, 27, 7, 8, 10, 11, 12, 13, 15, 16, 19, 20, 21, 23, 24, 25])], (188, [(some 14, 0)], [62, 7]))
set_option maxRecDepth 20000 in
theorem v_fvO_1_3 {PT : PTy} (hp : HP16 PT) : vcOk PT w_fvO_1_3 := vc_iv [(2, 0, 8), (3, 0, 11), (4, 0, 9), (5, 0, 6), (6, 0, 6), (7, 0, 8), (9, 0, 49), (11, (-2147483648), 2147483647), (12, (-2147483648), 2147483647), (14, 0, 7), (15, 0, 2), (16, (-2147483648), 2147483647), (17, 0, 2), (19, 0, 0)] [7, 8, 10, 11, 12, 13, 15, 16, 19, 20, 21, 23, 24, 25, 26, 27, 32, 33, 34, 58, 62] (by decide +kernel) (fun ρ α => by
  intro r2 g2 b2 r3 g3 b3 r4 g4 b4 r5 g5 b5 r6 g6 b6 r7 g7 b7 r9 g9 b9 r11 g11 b11 r12 g12 b12 r14 g14 b14 r15 g15 b15 r16 g16 b16 r17 g17 b17 r19 g19 b19 a7 h7 a8 h8 a10 h10 a11 h11 a12 h12 a13 h13 a15 h15 a16 h16 a19 h19 a20 h20 a21 h21 a23 h23 a24 h24 a25 h25 a26 h26 a27 h27 a32 h32 a33 h33 a34 h34 a58 h58 a62 h62 f0 f1 f2 f3 f4 f5 f6 f7 f8 tt
  clear f3 f7
  have e150 : PT 150 = P_ar2 := pe150_16 hp
  have e188 : PT 188 = P_bu2 := pe188_16 hp
  have e197 : PT 197 = P_saX := pe197_16 hp
  have e204 : PT 204 = P_woI := pe204_16 hp
  simp only [hF0, hF20, hF21, hFp_150, hFp_188, hFp_197, hFp_204, e150, e188, e197, e204, P_ar2, P_bu2, P_saX, P_woI, den_s, den_c, Int.add_zero, List.map_cons, List.map_nil, g2.eq, g3.eq, g4.eq, g5.eq, g6.eq, g7.eq, g9.eq, g11.eq, g12.eq, g14.eq, g15.eq, g16.eq, g17.eq, g19.eq, h7, h8, h10, h11, h12, h13, h15, h16, h19, h20, h21, h23, h24, h25, h26, h27, h32, h33, h34, h58, h62] at f0 f1 f2 f4 f5 f6 f8 ⊢
  subst f2
  subst f5
  exact bu_up f4)
def w_fvO_1_4 : VC := ((bX ++ [(0, 7), (0, 2), ((-2147483648), 2147483647), (0, 2), (0, 49), (0, 0), (0, 49)]), [(0, [(some 19, 0), (none, 0)], []), (197, [(some 19, 0), (some 7, 0), (some 2, 0), (some 3, 0), (some 4, 0), (some 5, 0), (some 6, 0), (some 11, 0), (some 12, 0)], [62, 8, 10, 11, 12, 13, 15, 16, 19, 20, 21, 23, 24, 25, 32, 33, 34]), (21, [(some 14, 0), (some 17, 0)], [62, 58]), (2, [(some 17, 0), (none, 3)], []), (188, [(some 14, 0)], [58, 7]), (20, [(some 15, 0), (some 14, 0)], [7]), (204, [(some 17, 0), (some 16, 0), (some 14, 0), (some 7, 0), (some 2, 0), (some 3, 0), (some 4, 0), (some 5, 0), (some 6, 0), (some 11, 0), (some 12, 0)], [7, 8, 10, 11, 12, 13, 15, 16, 19, 20, 21, 23, 24, 25, 32, 33, 34]), (3, [(none, 3), (some 17, 0)], []), (150, [(some 9, 0), (some 2, 0), (some 3, 0), (some 4, 0), (some 5, 0), (some 6, 0)], [26, 27, 7, 8, 10, 11, 12, 13, 15, 16, 19, 20, 21, 23, 24, 25])], (204, [(some 17, 1), (some 16, 0), (some 14, 0), (some 7, 0), (some 2, 0), (some 3, 0), (some 4, 0), (some 5, 0), (some 6, 0), (some 11, 0), (some 12, 0)], [7, 8, 10, 11, 12, 13, 15, 16, 19, 20, 21, 23, 24, 25, 32, 33, 34]))
set_option maxRecDepth 20000 in
theorem v_fvO_1_4 {PT : PTy} (hp : HP16 PT) : vcOk PT w_fvO_1_4 := vc_iv [(2, 0, 8), (3, 0, 11), (4, 0, 9), (5, 0, 6), (6, 0, 6), (7, 0, 8), (9, 0, 49), (11, (-2147483648), 2147483647), (12, (-2147483648), 2147483647), (14, 0, 7), (15, 0, 2), (16, (-2147483648), 2147483647), (17, 0, 2), (19, 0, 0)] [7, 8, 10, 11, 12, 13, 15, 16, 19, 20, 21, 23, 24, 25, 26, 27, 32, 33, 34, 58, 62] (by decide +kernel) (fun ρ α => by
  intro r2 g2 b2 r3 g3 b3 r4 g4 b4 r5 g5 b5 r6 g6 b6 r7 g7 b7 r9 g9 b9 r11 g11 b11 r12 g12 b12 r14 g14 b14 r15 g15 b15 r16 g16 b16 r17 g17 b17 r19 g19 b19 a7 h7 a8 h8 a10 h10 a11 h11 a12 h12 a13 h13 a15 h15 a16 h16 a19 h19 a20 h20 a21 h21 a23 h23 a24 h24 a25 h25 a26 h26 a27 h27 a32 h32 a33 h33 a34 h34 a58 h58 a62 h62 f0 f1 f2 f3 f4 f5 f6 f7 f8 tt
  clear f3 f7
  have e150 : PT 150 = P_ar2 := pe150_16 hp
  have e188 : PT 188 = P_bu2 := pe188_16 hp
  have e197 : PT 197 = P_saX := pe197_16 hp
  have e204 : PT 204 = P_woI := pe204_16 hp
  simp only [hF0, hF20, hF21, hFp_150, hFp_188, hFp_197, hFp_204, e150, e188, e197, e204, P_ar2, P_bu2, P_saX, P_woI, den_s, den_c, Int.add_zero, List.map_cons, List.map_nil, g2.eq, g3.eq, g4.eq, g5.eq, g6.eq, g7.eq, g9.eq, g11.eq, g12.eq, g14.eq, g15.eq, g16.eq, g17.eq, g19.eq, h7, h8, h10, h11, h12, h13, h15, h16, h19, h20, h21, h23, h24, h25, h26, h27, h32, h33, h34, h58, h62] at f0 f1 f2 f4 f5 f6 f8 ⊢
  subst f2
  subst f5
  have hs := f1
  have hb := f4
  first
    | exact obB_s f6 (by omega) ⟨_, fun q hq => by rw [updI_ne hq]; exact hb q hq, updI_at _ _ _, hs⟩ (by rw [if_pos (by omega)])
    | exact obB_s f6 (by omega) ⟨_, fun q hq => by rw [updI_ne hq]; exact hb q hq, updI_at _ _ _, hs⟩ (by rw [if_neg (by omega)]))
def w_fvO_1_5 : VC := ((bX ++ [(0, 7), (0, 2), ((-2147483648), 2147483647), (0, 2), (0, 49), (0, 0), (0, 49)]), [(0, [(some 19, 0), (none, 0)], []), (197, [(some 19, 0), (some 7, 0), (some 2, 0), (some 3, 0), (some 4, 0), (some 5, 0), (some 6, 0), (some 11, 0), (some 12, 0)], [62, 8, 10, 11, 12, 13, 15, 16, 19, 20, 21, 23, 24, 25, 32, 33, 34]), (21, [(some 14, 0), (some 17, 0)], [62, 58]), (2, [(some 17, 0), (none, 3)], []), (188, [(some 14, 0)], [58, 7]), (20, [(some 15, 0), (some 14, 0)], [7]), (204, [(some 17, 0), (some 16, 0), (some 14, 0), (some 7, 0), (some 2, 0), (some 3, 0), (some 4, 0), (some 5, 0), (some 6, 0), (some 11, 0), (some 12, 0)], [7, 8, 10, 11, 12, 13, 15, 16, 19, 20, 21, 23, 24, 25, 32, 33, 34]), (3, [(none, 3), (some 17, 0)], []), (150, [(some 9, 0), (some 2, 0), (some 3, 0), (some 4, 0), (some 5, 0), (some 6, 0)], [26, 27, 7, 8, 10, 11, 12, 13, 15, 16, 19, 20, 21, 23, 24, 25])], (3, [(none, 3), (some 17, 1)], []))
set_option maxRecDepth 20000 in
theorem v_fvO_1_5 {PT : PTy} (hp : HP16 PT) : vcOk PT w_fvO_1_5 := vc_iv [(2, 0, 8), (3, 0, 11), (4, 0, 9), (5, 0, 6), (6, 0, 6), (7, 0, 8), (9, 0, 49), (11, (-2147483648), 2147483647), (12, (-2147483648), 2147483647), (14, 0, 7), (15, 0, 2), (16, (-2147483648), 2147483647), (17, 0, 2), (19, 0, 0)] [7, 8, 10, 11, 12, 13, 15, 16, 19, 20, 21, 23, 24, 25, 26, 27, 32, 33, 34, 58, 62] (by decide +kernel) (fun ρ α => by
  intro r2 g2 b2 r3 g3 b3 r4 g4 b4 r5 g5 b5 r6 g6 b6 r7 g7 b7 r9 g9 b9 r11 g11 b11 r12 g12 b12 r14 g14 b14 r15 g15 b15 r16 g16 b16 r17 g17 b17 r19 g19 b19 a7 h7 a8 h8 a10 h10 a11 h11 a12 h12 a13 h13 a15 h15 a16 h16 a19 h19 a20 h20 a21 h21 a23 h23 a24 h24 a25 h25 a26 h26 a27 h27 a32 h32 a33 h33 a34 h34 a58 h58 a62 h62 f0 f1 f2 f3 f4 f5 f6 f7 f8 tt
  clear f3 f7
  have e150 : PT 150 = P_ar2 := pe150_16 hp
  have e188 : PT 188 = P_bu2 := pe188_16 hp
  have e197 : PT 197 = P_saX := pe197_16 hp
  have e204 : PT 204 = P_woI := pe204_16 hp
  simp only [hF0, hF3, hF20, hF21, hFp_150, hFp_188, hFp_197, hFp_204, e150, e188, e197, e204, P_ar2, P_bu2, P_saX, P_woI, den_s, den_c, Int.add_zero, List.map_cons, List.map_nil, g2.eq, g3.eq, g4.eq, g5.eq, g6.eq, g7.eq, g9.eq, g11.eq, g12.eq, g14.eq, g15.eq, g16.eq, g17.eq, g19.eq, h7, h8, h10, h11, h12, h13, h15, h16, h19, h20, h21, h23, h24, h25, h26, h27, h32, h33, h34, h58, h62] at f0 f1 f2 f4 f5 f6 f8 ⊢
  subst f2
  subst f5
  omega)
def w_fvO_1_6 : VC := ((bX ++ [(0, 7), (0, 2), ((-2147483648), 2147483647), (0, 2), (0, 49), (1, 1), (0, 49), (1, 4), ((-2147483648), 2147483647)]), [(11, [(some 22, 0), (some 16, 0), (some 21, 0)], []), (13, [(some 21, 0), (none, 1), (some 17, 0)], []), (1, [(some 19, 0), (none, 0)], []), (197, [(some 19, 0), (some 7, 0), (some 2, 0), (some 3, 0), (some 4, 0), (some 5, 0), (some 6, 0), (some 11, 0), (some 12, 0)], [62, 8, 10, 11, 12, 13, 15, 16, 19, 20, 21, 23, 24, 25, 32, 33, 34]), (21, [(some 14, 0), (some 17, 0)], [62, 58]), (2, [(some 17, 0), (none, 3)], []), (188, [(some 14, 0)], [58, 7]), (20, [(some 15, 0), (some 14, 0)], [7]), (204, [(some 17, 0), (some 16, 0), (some 14, 0), (some 7, 0), (some 2, 0), (some 3, 0), (some 4, 0), (some 5, 0), (some 6, 0), (some 11, 0), (some 12, 0)], [7, 8, 10, 11, 12, 13, 15, 16, 19, 20, 21, 23, 24, 25, 32, 33, 34]), (3, [(none, 3), (some 17, 0)], []), (150, [(some 9, 0), (some 2, 0), (some 3, 0), (some 4, 0), (some 5, 0), (some 6, 0)], [26, 27, 7, 8, 10, 11, 12, 13, 15, 16, 19, 20, 21, 23, 24, 25])], (188, [(some 14, 0)], [62, 7]))
set_option maxRecDepth 20000 in
theorem v_fvO_1_6 {PT : PTy} (hp : HP16 PT) : vcOk PT w_fvO_1_6 := vc_iv [(2, 0, 8), (3, 0, 11), (4, 0, 9), (5, 0, 6), (6, 0, 6), (7, 0, 8), (9, 0, 49), (11, (-2147483648), 2147483647), (12, (-2147483648), 2147483647), (14, 0, 7), (15, 0, 2), (16, (-2147483648), 2147483647), (17, 0, 2), (19, 1, 1), (21, 1, 4), (22, (-2147483648), 2147483647)] [7, 8, 10, 11, 12, 13, 15, 16, 19, 20, 21, 23, 24, 25, 26, 27, 32, 33, 34, 58, 62] (by decide +kernel) (fun ρ α => by
  intro r2 g2 b2 r3 g3 b3 r4 g4 b4 r5 g5 b5 r6 g6 b6 r7 g7 b7 r9 g9 b9 r11 g11 b11 r12 g12 b12 r14 g14 b14 r15 g15 b15 r16 g16 b16 r17 g17 b17 r19 g19 b19 r21 g21 b21 r22 g22 b22 a7 h7 a8 h8 a10 h10 a11 h11 a12 h12 a13 h13 a15 h15 a16 h16 a19 h19 a20 h20 a21 h21 a23 h23 a24 h24 a25 h25 a26 h26 a27 h27 a32 h32 a33 h33 a34 h34 a58 h58 a62 h62 f0 f1 f2 f3 f4 f5 f6 f7 f8 f9 f10 tt
  clear f2 f5 f9
  have e150 : PT 150 = P_ar2 := pe150_16 hp
  have e188 : PT 188 = P_bu2 := pe188_16 hp
  have e197 : PT 197 = P_saX := pe197_16 hp
  have e204 : PT 204 = P_woI := pe204_16 hp
  simp only [hF11, hF13, hF20, hF21, hFp_150, hFp_188, hFp_197, hFp_204, e150, e188, e197, e204, P_ar2, P_bu2, P_saX, P_woI, den_s, den_c, Int.add_zero, List.map_cons, List.map_nil, g2.eq, g3.eq, g4.eq, g5.eq, g6.eq, g7.eq, g9.eq, g11.eq, g12.eq, g14.eq, g15.eq, g16.eq, g17.eq, g19.eq, g21.eq, g22.eq, h7, h8, h10, h11, h12, h13, h15, h16, h19, h20, h21, h23, h24, h25, h26, h27, h32, h33, h34, h58, h62] at f0 f1 f3 f4 f6 f7 f8 f10 ⊢
  subst f0
  subst f1
  subst f4
  subst f7
  exact bu_up f6)
def w_fvO_1_7 : VC := ((bX ++ [(0, 7), (0, 2), ((-2147483648), 2147483647), (0, 2), (0, 49), (1, 1), (0, 49), (1, 4), ((-2147483648), 2147483647)]), [(11, [(some 22, 0), (some 16, 0), (some 21, 0)], []), (13, [(some 21, 0), (none, 1), (some 17, 0)], []), (1, [(some 19, 0), (none, 0)], []), (197, [(some 19, 0), (some 7, 0), (some 2, 0), (some 3, 0), (some 4, 0), (some 5, 0), (some 6, 0), (some 11, 0), (some 12, 0)], [62, 8, 10, 11, 12, 13, 15, 16, 19, 20, 21, 23, 24, 25, 32, 33, 34]), (21, [(some 14, 0), (some 17, 0)], [62, 58]), (2, [(some 17, 0), (none, 3)], []), (188, [(some 14, 0)], [58, 7]), (20, [(some 15, 0), (some 14, 0)], [7]), (204, [(some 17, 0), (some 16, 0), (some 14, 0), (some 7, 0), (some 2, 0), (some 3, 0), (some 4, 0), (some 5, 0), (some 6, 0), (some 11, 0), (some 12, 0)], [7, 8, 10, 11, 12, 13, 15, 16, 19, 20, 21, 23, 24, 25, 32, 33, 34]), (3, [(none, 3), (some 17, 0)], []), (150, [(some 9, 0), (some 2, 0), (some 3, 0), (some 4, 0), (some 5, 0), (some 6, 0)], [26, 27, 7, 8, 10, 11, 12, 13, 15, 16, 19, 20, 21, 23, 24, 25])], (204, [(some 17, 1), (some 22, 0), (some 14, 0), (some 7, 0), (some 2, 0), (some 3, 0), (some 4, 0), (some 5, 0), (some 6, 0), (some 11, 0), (some 12, 0)], [7, 8, 10, 11, 12, 13, 15, 16, 19, 20, 21, 23, 24, 25, 32, 33, 34]))
set_option maxRecDepth 20000 in
theorem v_fvO_1_7 {PT : PTy} (hp : HP16 PT) : vcOk PT w_fvO_1_7 := vc_iv [(2, 0, 8), (3, 0, 11), (4, 0, 9), (5, 0, 6), (6, 0, 6), (7, 0, 8), (9, 0, 49), (11, (-2147483648), 2147483647), (12, (-2147483648), 2147483647), (14, 0, 7), (15, 0, 2), (16, (-2147483648), 2147483647), (17, 0, 2), (19, 1, 1), (21, 1, 4), (22, (-2147483648), 2147483647)] [7, 8, 10, 11, 12, 13, 15, 16, 19, 20, 21, 23, 24, 25, 26, 27, 32, 33, 34, 58, 62] (by decide +kernel) (fun ρ α => by
  intro r2 g2 b2 r3 g3 b3 r4 g4 b4 r5 g5 b5 r6 g6 b6 r7 g7 b7 r9 g9 b9 r11 g11 b11 r12 g12 b12 r14 g14 b14 r15 g15 b15 r16 g16 b16 r17 g17 b17 r19 g19 b19 r21 g21 b21 r22 g22 b22 a7 h7 a8 h8 a10 h10 a11 h11 a12 h12 a13 h13 a15 h15 a16 h16 a19 h19 a20 h20 a21 h21 a23 h23 a24 h24 a25 h25 a26 h26 a27 h27 a32 h32 a33 h33 a34 h34 a58 h58 a62 h62 f0 f1 f2 f3 f4 f5 f6 f7 f8 f9 f10 tt
  clear f2 f5 f9
  have e150 : PT 150 = P_ar2 := pe150_16 hp
  have e188 : PT 188 = P_bu2 := pe188_16 hp
  have e197 : PT 197 = P_saX := pe197_16 hp
  have e204 : PT 204 = P_woI := pe204_16 hp
  simp only [hF11, hF13, hF20, hF21, hFp_150, hFp_188, hFp_197, hFp_204, e150, e188, e197, e204, P_ar2, P_bu2, P_saX, P_woI, den_s, den_c, Int.add_zero, List.map_cons, List.map_nil, g2.eq, g3.eq, g4.eq, g5.eq, g6.eq, g7.eq, g9.eq, g11.eq, g12.eq, g14.eq, g15.eq, g16.eq, g17.eq, g19.eq, g21.eq, g22.eq, h7, h8, h10, h11, h12, h13, h15, h16, h19, h20, h21, h23, h24, h25, h26, h27, h32, h33, h34, h58, h62] at f0 f1 f3 f4 f6 f7 f8 f10 ⊢
  subst f0
  subst f1
  subst f4
  subst f7
  have hs := f3
  have hb := f6
  first
    | exact obB_s f8 (by omega) ⟨_, fun q hq => by rw [updI_ne hq]; exact hb q hq, updI_at _ _ _, hs⟩ (by rw [if_pos (by omega)])
    | exact obB_s f8 (by omega) ⟨_, fun q hq => by rw [updI_ne hq]; exact hb q hq, updI_at _ _ _, hs⟩ (by rw [if_neg (by omega)]))
def w_fvO_1_8 : VC := ((bX ++ [(0, 7), (0, 2), ((-2147483648), 2147483647), (0, 2), (0, 49), (1, 1), (0, 49), (1, 4), ((-2147483648), 2147483647)]), [(11, [(some 22, 0), (some 16, 0), (some 21, 0)], []), (13, [(some 21, 0), (none, 1), (some 17, 0)], []), (1, [(some 19, 0), (none, 0)], []), (197, [(some 19, 0), (some 7, 0), (some 2, 0), (some 3, 0), (some 4, 0), (some 5, 0), (some 6, 0), (some 11, 0), (some 12, 0)], [62, 8, 10, 11, 12, 13, 15, 16, 19, 20, 21, 23, 24, 25, 32, 33, 34]), (21, [(some 14, 0), (some 17, 0)], [62, 58]), (2, [(some 17, 0), (none, 3)], []), (188, [(some 14, 0)], [58, 7]), (20, [(some 15, 0), (some 14, 0)], [7]), (204, [(some 17, 0), (some 16, 0), (some 14, 0), (some 7, 0), (some 2, 0), (some 3, 0), (some 4, 0), (some 5, 0), (some 6, 0), (some 11, 0), (some 12, 0)], [7, 8, 10, 11, 12, 13, 15, 16, 19, 20, 21, 23, 24, 25, 32, 33, 34]), (3, [(none, 3), (some 17, 0)], []), (150, [(some 9, 0), (some 2, 0), (some 3, 0), (some 4, 0), (some 5, 0), (some 6, 0)], [26, 27, 7, 8, 10, 11, 12, 13, 15, 16, 19, 20, 21, 23, 24, 25])], (3, [(none, 3), (some 17, 1)], []))
set_option maxRecDepth 20000 in
theorem v_fvO_1_8 {PT : PTy} (hp : HP16 PT) : vcOk PT w_fvO_1_8 := vc_iv [(2, 0, 8), (3, 0, 11), (4, 0, 9), (5, 0, 6), (6, 0, 6), (7, 0, 8), (9, 0, 49), (11, (-2147483648), 2147483647), (12, (-2147483648), 2147483647), (14, 0, 7), (15, 0, 2), (16, (-2147483648), 2147483647), (17, 0, 2), (19, 1, 1), (21, 1, 4), (22, (-2147483648), 2147483647)] [7, 8, 10, 11, 12, 13, 15, 16, 19, 20, 21, 23, 24, 25, 26, 27, 32, 33, 34, 58, 62] (by decide +kernel) (fun ρ α => by
  intro r2 g2 b2 r3 g3 b3 r4 g4 b4 r5 g5 b5 r6 g6 b6 r7 g7 b7 r9 g9 b9 r11 g11 b11 r12 g12 b12 r14 g14 b14 r15 g15 b15 r16 g16 b16 r17 g17 b17 r19 g19 b19 r21 g21 b21 r22 g22 b22 a7 h7 a8 h8 a10 h10 a11 h11 a12 h12 a13 h13 a15 h15 a16 h16 a19 h19 a20 h20 a21 h21 a23 h23 a24 h24 a25 h25 a26 h26 a27 h27 a32 h32 a33 h33 a34 h34 a58 h58 a62 h62 f0 f1 f2 f3 f4 f5 f6 f7 f8 f9 f10 tt
  clear f2 f5 f9
  have e150 : PT 150 = P_ar2 := pe150_16 hp
  have e188 : PT 188 = P_bu2 := pe188_16 hp
  have e197 : PT 197 = P_saX := pe197_16 hp
  have e204 : PT 204 = P_woI := pe204_16 hp
  simp only [hF3, hF11, hF13, hF20, hF21, hFp_150, hFp_188, hFp_197, hFp_204, e150, e188, e197, e204, P_ar2, P_bu2, P_saX, P_woI, den_s, den_c, Int.add_zero, List.map_cons, List.map_nil, g2.eq, g3.eq, g4.eq, g5.eq, g6.eq, g7.eq, g9.eq, g11.eq, g12.eq, g14.eq, g15.eq, g16.eq, g17.eq, g19.eq, g21.eq, g22.eq, h7, h8, h10, h11, h12, h13, h15, h16, h19, h20, h21, h23, h24, h25, h26, h27, h32, h33, h34, h58, h62] at f0 f1 f3 f4 f6 f7 f8 f10 ⊢
  subst f0
  subst f1
  subst f4
  subst f7
  omega)
set_option maxRecDepth 1000000 in
theorem k_fvO {PT : PTy} (hp : HP16 PT) : wfX c_fvO = true ∧ xcOk PT c_fvO := xctr (xl (k_showsAll hp.1) (xl0)) c_fvO 42 mX6_fittingValues rfl h_fvO (by decide +kernel) (by decide +kernel) (by decide) (vcs_by [w_fvO_0_0, w_fvO_0_1, w_fvO_0_2] (by decide +kernel) (vc (v_fvO_0_0 hp) (vc (v_fvO_0_1 hp) (vc (v_fvO_0_2 hp) vn)))) (fmc (vcs_by [w_fvO_1_0, w_fvO_1_1, w_fvO_1_2, w_fvO_1_3, w_fvO_1_4, w_fvO_1_5, w_fvO_1_6, w_fvO_1_7, w_fvO_1_8] (by decide +kernel) (vc (v_fvO_1_0 hp) (vc (v_fvO_1_1 hp) (vc (v_fvO_1_2 hp) (vc (v_fvO_1_3 hp) (vc (v_fvO_1_4 hp) (vc (v_fvO_1_5 hp) (vc (v_fvO_1_6 hp) (vc (v_fvO_1_7 hp) (vc (v_fvO_1_8 hp) vn)))))))))) fmn)
def c_xo_was : XC := (68, 5, (bT ++ [((-2147483648), 2147483647), ((-2147483648), 2147483647)]), [.inr (.inl 0), .inl (some 14, 0), .inl (some 15, 0)], (gX 999), [], [((bT ++ [((-2147483648), 2147483647), ((-2147483648), 2147483647), ((-2147483648), 2147483647), (0, 49), (0, 49), ((-2147483648), 2147483647), ((-2147483648), 2147483647)]), some (.inl (some 16, 0)), (hst (gX 999) [(5, .inr (.inr (.inr (0, [.inr (.inl 6), .inr (.inl 9), .inr (.inl 14), .inr (.inl 18), .inr (.inl 22), .inr (.inl 26), .inr (.inl 27), .inr (.inl 28), .inr (.inl 29), .inr (.inl 30), .inl (some 17, 0), .inl (some 18, 0), .inl (some 19, 0), .inl (some 20, 0), .inr (.inl 999)]))))]), (ansT 58 [(7, 58), (8, 59), (26, 60), (27, 61), (28, 62), (29, 63), (30, 64)]), 65, [(205, [(some 16, 0), (some 14, 0), (some 15, 0), (some 7, 0), (some 2, 0), (some 3, 0), (some 4, 0), (some 5, 0), (some 6, 0), (none, 0), (none, 0)], [7, 8, 10, 11, 12, 13, 15, 16, 19, 20, 21, 23, 24, 25, 32, 33, 34]), (27, [], [58, 7]), (27, [], [59, 8])])])
def h_xo_was : List XH := []
def w_xo_was_0_0 : VC := ((bT ++ [((-2147483648), (-1)), ((-2147483648), 2147483647)]), [(0, [(none, 0), (none, 0)], []), (2, [(some 14, 0), (none, 0)], [])], (205, [(none, (-2)), (some 14, 0), (some 15, 0), (some 7, 0), (some 2, 0), (some 3, 0), (some 4, 0), (some 5, 0), (some 6, 0), (none, 0), (none, 0)], [7, 8, 10, 11, 12, 13, 15, 16, 19, 20, 21, 23, 24, 25, 32, 33, 34]))
theorem pe205_16 {PT : PTy} (hp : HP16 PT) : PT 205 = P_owaX := hp.2.2.2.1
set_option maxRecDepth 20000 in
theorem v_xo_was_0_0 {PT : PTy} (hp : HP16 PT) : vcOk PT w_xo_was_0_0 := vc_iv [(2, 0, 8), (3, 0, 10), (4, 0, 8), (5, 0, 6), (6, 0, 6), (7, 0, 8), (14, (-2147483648), (-1)), (15, (-2147483648), 2147483647)] [7, 8, 10, 11, 12, 13, 15, 16, 19, 20, 21, 23, 24, 25, 32, 33, 34] (by decide +kernel) (fun ρ α => by
  intro r2 g2 b2 r3 g3 b3 r4 g4 b4 r5 g5 b5 r6 g6 b6 r7 g7 b7 r14 g14 b14 r15 g15 b15 a7 h7 a8 h8 a10 h10 a11 h11 a12 h12 a13 h13 a15 h15 a16 h16 a19 h19 a20 h20 a21 h21 a23 h23 a24 h24 a25 h25 a32 h32 a33 h33 a34 h34 f0 f1 tt
  clear f0 f1
  have e205 : PT 205 = P_owaX := pe205_16 hp
  simp only [hFp_205, e205, P_owaX, den_s, den_c, Int.add_zero, List.map_cons, List.map_nil, g2.eq, g3.eq, g4.eq, g5.eq, g6.eq, g7.eq, g14.eq, g15.eq, h7, h8, h10, h11, h12, h13, h15, h16, h19, h20, h21, h23, h24, h25, h32, h33, h34] at ⊢
  ((repeat' (first | apply And.intro | intro h)) <;> first | omega | rfl | trivial | (exfalso; omega) | exact MISSING | exact MISSING))
def w_xo_was_0_1 : VC := ((bT ++ [((-2147483648), (-1)), ((-2147483648), 2147483647)]), [(0, [(none, 0), (none, 0)], []), (2, [(some 14, 0), (none, 0)], [])], (27, [], [7, 7]))
theorem v_xo_was_0_1 {PT : PTy} (_ : HP16 PT) : vcOk PT w_xo_was_0_1 := vc_of (fun ρ α _ _ => rfl)
def w_xo_was_0_2 : VC := ((bT ++ [((-2147483648), (-1)), ((-2147483648), 2147483647)]), [(0, [(none, 0), (none, 0)], []), (2, [(some 14, 0), (none, 0)], [])], (27, [], [8, 8]))
theorem v_xo_was_0_2 {PT : PTy} (_ : HP16 PT) : vcOk PT w_xo_was_0_2 := vc_of (fun ρ α _ _ => rfl)
def w_xo_was_0_3 : VC := ((bT ++ [(0, 2147483647), ((-2147483648), 2147483647)]), [(0, [(none, 0), (none, 0)], []), (3, [(some 14, 0), (some 2, 0)], []), (3, [(some 14, 0), (none, 0)], [])], (205, [(none, (-2)), (some 14, 0), (some 15, 0), (some 7, 0), (some 2, 0), (some 3, 0), (some 4, 0), (some 5, 0), (some 6, 0), (none, 0), (none, 0)], [7, 8, 10, 11, 12, 13, 15, 16, 19, 20, 21, 23, 24, 25, 32, 33, 34]))
set_option maxRecDepth 20000 in
theorem v_xo_was_0_3 {PT : PTy} (hp : HP16 PT) : vcOk PT w_xo_was_0_3 := vc_iv [(2, 0, 8), (3, 0, 10), (4, 0, 8), (5, 0, 6), (6, 0, 6), (7, 0, 8), (14, 0, 2147483647), (15, (-2147483648), 2147483647)] [7, 8, 10, 11, 12, 13, 15, 16, 19, 20, 21, 23, 24, 25, 32, 33, 34] (by decide +kernel) (fun ρ α => by
  intro r2 g2 b2 r3 g3 b3 r4 g4 b4 r5 g5 b5 r6 g6 b6 r7 g7 b7 r14 g14 b14 r15 g15 b15 a7 h7 a8 h8 a10 h10 a11 h11 a12 h12 a13 h13 a15 h15 a16 h16 a19 h19 a20 h20 a21 h21 a23 h23 a24 h24 a25 h25 a32 h32 a33 h33 a34 h34 f0 f1 f2 tt
  clear f0 f2
  have e205 : PT 205 = P_owaX := pe205_16 hp
  simp only [hF3, hFp_205, e205, P_owaX, den_s, den_c, Int.add_zero, List.map_cons, List.map_nil, g2.eq, g3.eq, g4.eq, g5.eq, g6.eq, g7.eq, g14.eq, g15.eq, h7, h8, h10, h11, h12, h13, h15, h16, h19, h20, h21, h23, h24, h25, h32, h33, h34] at f1 ⊢
  ((repeat' (first | apply And.intro | intro h)) <;> first | omega | rfl | trivial | (exfalso; omega) | exact MISSING | exact MISSING))
def w_xo_was_0_4 : VC := ((bT ++ [(0, 2147483647), ((-2147483648), 2147483647)]), [(0, [(none, 0), (none, 0)], []), (3, [(some 14, 0), (some 2, 0)], []), (3, [(some 14, 0), (none, 0)], [])], (27, [], [7, 7]))
theorem v_xo_was_0_4 {PT : PTy} (_ : HP16 PT) : vcOk PT w_xo_was_0_4 := vc_of (fun ρ α _ _ => rfl)
def w_xo_was_0_5 : VC := ((bT ++ [(0, 2147483647), ((-2147483648), 2147483647)]), [(0, [(none, 0), (none, 0)], []), (3, [(some 14, 0), (some 2, 0)], []), (3, [(some 14, 0), (none, 0)], [])], (27, [], [8, 8]))
theorem v_xo_was_0_5 {PT : PTy} (_ : HP16 PT) : vcOk PT w_xo_was_0_5 := vc_of (fun ρ α _ _ => rfl)
def w_xo_was_0_6 : VC := (([(0, 23), (0, 49), (1, 8), (0, 10), (0, 8), (0, 6), (0, 6), (0, 8), (0, 9), (0, 49), (0, 49), ((-2147483648), 2147483647), ((-2147483648), 2147483647), (0, 5), (0, 7), ((-2147483648), (-1))]), [(0, [(none, 0), (none, 0)], []), (2, [(some 15, 0), (none, 0)], []), (1, [(none, 1), (none, 0)], []), (2, [(some 14, 0), (some 2, 0)], []), (3, [(some 14, 0), (none, 0)], [])], (205, [(none, (-2)), (some 14, 0), (some 15, 0), (some 7, 0), (some 2, 0), (some 3, 0), (some 4, 0), (some 5, 0), (some 6, 0), (none, 0), (none, 0)], [7, 8, 10, 11, 12, 13, 15, 16, 19, 20, 21, 23, 24, 25, 32, 33, 34]))
set_option maxRecDepth 20000 in
theorem v_xo_was_0_6 {PT : PTy} (hp : HP16 PT) : vcOk PT w_xo_was_0_6 := vc_iv [(2, 1, 8), (3, 0, 10), (4, 0, 8), (5, 0, 6), (6, 0, 6), (7, 0, 8), (14, 0, 7), (15, (-2147483648), (-1))] [7, 8, 10, 11, 12, 13, 15, 16, 19, 20, 21, 23, 24, 25, 32, 33, 34] (by decide +kernel) (fun ρ α => by
  intro r2 g2 b2 r3 g3 b3 r4 g4 b4 r5 g5 b5 r6 g6 b6 r7 g7 b7 r14 g14 b14 r15 g15 b15 a7 h7 a8 h8 a10 h10 a11 h11 a12 h12 a13 h13 a15 h15 a16 h16 a19 h19 a20 h20 a21 h21 a23 h23 a24 h24 a25 h25 a32 h32 a33 h33 a34 h34 f0 f1 f2 f3 f4 tt
  clear f0 f1 f2 f4
  have e205 : PT 205 = P_owaX := pe205_16 hp
  simp only [hF2, hFp_205, e205, P_owaX, den_s, den_c, Int.add_zero, List.map_cons, List.map_nil, g2.eq, g3.eq, g4.eq, g5.eq, g6.eq, g7.eq, g14.eq, g15.eq, h7, h8, h10, h11, h12, h13, h15, h16, h19, h20, h21, h23, h24, h25, h32, h33, h34] at f3 ⊢
  ((repeat' (first | apply And.intro | intro h)) <;> first | omega | rfl | trivial | (exfalso; omega) | exact MISSING | exact MISSING))
def w_xo_was_0_7 : VC := (([(0, 23), (0, 49), (1, 8), (0, 10), (0, 8), (0, 6), (0, 6), (0, 8), (0, 9), (0, 49), (0, 49), ((-2147483648), 2147483647), ((-2147483648), 2147483647), (0, 5), (0, 7), ((-2147483648), (-1))]), [(0, [(none, 0), (none, 0)], []), (2, [(some 15, 0), (none, 0)], []), (1, [(none, 1), (none, 0)], []), (2, [(some 14, 0), (some 2, 0)], []), (3, [(some 14, 0), (none, 0)], [])], (27, [], [7, 7]))
theorem v_xo_was_0_7 {PT : PTy} (_ : HP16 PT) : vcOk PT w_xo_was_0_7 := vc_of (fun ρ α _ _ => rfl)
def w_xo_was_0_8 : VC := (([(0, 23), (0, 49), (1, 8), (0, 10), (0, 8), (0, 6), (0, 6), (0, 8), (0, 9), (0, 49), (0, 49), ((-2147483648), 2147483647), ((-2147483648), 2147483647), (0, 5), (0, 7), ((-2147483648), (-1))]), [(0, [(none, 0), (none, 0)], []), (2, [(some 15, 0), (none, 0)], []), (1, [(none, 1), (none, 0)], []), (2, [(some 14, 0), (some 2, 0)], []), (3, [(some 14, 0), (none, 0)], [])], (27, [], [8, 8]))
theorem v_xo_was_0_8 {PT : PTy} (_ : HP16 PT) : vcOk PT w_xo_was_0_8 := vc_of (fun ρ α _ _ => rfl)
def w_xo_was_0_9 : VC := (([(0, 23), (0, 49), (1, 8), (0, 10), (0, 8), (0, 6), (0, 6), (0, 8), (0, 9), (0, 49), (0, 49), ((-2147483648), 2147483647), ((-2147483648), 2147483647), (0, 5), (0, 7), (2, 2147483647)]), [(0, [(none, 0), (none, 0)], []), (2, [(none, 1), (some 15, 0)], []), (3, [(some 15, 0), (none, 0)], []), (1, [(none, 1), (none, 0)], []), (2, [(some 14, 0), (some 2, 0)], []), (3, [(some 14, 0), (none, 0)], [])], (205, [(none, (-2)), (some 14, 0), (some 15, 0), (some 7, 0), (some 2, 0), (some 3, 0), (some 4, 0), (some 5, 0), (some 6, 0), (none, 0), (none, 0)], [7, 8, 10, 11, 12, 13, 15, 16, 19, 20, 21, 23, 24, 25, 32, 33, 34]))
set_option maxRecDepth 20000 in
theorem v_xo_was_0_9 {PT : PTy} (hp : HP16 PT) : vcOk PT w_xo_was_0_9 := vc_iv [(2, 1, 8), (3, 0, 10), (4, 0, 8), (5, 0, 6), (6, 0, 6), (7, 0, 8), (14, 0, 7), (15, 2, 2147483647)] [7, 8, 10, 11, 12, 13, 15, 16, 19, 20, 21, 23, 24, 25, 32, 33, 34] (by decide +kernel) (fun ρ α => by
  intro r2 g2 b2 r3 g3 b3 r4 g4 b4 r5 g5 b5 r6 g6 b6 r7 g7 b7 r14 g14 b14 r15 g15 b15 a7 h7 a8 h8 a10 h10 a11 h11 a12 h12 a13 h13 a15 h15 a16 h16 a19 h19 a20 h20 a21 h21 a23 h23 a24 h24 a25 h25 a32 h32 a33 h33 a34 h34 f0 f1 f2 f3 f4 f5 tt
  clear f0 f1 f2 f3 f5
  have e205 : PT 205 = P_owaX := pe205_16 hp
  simp only [hF2, hFp_205, e205, P_owaX, den_s, den_c, Int.add_zero, List.map_cons, List.map_nil, g2.eq, g3.eq, g4.eq, g5.eq, g6.eq, g7.eq, g14.eq, g15.eq, h7, h8, h10, h11, h12, h13, h15, h16, h19, h20, h21, h23, h24, h25, h32, h33, h34] at f4 ⊢
  ((repeat' (first | apply And.intro | intro h)) <;> first | omega | rfl | trivial | (exfalso; omega) | exact MISSING | exact MISSING))
def w_xo_was_0_10 : VC := (([(0, 23), (0, 49), (1, 8), (0, 10), (0, 8), (0, 6), (0, 6), (0, 8), (0, 9), (0, 49), (0, 49), ((-2147483648), 2147483647), ((-2147483648), 2147483647), (0, 5), (0, 7), (2, 2147483647)]), [(0, [(none, 0), (none, 0)], []), (2, [(none, 1), (some 15, 0)], []), (3, [(some 15, 0), (none, 0)], []), (1, [(none, 1), (none, 0)], []), (2, [(some 14, 0), (some 2, 0)], []), (3, [(some 14, 0), (none, 0)], [])], (27, [], [7, 7]))
theorem v_xo_was_0_10 {PT : PTy} (_ : HP16 PT) : vcOk PT w_xo_was_0_10 := vc_of (fun ρ α _ _ => rfl)
def w_xo_was_0_11 : VC := (([(0, 23), (0, 49), (1, 8), (0, 10), (0, 8), (0, 6), (0, 6), (0, 8), (0, 9), (0, 49), (0, 49), ((-2147483648), 2147483647), ((-2147483648), 2147483647), (0, 5), (0, 7), (2, 2147483647)]), [(0, [(none, 0), (none, 0)], []), (2, [(none, 1), (some 15, 0)], []), (3, [(some 15, 0), (none, 0)], []), (1, [(none, 1), (none, 0)], []), (2, [(some 14, 0), (some 2, 0)], []), (3, [(some 14, 0), (none, 0)], [])], (27, [], [8, 8]))
theorem v_xo_was_0_11 {PT : PTy} (_ : HP16 PT) : vcOk PT w_xo_was_0_11 := vc_of (fun ρ α _ _ => rfl)
def w_xo_was_0_12 : VC := (([(0, 23), (0, 49), (1, 8), (0, 10), (0, 8), (0, 6), (0, 6), (0, 8), (0, 9), (0, 49), (0, 49), ((-2147483648), 2147483647), ((-2147483648), 2147483647), (0, 5), (0, 7), (1, 1), (0, 49)]), [(1, [(some 15, 0), (none, 0)], []), (86, [(some 2, 0), (some 3, 0), (some 4, 0), (some 5, 0), (some 6, 0), (some 16, 0)], [58, 59, 10, 12, 13, 15, 16, 19, 20, 23, 24]), (1, [(none, 1), (none, 0)], []), (3, [(none, 1), (some 15, 0)], []), (3, [(some 15, 0), (none, 0)], []), (1, [(none, 1), (none, 0)], []), (2, [(some 14, 0), (some 2, 0)], []), (3, [(some 14, 0), (none, 0)], [])], (150, [(some 16, 0), (some 2, 0), (some 3, 0), (some 4, 0), (some 5, 0), (some 6, 0)], [58, 59, 7, 8, 10, 11, 12, 13, 15, 16, 19, 20, 21, 23, 24, 25]))
theorem pe86_16 {PT : PTy} (hp : HP16 PT) : PT 86 = P_arr := hp.1.1.1.1.1.1.1.1.1.1.1.1.1.2.2.2.2.2.2.2.1
set_option maxRecDepth 20000 in
theorem v_xo_was_0_12 {PT : PTy} (hp : HP16 PT) : vcOk PT w_xo_was_0_12 := vc_in [(2, 1, 8), (3, 0, 10), (4, 0, 8), (5, 0, 6), (6, 0, 6), (14, 0, 7), (16, 0, 49)] (by decide +kernel) (fun ρ α => by
  intro b2 b3 b4 b5 b6 b14 b16 f0 f1 f2 f3 f4 f5 f6 f7 tt
  clear f0 f2 f3 f4 f5 f7
  have e86 : PT 86 = P_arr := pe86_16 hp
  have e150 : PT 150 = P_ar2 := pe150_16 hp
  simp only [hF2, hFp_86, hFp_150, e86, e150, P_arr, P_ar2, den_s, den_c, Int.add_zero, List.map_cons, List.map_nil] at f1 f6 ⊢
  exact f1)
def w_xo_was_0_13 : VC := (([(0, 23), (0, 49), (1, 8), (0, 10), (0, 8), (0, 6), (0, 6), (0, 8), (0, 9), (0, 49), (0, 49), ((-2147483648), 2147483647), ((-2147483648), 2147483647), (0, 5), (0, 7), (1, 1), (0, 49), ((-2147483648), 2147483647), (0, 49)]), [(204, [(none, 3), (some 17, 0), (some 14, 0), (some 7, 0), (some 2, 0), (some 3, 0), (some 4, 0), (some 5, 0), (some 6, 0), (none, 0), (none, 0)], [7, 8, 10, 11, 12, 13, 15, 16, 19, 20, 21, 23, 24, 25, 32, 33, 34]), (27, [], [60, 7]), (1, [(some 15, 0), (none, 0)], []), (86, [(some 2, 0), (some 3, 0), (some 4, 0), (some 5, 0), (some 6, 0), (some 16, 0)], [58, 59, 10, 12, 13, 15, 16, 19, 20, 23, 24]), (1, [(none, 1), (none, 0)], []), (3, [(none, 1), (some 15, 0)], []), (3, [(some 15, 0), (none, 0)], []), (1, [(none, 1), (none, 0)], []), (2, [(some 14, 0), (some 2, 0)], []), (3, [(some 14, 0), (none, 0)], [])], (205, [(some 17, 0), (some 14, 0), (some 15, 0), (some 7, 0), (some 2, 0), (some 3, 0), (some 4, 0), (some 5, 0), (some 6, 0), (none, 0), (none, 0)], [7, 8, 10, 11, 12, 13, 15, 16, 19, 20, 21, 23, 24, 25, 32, 33, 34]))
set_option maxRecDepth 20000 in
theorem v_xo_was_0_13 {PT : PTy} (hp : HP16 PT) : vcOk PT w_xo_was_0_13 := vc_iv [(2, 1, 8), (3, 0, 10), (4, 0, 8), (5, 0, 6), (6, 0, 6), (7, 0, 8), (14, 0, 7), (15, 1, 1), (16, 0, 49), (17, (-2147483648), 2147483647)] [7, 8, 10, 11, 12, 13, 15, 16, 19, 20, 21, 23, 24, 25, 32, 33, 34, 58, 59, 60] (by decide +kernel) (fun ρ α => by
  intro r2 g2 b2 r3 g3 b3 r4 g4 b4 r5 g5 b5 r6 g6 b6 r7 g7 b7 r14 g14 b14 r15 g15 b15 r16 g16 b16 r17 g17 b17 a7 h7 a8 h8 a10 h10 a11 h11 a12 h12 a13 h13 a15 h15 a16 h16 a19 h19 a20 h20 a21 h21 a23 h23 a24 h24 a25 h25 a32 h32 a33 h33 a34 h34 a58 h58 a59 h59 a60 h60 f0 f1 f2 f3 f4 f5 f6 f7 f8 f9 tt
  clear f2 f4 f5 f6 f7 f9
  have e86 : PT 86 = P_arr := pe86_16 hp
  have e204 : PT 204 = P_woI := pe204_16 hp
  have e205 : PT 205 = P_owaX := pe205_16 hp
  simp only [hF2, hF27, hFp_86, hFp_204, hFp_205, e86, e204, e205, P_arr, P_woI, P_owaX, den_s, den_c, Int.add_zero, List.map_cons, List.map_nil, g2.eq, g3.eq, g4.eq, g5.eq, g6.eq, g7.eq, g14.eq, g15.eq, g16.eq, g17.eq, h7, h8, h10, h11, h12, h13, h15, h16, h19, h20, h21, h23, h24, h25, h32, h33, h34, h58, h59, h60] at f0 f1 f3 f8 ⊢
  ((repeat' (first | apply And.intro | intro h)) <;> first | omega | rfl | trivial | (exfalso; omega) | exact MISSING | exact f0))
def w_xo_was_0_14 : VC := (([(0, 23), (0, 49), (1, 8), (0, 10), (0, 8), (0, 6), (0, 6), (0, 8), (0, 9), (0, 49), (0, 49), ((-2147483648), 2147483647), ((-2147483648), 2147483647), (0, 5), (0, 7), (1, 1), (0, 49), ((-2147483648), 2147483647), (0, 49)]), [(204, [(none, 3), (some 17, 0), (some 14, 0), (some 7, 0), (some 2, 0), (some 3, 0), (some 4, 0), (some 5, 0), (some 6, 0), (none, 0), (none, 0)], [7, 8, 10, 11, 12, 13, 15, 16, 19, 20, 21, 23, 24, 25, 32, 33, 34]), (27, [], [60, 7]), (1, [(some 15, 0), (none, 0)], []), (86, [(some 2, 0), (some 3, 0), (some 4, 0), (some 5, 0), (some 6, 0), (some 16, 0)], [58, 59, 10, 12, 13, 15, 16, 19, 20, 23, 24]), (1, [(none, 1), (none, 0)], []), (3, [(none, 1), (some 15, 0)], []), (3, [(some 15, 0), (none, 0)], []), (1, [(none, 1), (none, 0)], []), (2, [(some 14, 0), (some 2, 0)], []), (3, [(some 14, 0), (none, 0)], [])], (27, [], [8, 8]))
theorem v_xo_was_0_14 {PT : PTy} (_ : HP16 PT) : vcOk PT w_xo_was_0_14 := vc_of (fun ρ α _ _ => rfl)
def w_xo_was_0_15 : VC := (([(0, 23), (0, 49), (1, 8), (0, 10), (0, 8), (0, 6), (0, 6), (0, 8), (0, 9), (0, 49), (0, 49), ((-2147483648), 2147483647), ((-2147483648), 2147483647), (0, 5), (0, 7), (0, 0), (0, 49)]), [(0, [(some 15, 0), (none, 0)], []), (86, [(some 2, 0), (some 3, 0), (some 4, 0), (some 5, 0), (some 6, 0), (some 16, 0)], [58, 59, 10, 12, 13, 15, 16, 19, 20, 23, 24]), (1, [(none, 1), (none, 0)], []), (3, [(none, 1), (some 15, 0)], []), (3, [(some 15, 0), (none, 0)], []), (1, [(none, 1), (none, 0)], []), (2, [(some 14, 0), (some 2, 0)], []), (3, [(some 14, 0), (none, 0)], [])], (150, [(some 16, 0), (some 2, 0), (some 3, 0), (some 4, 0), (some 5, 0), (some 6, 0)], [58, 59, 7, 8, 10, 11, 12, 13, 15, 16, 19, 20, 21, 23, 24, 25]))
set_option maxRecDepth 20000 in
theorem v_xo_was_0_15 {PT : PTy} (hp : HP16 PT) : vcOk PT w_xo_was_0_15 := vc_in [(2, 1, 8), (3, 0, 10), (4, 0, 8), (5, 0, 6), (6, 0, 6), (14, 0, 7), (15, 0, 0), (16, 0, 49)] (by decide +kernel) (fun ρ α => by
  intro b2 b3 b4 b5 b6 b14 b15 b16 f0 f1 f2 f3 f4 f5 f6 f7 tt
  clear f2 f3 f4 f5 f7
  have e86 : PT 86 = P_arr := pe86_16 hp
  have e150 : PT 150 = P_ar2 := pe150_16 hp
  simp only [hF0, hF2, hFp_86, hFp_150, e86, e150, P_arr, P_ar2, den_s, den_c, Int.add_zero, List.map_cons, List.map_nil] at f0 f1 f6 ⊢
  exact f1)
def w_xo_was_0_16 : VC := (([(0, 23), (0, 49), (1, 8), (0, 10), (0, 8), (0, 6), (0, 6), (0, 8), (0, 9), (0, 49), (0, 49), ((-2147483648), 2147483647), ((-2147483648), 2147483647), (0, 5), (0, 7), (0, 0), (0, 49), ((-2147483648), 2147483647), (0, 49)]), [(203, [(none, 10), (some 17, 0), (some 14, 0), (some 7, 0), (some 2, 0), (some 3, 0), (some 4, 0), (some 5, 0), (some 6, 0), (none, 0), (none, 0)], [7, 8, 10, 11, 12, 13, 15, 16, 19, 20, 21, 23, 24, 25, 32, 33, 34]), (27, [], [60, 8]), (0, [(some 15, 0), (none, 0)], []), (86, [(some 2, 0), (some 3, 0), (some 4, 0), (some 5, 0), (some 6, 0), (some 16, 0)], [58, 59, 10, 12, 13, 15, 16, 19, 20, 23, 24]), (1, [(none, 1), (none, 0)], []), (3, [(none, 1), (some 15, 0)], []), (3, [(some 15, 0), (none, 0)], []), (1, [(none, 1), (none, 0)], []), (2, [(some 14, 0), (some 2, 0)], []), (3, [(some 14, 0), (none, 0)], [])], (205, [(some 17, 0), (some 14, 0), (some 15, 0), (some 7, 0), (some 2, 0), (some 3, 0), (some 4, 0), (some 5, 0), (some 6, 0), (none, 0), (none, 0)], [7, 8, 10, 11, 12, 13, 15, 16, 19, 20, 21, 23, 24, 25, 32, 33, 34]))
set_option maxRecDepth 20000 in
theorem v_xo_was_0_16 {PT : PTy} (hp : HP16 PT) : vcOk PT w_xo_was_0_16 := vc_iv [(2, 1, 8), (3, 0, 10), (4, 0, 8), (5, 0, 6), (6, 0, 6), (7, 0, 8), (14, 0, 7), (15, 0, 0), (16, 0, 49), (17, (-2147483648), 2147483647)] [7, 8, 10, 11, 12, 13, 15, 16, 19, 20, 21, 23, 24, 25, 32, 33, 34, 58, 59, 60] (by decide +kernel) (fun ρ α => by
  intro r2 g2 b2 r3 g3 b3 r4 g4 b4 r5 g5 b5 r6 g6 b6 r7 g7 b7 r14 g14 b14 r15 g15 b15 r16 g16 b16 r17 g17 b17 a7 h7 a8 h8 a10 h10 a11 h11 a12 h12 a13 h13 a15 h15 a16 h16 a19 h19 a20 h20 a21 h21 a23 h23 a24 h24 a25 h25 a32 h32 a33 h33 a34 h34 a58 h58 a59 h59 a60 h60 f0 f1 f2 f3 f4 f5 f6 f7 f8 f9 tt
  clear f4 f5 f6 f7 f9
  have e86 : PT 86 = P_arr := pe86_16 hp
  have e203 : PT 203 = P_wsI := pe203_16 hp
  have e205 : PT 205 = P_owaX := pe205_16 hp
  simp only [hF0, hF2, hF27, hFp_86, hFp_203, hFp_205, e86, e203, e205, P_arr, P_wsI, P_owaX, den_s, den_c, Int.add_zero, List.map_cons, List.map_nil, g2.eq, g3.eq, g4.eq, g5.eq, g6.eq, g7.eq, g14.eq, g15.eq, g16.eq, g17.eq, h7, h8, h10, h11, h12, h13, h15, h16, h19, h20, h21, h23, h24, h25, h32, h33, h34, h58, h59, h60] at f0 f1 f2 f3 f8 ⊢
  ((repeat' (first | apply And.intro | intro h)) <;> first | omega | rfl | trivial | (exfalso; omega) | exact f0 | exact MISSING))
def w_xo_was_0_17 : VC := (([(0, 23), (0, 49), (1, 8), (0, 10), (0, 8), (0, 6), (0, 6), (0, 8), (0, 9), (0, 49), (0, 49), ((-2147483648), 2147483647), ((-2147483648), 2147483647), (0, 5), (0, 7), (0, 0), (0, 49), ((-2147483648), 2147483647), (0, 49)]), [(203, [(none, 10), (some 17, 0), (some 14, 0), (some 7, 0), (some 2, 0), (some 3, 0), (some 4, 0), (some 5, 0), (some 6, 0), (none, 0), (none, 0)], [7, 8, 10, 11, 12, 13, 15, 16, 19, 20, 21, 23, 24, 25, 32, 33, 34]), (27, [], [60, 8]), (0, [(some 15, 0), (none, 0)], []), (86, [(some 2, 0), (some 3, 0), (some 4, 0), (some 5, 0), (some 6, 0), (some 16, 0)], [58, 59, 10, 12, 13, 15, 16, 19, 20, 23, 24]), (1, [(none, 1), (none, 0)], []), (3, [(none, 1), (some 15, 0)], []), (3, [(some 15, 0), (none, 0)], []), (1, [(none, 1), (none, 0)], []), (2, [(some 14, 0), (some 2, 0)], []), (3, [(some 14, 0), (none, 0)], [])], (27, [], [7, 7]))
theorem v_xo_was_0_17 {PT : PTy} (_ : HP16 PT) : vcOk PT w_xo_was_0_17 := vc_of (fun ρ α _ _ => rfl)
set_option maxRecDepth 1000000 in
theorem k_xo_was {PT : PTy} (hp : HP16 PT) : wfX c_xo_was = true ∧ xcOk PT c_xo_was := xctr (xl (k_arrange14 hp.1.1.1.1.1.1.1.1.1.1.1.1.1) (xl (k_fvS hp) (xl (k_fvO hp) (xl0)))) c_xo_was 62 mX6_was rfl h_xo_was (by decide +kernel) (by decide +kernel) (by decide) (vcs_by [w_xo_was_0_0, w_xo_was_0_1, w_xo_was_0_2, w_xo_was_0_3, w_xo_was_0_4, w_xo_was_0_5, w_xo_was_0_6, w_xo_was_0_7, w_xo_was_0_8, w_xo_was_0_9, w_xo_was_0_10, w_xo_was_0_11, w_xo_was_0_12, w_xo_was_0_13, w_xo_was_0_14, w_xo_was_0_15, w_xo_was_0_16, w_xo_was_0_17] (by decide +kernel) (vc (v_xo_was_0_0 hp) (vc (v_xo_was_0_1 hp) (vc (v_xo_was_0_2 hp) (vc (v_xo_was_0_3 hp) (vc (v_xo_was_0_4 hp) (vc (v_xo_was_0_5 hp) (vc (v_xo_was_0_6 hp) (vc (v_xo_was_0_7 hp) (vc (v_xo_was_0_8 hp) (vc (v_xo_was_0_9 hp) (vc (v_xo_was_0_10 hp) (vc (v_xo_was_0_11 hp) (vc (v_xo_was_0_12 hp) (vc (v_xo_was_0_13 hp) (vc (v_xo_was_0_14 hp) (vc (v_xo_was_0_15 hp) (vc (v_xo_was_0_16 hp) (vc (v_xo_was_0_17 hp) vn))))))))))))))))))) fmn
