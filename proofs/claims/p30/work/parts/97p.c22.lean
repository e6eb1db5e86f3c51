/-! ===== plans; printed by wip/gen/x ===== -/
def P_lnX (l : List Int) (a : List (Int → Int)) : Prop := match l, a with
  | [r, h, n, m, nk, nl, nt, u], [so, sz, wh, gr, md, du, kd, ko, ld, lw, lm, td, tw, tm] => u = 0 → hqX n m nk nl nt so sz wh gr md du kd ko ld lw lm td tw tm h r
  | _, _ => False
theorem hFp_219 {PT : PTy} {ρ : Nat → Int} {α : Nat → Int → Int} (l : List AN) (a : List Nat) : hF PT ρ α (219, l, a) = PT 219 (l.map (den ρ)) (a.map α) := rfl
def P_hu1 (l : List Int) (a : List (Int → Int)) : Prop := match l, a with
  | [i, n, m, nk, nl, nt], [so, sz, wh, gr, md, du, kd, ko, ld, lw, lm, td, tw, tm] => hu1 (hqX n m nk nl nt so sz wh gr md du kd ko ld lw lm td tw tm) i
  | _, _ => False
theorem hFp_220 {PT : PTy} {ρ : Nat → Int} {α : Nat → Int → Int} (l : List AN) (a : List Nat) : hF PT ρ α (220, l, a) = PT 220 (l.map (den ρ)) (a.map α) := rfl
def P_hu2 (l : List Int) (a : List (Int → Int)) : Prop := match l, a with
  | [a, b, n, m, nk, nl, nt], [so, sz, wh, gr, md, du, kd, ko, ld, lw, lm, td, tw, tm] => hu2 (hqX n m nk nl nt so sz wh gr md du kd ko ld lw lm td tw tm) nl a b
  | _, _ => False
theorem hFp_221 {PT : PTy} {ρ : Nat → Int} {α : Nat → Int → Int} (l : List AN) (a : List Nat) : hF PT ρ α (221, l, a) = PT 221 (l.map (den ρ)) (a.map α) := rfl
def P_hu3 (l : List Int) (a : List (Int → Int)) : Prop := match l, a with
  | [a, n, m, nk, nl, nt], [so, sz, wh, gr, md, du, kd, ko, ld, lw, lm, td, tw, tm] => hu3 (hqX n m nk nl nt so sz wh gr md du kd ko ld lw lm td tw tm) nl a
  | _, _ => False
theorem hFp_222 {PT : PTy} {ρ : Nat → Int} {α : Nat → Int → Int} (l : List AN) (a : List Nat) : hF PT ρ α (222, l, a) = PT 222 (l.map (den ρ)) (a.map α) := rfl
def P_hsX (l : List Int) (a : List (Int → Int)) : Prop := match l, a with
  | [r, n, m, nk, nl, nt], [so, sz, wh, gr, md, du, kd, ko, ld, lw, lm, td, tw, tm] => ∃ c a b, huR (hqX n m nk nl nt so sz wh gr md du kd ko ld lw lm td tw tm) nl c a b ∧ (c = 0 → r = 0) ∧ (c = 1 → r = l1 a) ∧ (c = 2 → r = l2 a b) ∧ (c = -1 → r = -1)
  | _, _ => False
theorem hFp_223 {PT : PTy} {ρ : Nat → Int} {α : Nat → Int → Int} (l : List AN) (a : List Nat) : hF PT ρ α (223, l, a) = PT 223 (l.map (den ρ)) (a.map α) := rfl
def P_ihY (l : List Int) (a : List (Int → Int)) : Prop := match l, a with
  | [r, h, n, m, nk, nl, nt, m1, u], [so, sz, wh, gr, md, du, KD, KO, ld, lw, lm, td, tw, tm] => m1 = m → u = 0 → hqY n m nk nl nt so sz wh gr md du KD KO ld lw lm td tw tm h r
  | _, _ => False
theorem hFp_224 {PT : PTy} {ρ : Nat → Int} {α : Nat → Int → Int} (l : List AN) (a : List Nat) : hF PT ρ α (224, l, a) = PT 224 (l.map (den ρ)) (a.map α) := rfl
def P_hv1 (l : List Int) (a : List (Int → Int)) : Prop := match l, a with
  | [i, n, m, nk, nl, nt], [so, sz, wh, gr, md, du, KD, KO, ld, lw, lm, td, tw, tm] => hu1 (hqY n m nk nl nt so sz wh gr md du KD KO ld lw lm td tw tm) i
  | _, _ => False
theorem hFp_225 {PT : PTy} {ρ : Nat → Int} {α : Nat → Int → Int} (l : List AN) (a : List Nat) : hF PT ρ α (225, l, a) = PT 225 (l.map (den ρ)) (a.map α) := rfl
def P_hv2 (l : List Int) (a : List (Int → Int)) : Prop := match l, a with
  | [a, b, n, m, nk, nl, nt], [so, sz, wh, gr, md, du, KD, KO, ld, lw, lm, td, tw, tm] => hu2 (hqY n m nk nl nt so sz wh gr md du KD KO ld lw lm td tw tm) nl a b
  | _, _ => False
theorem hFp_226 {PT : PTy} {ρ : Nat → Int} {α : Nat → Int → Int} (l : List AN) (a : List Nat) : hF PT ρ α (226, l, a) = PT 226 (l.map (den ρ)) (a.map α) := rfl
def P_hv3 (l : List Int) (a : List (Int → Int)) : Prop := match l, a with
  | [a, n, m, nk, nl, nt], [so, sz, wh, gr, md, du, KD, KO, ld, lw, lm, td, tw, tm] => hu3 (hqY n m nk nl nt so sz wh gr md du KD KO ld lw lm td tw tm) nl a
  | _, _ => False
theorem hFp_227 {PT : PTy} {ρ : Nat → Int} {α : Nat → Int → Int} (l : List AN) (a : List Nat) : hF PT ρ α (227, l, a) = PT 227 (l.map (den ρ)) (a.map α) := rfl
def P_hbY (l : List Int) (a : List (Int → Int)) : Prop := match l, a with
  | [c, n, m, nk, nl, nt], [L, T, so, sz, wh, gr, md, du, KD, KO, kd, ko, ld, lw, lm, td, tw, tm, PR] => toY n m nk L T so sz wh gr md du KD KO kd ko ∧ ∃ a b, huR (hqY n m nk nl nt so sz wh gr md du KD KO ld lw lm td tw tm) nl c a b ∧ (1 ≤ c → PR 0 = a) ∧ (c = 2 → PR 1 = b)
  | _, _ => False
theorem hFp_228 {PT : PTy} {ρ : Nat → Int} {α : Nat → Int → Int} (l : List AN) (a : List Nat) : hF PT ρ α (228, l, a) = PT 228 (l.map (den ρ)) (a.map α) := rfl
def P_ohY (l : List Int) (a : List (Int → Int)) : Prop := match l, a with
  | [r, i, n, m, nk, nl, nt], [L, T, so, sz, wh, gr, md, du, KD, KO, kd, ko, ld, lw, lm, td, tw, tm] => (¬ (-1 ≤ i ∧ i ≤ 1) → r = -2) ∧ (-1 ≤ i ∧ i ≤ 1 → toY n m nk L T so sz wh gr md du KD KO kd ko ∧ ∃ c a b, huR (hqY n m nk nl nt so sz wh gr md du KD KO ld lw lm td tw tm) nl c a b ∧ (i = -1 → r = c) ∧ (0 ≤ i → c ≤ i → r = -1) ∧ (i = 0 → 1 ≤ c → r = a) ∧ (i = 1 → c = 2 → r = b))
  | _, _ => False
theorem hFp_229 {PT : PTy} {ρ : Nat → Int} {α : Nat → Int → Int} (l : List AN) (a : List Nat) : hF PT ρ α (229, l, a) = PT 229 (l.map (den ρ)) (a.map α) := rfl
def P_ohX (l : List Int) (a : List (Int → Int)) : Prop := match l, a with
  | [r, i, n, m, nk, nl, nt], [so, sz, wh, gr, md, du, kd, ko, ld, lw, lm, td, tw, tm] => (¬ (-1 ≤ i ∧ i ≤ 1) → r = -2) ∧ (-1 ≤ i ∧ i ≤ 1 → ∃ c a b, huR (hqX n m nk nl nt so sz wh gr md du kd ko ld lw lm td tw tm) nl c a b ∧ (i = -1 → r = c) ∧ (0 ≤ i → c ≤ i → r = -1) ∧ (i = 0 → 1 ≤ c → r = a) ∧ (i = 1 → c = 2 → r = b))
  | _, _ => False
theorem hFp_230 {PT : PTy} {ρ : Nat → Int} {α : Nat → Int → Int} (l : List AN) (a : List Nat) : hF PT ρ α (230, l, a) = PT 230 (l.map (den ρ)) (a.map α) := rfl
def HP19 (PT : PTy) : Prop := HP18 PT ∧ (PT 219 = P_lnX ∧ PT 220 = P_hu1 ∧ PT 221 = P_hu2 ∧ PT 222 = P_hu3 ∧ PT 223 = P_hsX ∧ PT 224 = P_ihY ∧ PT 225 = P_hv1 ∧ PT 226 = P_hv2 ∧ PT 227 = P_hv3 ∧ PT 228 = P_hbY ∧ PT 229 = P_ohY ∧ PT 230 = P_ohX ∧ True)
def c_lnNaked : XC := (91, 3, (bX ++ [((-2147483648), 2147483647)]), [.inr (.inl 0), .inl (some 14, 0)], (gX 14), [(150, [(some 9, 0), (some 2, 0), (some 3, 0), (some 4, 0), (some 5, 0), (some 6, 0)], [26, 27, 7, 8, 10, 11, 12, 13, 15, 16, 19, 20, 21, 23, 24, 25])], [((bX ++ [((-2147483648), 2147483647), (0, 1), (0, 49)]), some (.inl (some 15, 0)), (hst (gX 14) [(5, .inr (.inr (.inr (0, [.inr (.inl 6), .inr (.inl 9), .inr (.inl 14), .inr (.inl 18), .inr (.inl 22), .inr (.inl 26), .inr (.inl 27), .inr (.inl 28), .inr (.inl 29), .inr (.inl 30), .inl (some 9, 0), .inl (some 16, 0), .inl (some 11, 0), .inl (some 14, 0), .inr (.inl 14)]))))]), (ansT 58 [(28, 58), (29, 59), (30, 60)]), 61, [(219, [(some 15, 0), (some 14, 0), (some 2, 0), (some 3, 0), (some 4, 0), (some 5, 0), (some 6, 0), (some 11, 0)], [7, 8, 10, 11, 12, 13, 15, 16, 19, 20, 21, 23, 24, 25])])])
def h_lnNaked : List XH := []
def w_lnNaked_0_0 : VC := ((bX ++ [((-2147483648), 2147483647)]), [(89, [], [8, 58, 59, 60]), (150, [(some 9, 0), (some 2, 0), (some 3, 0), (some 4, 0), (some 5, 0), (some 6, 0)], [26, 27, 7, 8, 10, 11, 12, 13, 15, 16, 19, 20, 21, 23, 24, 25])], (87, [(some 9, 0)], [26, 27]))
theorem pe87_19 {PT : PTy} (hp : HP19 PT) : PT 87 = P_pr := hp.1.1.1.1.1.1.1.1.1.1.1.1.1.1.1.1.2.2.2.2.2.2.2.2.1
theorem pe89_19 {PT : PTy} (hp : HP19 PT) : PT 89 = P_bg := hp.1.1.1.1.1.1.1.1.1.1.1.1.1.1.1.1.2.2.2.2.2.2.2.2.2.2.1
theorem pe150_19 {PT : PTy} (hp : HP19 PT) : PT 150 = P_ar2 := hp.1.1.1.1.1.1.1.1.2.2.2.2.1
set_option maxRecDepth 20000 in
theorem v_lnNaked_0_0 {PT : PTy} (hp : HP19 PT) : vcOk PT w_lnNaked_0_0 := vc_in [(2, 0, 8), (3, 0, 11), (4, 0, 9), (5, 0, 6), (6, 0, 6), (9, 0, 49)] (by decide +kernel) (fun ρ α => by
  intro b2 b3 b4 b5 b6 b9 f0 f1 tt
  have e87 : PT 87 = P_pr := pe87_19 hp
  have e89 : PT 89 = P_bg := pe89_19 hp
  have e150 : PT 150 = P_ar2 := pe150_19 hp
  simp only [hFp_87, hFp_89, hFp_150, e87, e89, e150, P_pr, P_bg, P_ar2, den_s, den_c, Int.add_zero, List.map_cons, List.map_nil] at f0 f1 ⊢
  clear e87 e89 e150 tt
  exact (f1).1)
def w_lnNaked_0_1 : VC := ((bX ++ [((-2147483648), 2147483647), (0, 49), ((-2147483648), 2147483647)]), [(1, [(some 16, 0), (none, 0)], []), (93, [(some 16, 0), (some 2, 0)], [61]), (91, [(none, 0), (some 15, 0), (some 9, 0), (none, 23), (some 11, 0), (some 14, 0)], [26, 27, 7, 8, 10, 11, 16, 20, 21, 24, 25, 58, 59, 60, 61, 62, 63]), (89, [], [8, 58, 59, 60]), (150, [(some 9, 0), (some 2, 0), (some 3, 0), (some 4, 0), (some 5, 0), (some 6, 0)], [26, 27, 7, 8, 10, 11, 12, 13, 15, 16, 19, 20, 21, 23, 24, 25])], (219, [(none, 0), (some 14, 0), (some 2, 0), (some 3, 0), (some 4, 0), (some 5, 0), (some 6, 0), (some 11, 0)], [7, 8, 10, 11, 12, 13, 15, 16, 19, 20, 21, 23, 24, 25]))
theorem pe91_19 {PT : PTy} (hp : HP19 PT) : PT 91 = P_adE := hp.1.1.1.1.1.1.1.1.1.1.1.1.1.1.1.1.2.2.2.2.2.2.2.2.2.2.2.2.1
theorem pe93_19 {PT : PTy} (hp : HP19 PT) : PT 93 = P_nkd := hp.1.1.1.1.1.1.1.1.1.1.1.1.1.1.1.2.2.1
theorem pe219_19 {PT : PTy} (hp : HP19 PT) : PT 219 = P_lnX := hp.2.1
set_option maxRecDepth 20000 in
theorem v_lnNaked_0_1 {PT : PTy} (hp : HP19 PT) : vcOk PT w_lnNaked_0_1 := vc_iv [(2, 0, 8), (3, 0, 11), (4, 0, 9), (5, 0, 6), (6, 0, 6), (9, 0, 49), (11, (-2147483648), 2147483647), (14, (-2147483648), 2147483647), (15, 0, 49), (16, (-2147483648), 2147483647)] [7, 8, 10, 11, 12, 13, 15, 16, 19, 20, 21, 23, 24, 25, 26, 27, 58, 59, 60, 61, 62, 63] (by decide +kernel) (fun ρ α => by
  intro r2 g2 b2 r3 g3 b3 r4 g4 b4 r5 g5 b5 r6 g6 b6 r9 g9 b9 r11 g11 b11 r14 g14 b14 r15 g15 b15 r16 g16 b16 a7 h7 a8 h8 a10 h10 a11 h11 a12 h12 a13 h13 a15 h15 a16 h16 a19 h19 a20 h20 a21 h21 a23 h23 a24 h24 a25 h25 a26 h26 a27 h27 a58 h58 a59 h59 a60 h60 a61 h61 a62 h62 a63 h63 f0 f1 f2 f3 f4 tt
  have e89 : PT 89 = P_bg := pe89_19 hp
  have e91 : PT 91 = P_adE := pe91_19 hp
  have e93 : PT 93 = P_nkd := pe93_19 hp
  have e150 : PT 150 = P_ar2 := pe150_19 hp
  have e219 : PT 219 = P_lnX := pe219_19 hp
  simp only [hF1, hFp_89, hFp_91, hFp_93, hFp_150, hFp_219, e89, e91, e93, e150, e219, P_bg, P_adE, P_nkd, P_ar2, P_lnX, den_s, den_c, Int.add_zero, List.map_cons, List.map_nil, g2, g3, g4, g5, g6, g9, g11, g14, g15, g16, h7, h8, h10, h11, h12, h13, h15, h16, h19, h20, h21, h23, h24, h25, h26, h27, h58, h59, h60, h61, h62, h63] at f0 f1 f2 f3 f4 ⊢
  clear g2 g3 g4 g5 g6 g9 g11 g14 g15 g16 h7 h8 h10 h11 h12 h13 h15 h16 h19 h20 h21 h23 h24 h25 h26 h27 h58 h59 h60 h61 h62 h63 e89 e91 e93 e150 e219 tt
  have hy := yX_by (f4).2 f3 f2
  have hk := f1
  intro e
  subst e
  first
    | exact ⟨_, _, _, hy, Or.inl ⟨by first | rfl | trivial, by rw [show nkdF _ _ = _ from hk.symm]; omega⟩⟩
    | exact ⟨_, _, _, hy, Or.inr ⟨by first | rfl | trivial, by rw [show nkdF _ _ = _ from hk.symm]; omega⟩⟩)
def w_lnNaked_0_2 : VC := ((bX ++ [((-2147483648), 2147483647), (0, 49), (0, 0)]), [(0, [(some 16, 0), (none, 0)], []), (93, [(some 16, 0), (some 2, 0)], [61]), (91, [(none, 0), (some 15, 0), (some 9, 0), (none, 23), (some 11, 0), (some 14, 0)], [26, 27, 7, 8, 10, 11, 16, 20, 21, 24, 25, 58, 59, 60, 61, 62, 63]), (89, [], [8, 58, 59, 60]), (150, [(some 9, 0), (some 2, 0), (some 3, 0), (some 4, 0), (some 5, 0), (some 6, 0)], [26, 27, 7, 8, 10, 11, 12, 13, 15, 16, 19, 20, 21, 23, 24, 25])], (219, [(none, 1), (some 14, 0), (some 2, 0), (some 3, 0), (some 4, 0), (some 5, 0), (some 6, 0), (some 11, 0)], [7, 8, 10, 11, 12, 13, 15, 16, 19, 20, 21, 23, 24, 25]))
set_option maxRecDepth 20000 in
theorem v_lnNaked_0_2 {PT : PTy} (hp : HP19 PT) : vcOk PT w_lnNaked_0_2 := vc_iv [(2, 0, 8), (3, 0, 11), (4, 0, 9), (5, 0, 6), (6, 0, 6), (9, 0, 49), (11, (-2147483648), 2147483647), (14, (-2147483648), 2147483647), (15, 0, 49), (16, 0, 0)] [7, 8, 10, 11, 12, 13, 15, 16, 19, 20, 21, 23, 24, 25, 26, 27, 58, 59, 60, 61, 62, 63] (by decide +kernel) (fun ρ α => by
  intro r2 g2 b2 r3 g3 b3 r4 g4 b4 r5 g5 b5 r6 g6 b6 r9 g9 b9 r11 g11 b11 r14 g14 b14 r15 g15 b15 r16 g16 b16 a7 h7 a8 h8 a10 h10 a11 h11 a12 h12 a13 h13 a15 h15 a16 h16 a19 h19 a20 h20 a21 h21 a23 h23 a24 h24 a25 h25 a26 h26 a27 h27 a58 h58 a59 h59 a60 h60 a61 h61 a62 h62 a63 h63 f0 f1 f2 f3 f4 tt
  have e89 : PT 89 = P_bg := pe89_19 hp
  have e91 : PT 91 = P_adE := pe91_19 hp
  have e93 : PT 93 = P_nkd := pe93_19 hp
  have e150 : PT 150 = P_ar2 := pe150_19 hp
  have e219 : PT 219 = P_lnX := pe219_19 hp
  simp only [hF0, hFp_89, hFp_91, hFp_93, hFp_150, hFp_219, e89, e91, e93, e150, e219, P_bg, P_adE, P_nkd, P_ar2, P_lnX, den_s, den_c, Int.add_zero, List.map_cons, List.map_nil, g2, g3, g4, g5, g6, g9, g11, g14, g15, g16, h7, h8, h10, h11, h12, h13, h15, h16, h19, h20, h21, h23, h24, h25, h26, h27, h58, h59, h60, h61, h62, h63] at f0 f1 f2 f3 f4 ⊢
  clear g2 g3 g4 g5 g6 g9 g11 g14 g15 g16 h7 h8 h10 h11 h12 h13 h15 h16 h19 h20 h21 h23 h24 h25 h26 h27 h58 h59 h60 h61 h62 h63 e89 e91 e93 e150 e219 tt
  have hy := yX_by (f4).2 f3 f2
  have hk := f1
  intro e
  subst e
  first
    | exact ⟨_, _, _, hy, Or.inl ⟨by first | rfl | trivial, by rw [show nkdF _ _ = _ from hk.symm]; omega⟩⟩
    | exact ⟨_, _, _, hy, Or.inr ⟨by first | rfl | trivial, by rw [show nkdF _ _ = _ from hk.symm]; omega⟩⟩)
set_option maxRecDepth 1000000 in
theorem k_lnNaked {PT : PTy} (hp : HP19 PT) : wfX c_lnNaked = true ∧ xcOk PT c_lnNaked := xctr (xl (k_begin14 hp.1.1.1.1.1.1.1.1.1.1.1.1.1.1.1) (xl (k_advance14 hp.1.1.1.1.1.1.1.1.1.1.1.1.1.1.1) (xl (k_nakedBits14 hp.1.1.1.1.1.1.1.1.1.1.1.1.1.1.1) (xl0)))) c_lnNaked 38 mX6_leavesNobodyNaked rfl h_lnNaked (by decide +kernel) (by decide +kernel) (by decide) (vcs_by [w_lnNaked_0_0, w_lnNaked_0_1, w_lnNaked_0_2] (by decide +kernel) (vc (v_lnNaked_0_0 hp) (vc (v_lnNaked_0_1 hp) (vc (v_lnNaked_0_2 hp) vn)))) fmn
def c_toHush : XC := (90, 4, (bT), [.inr (.inl 0)], (gX 999), [], [((bT ++ [((-2147483648), 2147483647), (0, 49), (0, 49), ((-2147483648), 2147483647)]), some (.inl (some 14, 0)), (hst (gX 14) [(5, .inr (.inr (.inr (0, [.inr (.inl 6), .inr (.inl 9), .inr (.inl 14), .inr (.inl 18), .inr (.inl 22), .inr (.inl 26), .inr (.inl 27), .inr (.inl 28), .inr (.inl 29), .inr (.inl 30), .inl (some 15, 0), .inl (some 16, 0), .inl (none, 0), .inl (some 17, 0), .inr (.inl 14)]))))]), (ansT 58 [(26, 58), (27, 59), (28, 60), (29, 61), (30, 62)]), 63, [(223, [(some 14, 0), (some 2, 0), (some 3, 0), (some 4, 0), (some 5, 0), (some 6, 0)], [7, 8, 10, 11, 12, 13, 15, 16, 19, 20, 21, 23, 24, 25])])])
def h_toHush : List XH := [(23, (bT ++ [(0, 6), (0, 49), (0, 49), ((-2147483648), 2147483647)]), [some (.inr (.inl 0)), some (.inl (some 14, 0)), none], (hst (gX 14) [(5, .inr (.inr (.inr (0, [.inr (.inl 6), .inr (.inl 9), .inr (.inl 14), .inr (.inl 18), .inr (.inl 22), .inr (.inl 26), .inr (.inl 27), .inr (.inl 28), .inr (.inl 29), .inr (.inl 30), .inl (some 15, 0), .inl (some 16, 0), .inl (none, 0), .inl (some 17, 0), .inr (.inl 14)]))))]), (ansT 58 [(26, 58), (27, 59), (28, 60), (29, 61), (30, 62)]), 63, [(150, [(some 15, 0), (some 2, 0), (some 3, 0), (some 4, 0), (some 5, 0), (some 6, 0)], [58, 59, 7, 8, 10, 11, 12, 13, 15, 16, 19, 20, 21, 23, 24, 25]), (220, [(some 14, 0), (some 2, 0), (some 3, 0), (some 4, 0), (some 5, 0), (some 6, 0)], [7, 8, 10, 11, 12, 13, 15, 16, 19, 20, 21, 23, 24, 25]), (3, [(some 5, 0), (some 14, 0)], []), (0, [(none, 0), (none, 0)], [])], [(true, (none, 1)), (true, (some 14, 0)), (true, (none, 0)), (true, (none, 0))]),
  (56, (bT ++ [(0, 6), (0, 49), (0, 49), ((-2147483648), 2147483647)]), [some (.inr (.inl 0)), some (.inl (some 14, 0)), none], (hst (gX 14) [(5, .inr (.inr (.inr (0, [.inr (.inl 6), .inr (.inl 9), .inr (.inl 14), .inr (.inl 18), .inr (.inl 22), .inr (.inl 26), .inr (.inl 27), .inr (.inl 28), .inr (.inl 29), .inr (.inl 30), .inl (some 15, 0), .inl (some 16, 0), .inl (none, 0), .inl (some 17, 0), .inr (.inl 14)]))))]), (ansT 58 [(26, 58), (27, 59), (28, 60), (29, 61), (30, 62)]), 63, [(150, [(some 15, 0), (some 2, 0), (some 3, 0), (some 4, 0), (some 5, 0), (some 6, 0)], [58, 59, 7, 8, 10, 11, 12, 13, 15, 16, 19, 20, 21, 23, 24, 25]), (222, [(some 14, 0), (some 2, 0), (some 3, 0), (some 4, 0), (some 5, 0), (some 6, 0)], [7, 8, 10, 11, 12, 13, 15, 16, 19, 20, 21, 23, 24, 25]), (3, [(some 5, 0), (some 14, 0)], []), (0, [(none, 0), (none, 0)], [])], [(true, (none, 2)), (true, (some 14, 0)), (true, (none, 0)), (true, (none, 0))]),
  (71, ([(0, 23), (0, 49), (0, 8), (0, 10), (0, 8), (1, 6), (0, 6), (0, 8), (0, 9), (0, 49), (0, 49), ((-2147483648), 2147483647), ((-2147483648), 2147483647), (0, 5), (0, 5), (1, 6), (0, 49), (0, 49), ((-2147483648), 2147483647)]), [some (.inr (.inl 0)), some (.inl (some 14, 0)), some (.inl (some 15, 0))], (hst (gX 14) [(5, .inr (.inr (.inr (0, [.inr (.inl 6), .inr (.inl 9), .inr (.inl 14), .inr (.inl 18), .inr (.inl 22), .inr (.inl 26), .inr (.inl 27), .inr (.inl 28), .inr (.inl 29), .inr (.inl 30), .inl (some 16, 0), .inl (some 17, 0), .inl (none, 0), .inl (some 18, 0), .inr (.inl 14)]))))]), (ansT 58 [(26, 58), (27, 59), (28, 60), (29, 61), (30, 62)]), 63, [(150, [(some 16, 0), (some 2, 0), (some 3, 0), (some 4, 0), (some 5, 0), (some 6, 0)], [58, 59, 7, 8, 10, 11, 12, 13, 15, 16, 19, 20, 21, 23, 24, 25]), (221, [(some 14, 0), (some 15, 0), (some 2, 0), (some 3, 0), (some 4, 0), (some 5, 0), (some 6, 0)], [7, 8, 10, 11, 12, 13, 15, 16, 19, 20, 21, 23, 24, 25]), (3, [(some 5, 0), (some 15, 0)], []), (2, [(some 14, 0), (some 15, 0)], []), (2, [(some 14, 0), (some 5, 0)], []), (0, [(none, 0), (none, 0)], [])], [(true, (none, 2)), (true, (some 14, 0)), (true, (none, 1)), (true, (some 15, 0))])]
def w_toHush_0_0 : VC := ((bT ++ [(0, 49)]), [(86, [(some 2, 0), (some 3, 0), (some 4, 0), (some 5, 0), (some 6, 0), (some 14, 0)], [58, 59, 10, 12, 13, 15, 16, 19, 20, 23, 24])], (150, [(some 14, 0), (some 2, 0), (some 3, 0), (some 4, 0), (some 5, 0), (some 6, 0)], [58, 59, 7, 8, 10, 11, 12, 13, 15, 16, 19, 20, 21, 23, 24, 25]))
theorem pe86_19 {PT : PTy} (hp : HP19 PT) : PT 86 = P_arr := hp.1.1.1.1.1.1.1.1.1.1.1.1.1.1.1.1.2.2.2.2.2.2.2.1
set_option maxRecDepth 20000 in
theorem v_toHush_0_0 {PT : PTy} (hp : HP19 PT) : vcOk PT w_toHush_0_0 := vc_in [(2, 0, 8), (3, 0, 10), (4, 0, 8), (5, 0, 6), (6, 0, 6), (14, 0, 49)] (by decide +kernel) (fun ρ α => by
  intro b2 b3 b4 b5 b6 b14 f0 tt
  have e86 : PT 86 = P_arr := pe86_19 hp
  have e150 : PT 150 = P_ar2 := pe150_19 hp
  simp only [hFp_86, hFp_150, e86, e150, P_arr, P_ar2, den_s, den_c, Int.add_zero, List.map_cons, List.map_nil] at f0 ⊢
  clear e86 e150 tt
  exact f0)
def w_toHush_0_1 : VC := ((bT ++ [(0, 49), (0, 0), (0, 49)]), [(0, [(some 15, 0), (none, 0)], []), (219, [(some 15, 0), (none, 0), (some 2, 0), (some 3, 0), (some 4, 0), (some 5, 0), (some 6, 0), (none, 0)], [7, 8, 10, 11, 12, 13, 15, 16, 19, 20, 21, 23, 24, 25]), (86, [(some 2, 0), (some 3, 0), (some 4, 0), (some 5, 0), (some 6, 0), (some 14, 0)], [58, 59, 10, 12, 13, 15, 16, 19, 20, 23, 24])], (150, [(some 14, 0), (some 2, 0), (some 3, 0), (some 4, 0), (some 5, 0), (some 6, 0)], [58, 59, 7, 8, 10, 11, 12, 13, 15, 16, 19, 20, 21, 23, 24, 25]))
set_option maxRecDepth 20000 in
theorem v_toHush_0_1 {PT : PTy} (hp : HP19 PT) : vcOk PT w_toHush_0_1 := vc_in [(2, 0, 8), (3, 0, 10), (4, 0, 8), (5, 0, 6), (6, 0, 6), (14, 0, 49), (15, 0, 0)] (by decide +kernel) (fun ρ α => by
  intro b2 b3 b4 b5 b6 b14 b15 f0 f1 f2 tt
  have e86 : PT 86 = P_arr := pe86_19 hp
  have e150 : PT 150 = P_ar2 := pe150_19 hp
  have e219 : PT 219 = P_lnX := pe219_19 hp
  simp only [hF0, hFp_86, hFp_150, hFp_219, e86, e150, e219, P_arr, P_ar2, P_lnX, den_s, den_c, Int.add_zero, List.map_cons, List.map_nil] at f0 f1 f2 ⊢
  clear e86 e150 e219 tt
  exact f2)
def w_toHush_0_2 : VC := ((bT ++ [(0, 49), (0, 0), (0, 49)]), [(0, [(some 15, 0), (none, 0)], []), (219, [(some 15, 0), (none, 0), (some 2, 0), (some 3, 0), (some 4, 0), (some 5, 0), (some 6, 0), (none, 0)], [7, 8, 10, 11, 12, 13, 15, 16, 19, 20, 21, 23, 24, 25]), (86, [(some 2, 0), (some 3, 0), (some 4, 0), (some 5, 0), (some 6, 0), (some 14, 0)], [58, 59, 10, 12, 13, 15, 16, 19, 20, 23, 24])], (220, [(none, 0), (some 2, 0), (some 3, 0), (some 4, 0), (some 5, 0), (some 6, 0)], [7, 8, 10, 11, 12, 13, 15, 16, 19, 20, 21, 23, 24, 25]))
theorem pe220_19 {PT : PTy} (hp : HP19 PT) : PT 220 = P_hu1 := hp.2.2.1
set_option maxRecDepth 20000 in
theorem v_toHush_0_2 {PT : PTy} (hp : HP19 PT) : vcOk PT w_toHush_0_2 := vc_iv [(2, 0, 8), (3, 0, 10), (4, 0, 8), (5, 0, 6), (6, 0, 6), (14, 0, 49), (15, 0, 0)] [7, 8, 10, 11, 12, 13, 15, 16, 19, 20, 21, 23, 24, 25, 58, 59] (by decide +kernel) (fun ρ α => by
  intro r2 g2 b2 r3 g3 b3 r4 g4 b4 r5 g5 b5 r6 g6 b6 r14 g14 b14 r15 g15 b15 a7 h7 a8 h8 a10 h10 a11 h11 a12 h12 a13 h13 a15 h15 a16 h16 a19 h19 a20 h20 a21 h21 a23 h23 a24 h24 a25 h25 a58 h58 a59 h59 f0 f1 f2 tt
  have e86 : PT 86 = P_arr := pe86_19 hp
  have e219 : PT 219 = P_lnX := pe219_19 hp
  have e220 : PT 220 = P_hu1 := pe220_19 hp
  simp only [hF0, hFp_86, hFp_219, hFp_220, e86, e219, e220, P_arr, P_lnX, P_hu1, den_s, den_c, Int.add_zero, List.map_cons, List.map_nil, g2, g3, g4, g5, g6, g14, g15, h7, h8, h10, h11, h12, h13, h15, h16, h19, h20, h21, h23, h24, h25, h58, h59] at f0 f1 f2 ⊢
  clear g2 g3 g4 g5 g6 g14 g15 h7 h8 h10 h11 h12 h13 h15 h16 h19 h20 h21 h23 h24 h25 h58 h59 e86 e219 e220 tt
  have h0 : hqX r2 r3 r4 r5 r6 a7 a8 a10 a11 a12 a13 a15 a16 a19 a20 a21 a23 a24 a25 0 r15 := by
    first | exact f1 rfl | exact f1 trivial | exact f1
  rw [show r15 = 0 by omega] at h0
  exact ⟨h0, fun j h1 h2 => by exfalso; omega⟩)
def w_toHush_0_3 : VC := ((bT ++ [(0, 49), (0, 0), (0, 49)]), [(0, [(some 15, 0), (none, 0)], []), (219, [(some 15, 0), (none, 0), (some 2, 0), (some 3, 0), (some 4, 0), (some 5, 0), (some 6, 0), (none, 0)], [7, 8, 10, 11, 12, 13, 15, 16, 19, 20, 21, 23, 24, 25]), (86, [(some 2, 0), (some 3, 0), (some 4, 0), (some 5, 0), (some 6, 0), (some 14, 0)], [58, 59, 10, 12, 13, 15, 16, 19, 20, 23, 24])], (3, [(some 5, 0), (none, 0)], []))
set_option maxRecDepth 20000 in
theorem v_toHush_0_3 {PT : PTy} (hp : HP19 PT) : vcOk PT w_toHush_0_3 := vc_iv [(2, 0, 8), (3, 0, 10), (4, 0, 8), (5, 0, 6), (6, 0, 6), (14, 0, 49), (15, 0, 0)] [7, 8, 10, 11, 12, 13, 15, 16, 19, 20, 21, 23, 24, 25, 58, 59] (by decide +kernel) (fun ρ α => by
  intro r2 g2 b2 r3 g3 b3 r4 g4 b4 r5 g5 b5 r6 g6 b6 r14 g14 b14 r15 g15 b15 a7 h7 a8 h8 a10 h10 a11 h11 a12 h12 a13 h13 a15 h15 a16 h16 a19 h19 a20 h20 a21 h21 a23 h23 a24 h24 a25 h25 a58 h58 a59 h59 f0 f1 f2 tt
  have e86 : PT 86 = P_arr := pe86_19 hp
  have e219 : PT 219 = P_lnX := pe219_19 hp
  simp only [hF0, hF3, hFp_86, hFp_219, e86, e219, P_arr, P_lnX, den_s, den_c, Int.add_zero, List.map_cons, List.map_nil, g2, g3, g4, g5, g6, g14, g15, h7, h8, h10, h11, h12, h13, h15, h16, h19, h20, h21, h23, h24, h25, h58, h59] at f0 f1 f2 ⊢
  clear g2 g3 g4 g5 g6 g14 g15 h7 h8 h10 h11 h12 h13 h15 h16 h19 h20 h21 h23 h24 h25 h58 h59 e86 e219 tt
  omega)
def w_toHush_0_4 : VC := ((bT ++ [(0, 49), (0, 0), (0, 49)]), [(0, [(some 15, 0), (none, 0)], []), (219, [(some 15, 0), (none, 0), (some 2, 0), (some 3, 0), (some 4, 0), (some 5, 0), (some 6, 0), (none, 0)], [7, 8, 10, 11, 12, 13, 15, 16, 19, 20, 21, 23, 24, 25]), (86, [(some 2, 0), (some 3, 0), (some 4, 0), (some 5, 0), (some 6, 0), (some 14, 0)], [58, 59, 10, 12, 13, 15, 16, 19, 20, 23, 24])], (0, [(none, 0), (none, 0)], []))
theorem v_toHush_0_4 {PT : PTy} (_ : HP19 PT) : vcOk PT w_toHush_0_4 := vc_of (fun ρ α _ _ => rfl)
def w_toHush_0_5 : VC := ((bT ++ [(0, 49), (1, 1), (0, 49)]), [(1, [(some 15, 0), (none, 0)], []), (219, [(some 15, 0), (none, 0), (some 2, 0), (some 3, 0), (some 4, 0), (some 5, 0), (some 6, 0), (none, 0)], [7, 8, 10, 11, 12, 13, 15, 16, 19, 20, 21, 23, 24, 25]), (86, [(some 2, 0), (some 3, 0), (some 4, 0), (some 5, 0), (some 6, 0), (some 14, 0)], [58, 59, 10, 12, 13, 15, 16, 19, 20, 23, 24])], (223, [(none, 0), (some 2, 0), (some 3, 0), (some 4, 0), (some 5, 0), (some 6, 0)], [7, 8, 10, 11, 12, 13, 15, 16, 19, 20, 21, 23, 24, 25]))
theorem pe223_19 {PT : PTy} (hp : HP19 PT) : PT 223 = P_hsX := hp.2.2.2.2.2.1
set_option maxRecDepth 20000 in
theorem v_toHush_0_5 {PT : PTy} (hp : HP19 PT) : vcOk PT w_toHush_0_5 := vc_iv [(2, 0, 8), (3, 0, 10), (4, 0, 8), (5, 0, 6), (6, 0, 6), (14, 0, 49), (15, 1, 1)] [7, 8, 10, 11, 12, 13, 15, 16, 19, 20, 21, 23, 24, 25, 58, 59] (by decide +kernel) (fun ρ α => by
  intro r2 g2 b2 r3 g3 b3 r4 g4 b4 r5 g5 b5 r6 g6 b6 r14 g14 b14 r15 g15 b15 a7 h7 a8 h8 a10 h10 a11 h11 a12 h12 a13 h13 a15 h15 a16 h16 a19 h19 a20 h20 a21 h21 a23 h23 a24 h24 a25 h25 a58 h58 a59 h59 f0 f1 f2 tt
  clear f0
  have e86 : PT 86 = P_arr := pe86_19 hp
  have e219 : PT 219 = P_lnX := pe219_19 hp
  have e223 : PT 223 = P_hsX := pe223_19 hp
  simp only [hFp_86, hFp_219, hFp_223, e86, e219, e223, P_arr, P_lnX, P_hsX, den_s, den_c, Int.add_zero, List.map_cons, List.map_nil, g2, g3, g4, g5, g6, g14, g15, h7, h8, h10, h11, h12, h13, h15, h16, h19, h20, h21, h23, h24, h25, h58, h59] at f1 f2 ⊢
  clear g2 g3 g4 g5 g6 g14 g15 h7 h8 h10 h11 h12 h13 h15 h16 h19 h20 h21 h23 h24 h25 h58 h59 e86 e219 e223 tt
  have h0 : hqX r2 r3 r4 r5 r6 a7 a8 a10 a11 a12 a13 a15 a16 a19 a20 a21 a23 a24 a25 0 r15 := by
    first | exact f1 rfl | exact f1 trivial | exact f1
  rw [show r15 = 1 by omega] at h0
  exact ⟨0, 0, 0, Or.inl ⟨by first | rfl | trivial, h0⟩, fun _ => (by first | rfl | trivial), fun q => by exfalso; omega, fun q => by exfalso; omega, fun q => by exfalso; omega⟩)
def w_toHush_1_0 : VC := ((bT ++ [(0, 6), (0, 49), (0, 49), ((-2147483648), 2147483647)]), [(3, [(some 14, 0), (some 5, 0)], []), (150, [(some 15, 0), (some 2, 0), (some 3, 0), (some 4, 0), (some 5, 0), (some 6, 0)], [58, 59, 7, 8, 10, 11, 12, 13, 15, 16, 19, 20, 21, 23, 24, 25]), (220, [(some 14, 0), (some 2, 0), (some 3, 0), (some 4, 0), (some 5, 0), (some 6, 0)], [7, 8, 10, 11, 12, 13, 15, 16, 19, 20, 21, 23, 24, 25]), (3, [(some 5, 0), (some 14, 0)], []), (0, [(none, 0), (none, 0)], [])], (222, [(none, 0), (some 2, 0), (some 3, 0), (some 4, 0), (some 5, 0), (some 6, 0)], [7, 8, 10, 11, 12, 13, 15, 16, 19, 20, 21, 23, 24, 25]))
theorem pe222_19 {PT : PTy} (hp : HP19 PT) : PT 222 = P_hu3 := hp.2.2.2.2.1
set_option maxRecDepth 20000 in
theorem v_toHush_1_0 {PT : PTy} (hp : HP19 PT) : vcOk PT w_toHush_1_0 := vc_iv [(2, 0, 8), (3, 0, 10), (4, 0, 8), (5, 0, 6), (6, 0, 6), (14, 0, 6), (15, 0, 49)] [7, 8, 10, 11, 12, 13, 15, 16, 19, 20, 21, 23, 24, 25, 58, 59] (by decide +kernel) (fun ρ α => by
  intro r2 g2 b2 r3 g3 b3 r4 g4 b4 r5 g5 b5 r6 g6 b6 r14 g14 b14 r15 g15 b15 a7 h7 a8 h8 a10 h10 a11 h11 a12 h12 a13 h13 a15 h15 a16 h16 a19 h19 a20 h20 a21 h21 a23 h23 a24 h24 a25 h25 a58 h58 a59 h59 f0 f1 f2 f3 f4 tt
  clear f4
  have e150 : PT 150 = P_ar2 := pe150_19 hp
  have e220 : PT 220 = P_hu1 := pe220_19 hp
  have e222 : PT 222 = P_hu3 := pe222_19 hp
  simp only [hF3, hFp_150, hFp_220, hFp_222, e150, e220, e222, P_ar2, P_hu1, P_hu3, den_s, den_c, Int.add_zero, List.map_cons, List.map_nil, g2, g3, g4, g5, g6, g14, g15, h7, h8, h10, h11, h12, h13, h15, h16, h19, h20, h21, h23, h24, h25, h58, h59] at f0 f1 f2 f3 ⊢
  clear g2 g3 g4 g5 g6 g14 g15 h7 h8 h10 h11 h12 h13 h15 h16 h19 h20 h21 h23 h24 h25 h58 h59 e150 e220 e222 tt
  have u := f2
  rw [show r14 = r5 by omega] at u
  exact ⟨u, fun j k h1 h2 => by exfalso; omega⟩)
def w_toHush_1_1 : VC := ((bT ++ [(0, 6), (0, 49), (0, 49), ((-2147483648), 2147483647)]), [(3, [(some 14, 0), (some 5, 0)], []), (150, [(some 15, 0), (some 2, 0), (some 3, 0), (some 4, 0), (some 5, 0), (some 6, 0)], [58, 59, 7, 8, 10, 11, 12, 13, 15, 16, 19, 20, 21, 23, 24, 25]), (220, [(some 14, 0), (some 2, 0), (some 3, 0), (some 4, 0), (some 5, 0), (some 6, 0)], [7, 8, 10, 11, 12, 13, 15, 16, 19, 20, 21, 23, 24, 25]), (3, [(some 5, 0), (some 14, 0)], []), (0, [(none, 0), (none, 0)], [])], (3, [(some 5, 0), (none, 0)], []))
set_option maxRecDepth 20000 in
theorem v_toHush_1_1 {PT : PTy} (hp : HP19 PT) : vcOk PT w_toHush_1_1 := vc_iv [(2, 0, 8), (3, 0, 10), (4, 0, 8), (5, 0, 6), (6, 0, 6), (14, 0, 6), (15, 0, 49)] [7, 8, 10, 11, 12, 13, 15, 16, 19, 20, 21, 23, 24, 25, 58, 59] (by decide +kernel) (fun ρ α => by
  intro r2 g2 b2 r3 g3 b3 r4 g4 b4 r5 g5 b5 r6 g6 b6 r14 g14 b14 r15 g15 b15 a7 h7 a8 h8 a10 h10 a11 h11 a12 h12 a13 h13 a15 h15 a16 h16 a19 h19 a20 h20 a21 h21 a23 h23 a24 h24 a25 h25 a58 h58 a59 h59 f0 f1 f2 f3 f4 tt
  clear f4
  have e150 : PT 150 = P_ar2 := pe150_19 hp
  have e220 : PT 220 = P_hu1 := pe220_19 hp
  simp only [hF3, hFp_150, hFp_220, e150, e220, P_ar2, P_hu1, den_s, den_c, Int.add_zero, List.map_cons, List.map_nil, g2, g3, g4, g5, g6, g14, g15, h7, h8, h10, h11, h12, h13, h15, h16, h19, h20, h21, h23, h24, h25, h58, h59] at f0 f1 f2 f3 ⊢
  clear g2 g3 g4 g5 g6 g14 g15 h7 h8 h10 h11 h12 h13 h15 h16 h19 h20 h21 h23 h24 h25 h58 h59 e150 e220 tt
  omega)
def w_toHush_1_2 : VC := (([(0, 23), (0, 49), (0, 8), (0, 10), (0, 8), (1, 6), (0, 6), (0, 8), (0, 9), (0, 49), (0, 49), ((-2147483648), 2147483647), ((-2147483648), 2147483647), (0, 5), (0, 5), (0, 49), (0, 49), ((-2147483648), 2147483647), (1, 32), (0, 0), (0, 49)]), [(0, [(some 19, 0), (none, 0)], []), (219, [(some 19, 0), (some 18, 0), (some 2, 0), (some 3, 0), (some 4, 0), (some 5, 0), (some 6, 0), (none, 0)], [7, 8, 10, 11, 12, 13, 15, 16, 19, 20, 21, 23, 24, 25]), (13, [(some 18, 0), (none, 1), (some 14, 0)], []), (2, [(some 14, 0), (some 5, 0)], []), (150, [(some 15, 0), (some 2, 0), (some 3, 0), (some 4, 0), (some 5, 0), (some 6, 0)], [58, 59, 7, 8, 10, 11, 12, 13, 15, 16, 19, 20, 21, 23, 24, 25]), (220, [(some 14, 0), (some 2, 0), (some 3, 0), (some 4, 0), (some 5, 0), (some 6, 0)], [7, 8, 10, 11, 12, 13, 15, 16, 19, 20, 21, 23, 24, 25]), (3, [(some 5, 0), (some 14, 0)], []), (0, [(none, 0), (none, 0)], [])], (220, [(some 14, 1), (some 2, 0), (some 3, 0), (some 4, 0), (some 5, 0), (some 6, 0)], [7, 8, 10, 11, 12, 13, 15, 16, 19, 20, 21, 23, 24, 25]))
set_option maxRecDepth 20000 in
theorem v_toHush_1_2 {PT : PTy} (hp : HP19 PT) : vcOk PT w_toHush_1_2 := vc_iv [(2, 0, 8), (3, 0, 10), (4, 0, 8), (5, 1, 6), (6, 0, 6), (14, 0, 5), (15, 0, 49), (18, 1, 32), (19, 0, 0)] [7, 8, 10, 11, 12, 13, 15, 16, 19, 20, 21, 23, 24, 25, 58, 59] (by decide +kernel) (fun ρ α => by
  intro r2 g2 b2 r3 g3 b3 r4 g4 b4 r5 g5 b5 r6 g6 b6 r14 g14 b14 r15 g15 b15 r18 g18 b18 r19 g19 b19 a7 h7 a8 h8 a10 h10 a11 h11 a12 h12 a13 h13 a15 h15 a16 h16 a19 h19 a20 h20 a21 h21 a23 h23 a24 h24 a25 h25 a58 h58 a59 h59 f0 f1 f2 f3 f4 f5 f6 f7 tt
  clear f7
  have e150 : PT 150 = P_ar2 := pe150_19 hp
  have e219 : PT 219 = P_lnX := pe219_19 hp
  have e220 : PT 220 = P_hu1 := pe220_19 hp
  simp only [hF0, hF2, hF3, hF13, hFp_150, hFp_219, hFp_220, e150, e219, e220, P_ar2, P_lnX, P_hu1, den_s, den_c, Int.add_zero, List.map_cons, List.map_nil, g2, g3, g4, g5, g6, g14, g15, g18, g19, h7, h8, h10, h11, h12, h13, h15, h16, h19, h20, h21, h23, h24, h25, h58, h59] at f0 f1 f2 f3 f4 f5 f6 ⊢
  clear g2 g3 g4 g5 g6 g14 g15 g18 g19 h7 h8 h10 h11 h12 h13 h15 h16 h19 h20 h21 h23 h24 h25 h58 h59 e150 e219 e220 tt
  subst f2
  have h0 : hqX r2 r3 r4 r5 r6 a7 a8 a10 a11 a12 a13 a15 a16 a19 a20 a21 a23 a24 a25 (mShl 1 r14) r19 := by
    first | exact f1 rfl | exact f1 trivial | exact f1
  rw [show r19 = 0 by omega] at h0
  obtain ⟨u1, u2⟩ := f5
  exact ⟨u1, fun j h1 h2 => by
    by_cases q : j = r14
    · subst q; exact h0
    · exact u2 j h1 (by omega)⟩)
def w_toHush_1_3 : VC := (([(0, 23), (0, 49), (0, 8), (0, 10), (0, 8), (1, 6), (0, 6), (0, 8), (0, 9), (0, 49), (0, 49), ((-2147483648), 2147483647), ((-2147483648), 2147483647), (0, 5), (0, 5), (0, 49), (0, 49), ((-2147483648), 2147483647), (1, 32), (0, 0), (0, 49)]), [(0, [(some 19, 0), (none, 0)], []), (219, [(some 19, 0), (some 18, 0), (some 2, 0), (some 3, 0), (some 4, 0), (some 5, 0), (some 6, 0), (none, 0)], [7, 8, 10, 11, 12, 13, 15, 16, 19, 20, 21, 23, 24, 25]), (13, [(some 18, 0), (none, 1), (some 14, 0)], []), (2, [(some 14, 0), (some 5, 0)], []), (150, [(some 15, 0), (some 2, 0), (some 3, 0), (some 4, 0), (some 5, 0), (some 6, 0)], [58, 59, 7, 8, 10, 11, 12, 13, 15, 16, 19, 20, 21, 23, 24, 25]), (220, [(some 14, 0), (some 2, 0), (some 3, 0), (some 4, 0), (some 5, 0), (some 6, 0)], [7, 8, 10, 11, 12, 13, 15, 16, 19, 20, 21, 23, 24, 25]), (3, [(some 5, 0), (some 14, 0)], []), (0, [(none, 0), (none, 0)], [])], (3, [(some 5, 0), (some 14, 1)], []))
set_option maxRecDepth 20000 in
theorem v_toHush_1_3 {PT : PTy} (hp : HP19 PT) : vcOk PT w_toHush_1_3 := vc_iv [(2, 0, 8), (3, 0, 10), (4, 0, 8), (5, 1, 6), (6, 0, 6), (14, 0, 5), (15, 0, 49), (18, 1, 32), (19, 0, 0)] [7, 8, 10, 11, 12, 13, 15, 16, 19, 20, 21, 23, 24, 25, 58, 59] (by decide +kernel) (fun ρ α => by
  intro r2 g2 b2 r3 g3 b3 r4 g4 b4 r5 g5 b5 r6 g6 b6 r14 g14 b14 r15 g15 b15 r18 g18 b18 r19 g19 b19 a7 h7 a8 h8 a10 h10 a11 h11 a12 h12 a13 h13 a15 h15 a16 h16 a19 h19 a20 h20 a21 h21 a23 h23 a24 h24 a25 h25 a58 h58 a59 h59 f0 f1 f2 f3 f4 f5 f6 f7 tt
  clear f7
  have e150 : PT 150 = P_ar2 := pe150_19 hp
  have e219 : PT 219 = P_lnX := pe219_19 hp
  have e220 : PT 220 = P_hu1 := pe220_19 hp
  simp only [hF0, hF2, hF3, hF13, hFp_150, hFp_219, hFp_220, e150, e219, e220, P_ar2, P_lnX, P_hu1, den_s, den_c, Int.add_zero, List.map_cons, List.map_nil, g2, g3, g4, g5, g6, g14, g15, g18, g19, h7, h8, h10, h11, h12, h13, h15, h16, h19, h20, h21, h23, h24, h25, h58, h59] at f0 f1 f2 f3 f4 f5 f6 ⊢
  clear g2 g3 g4 g5 g6 g14 g15 g18 g19 h7 h8 h10 h11 h12 h13 h15 h16 h19 h20 h21 h23 h24 h25 h58 h59 e150 e219 e220 tt
  subst f2
  omega)
def w_toHush_1_4 : VC := (([(0, 23), (0, 49), (0, 8), (0, 10), (0, 8), (1, 6), (0, 6), (0, 8), (0, 9), (0, 49), (0, 49), ((-2147483648), 2147483647), ((-2147483648), 2147483647), (0, 5), (0, 5), (0, 49), (0, 49), ((-2147483648), 2147483647), (1, 32), (1, 1), (0, 49), (1, 32)]), [(13, [(some 21, 0), (none, 1), (some 14, 0)], []), (1, [(some 19, 0), (none, 0)], []), (219, [(some 19, 0), (some 18, 0), (some 2, 0), (some 3, 0), (some 4, 0), (some 5, 0), (some 6, 0), (none, 0)], [7, 8, 10, 11, 12, 13, 15, 16, 19, 20, 21, 23, 24, 25]), (13, [(some 18, 0), (none, 1), (some 14, 0)], []), (2, [(some 14, 0), (some 5, 0)], []), (150, [(some 15, 0), (some 2, 0), (some 3, 0), (some 4, 0), (some 5, 0), (some 6, 0)], [58, 59, 7, 8, 10, 11, 12, 13, 15, 16, 19, 20, 21, 23, 24, 25]), (220, [(some 14, 0), (some 2, 0), (some 3, 0), (some 4, 0), (some 5, 0), (some 6, 0)], [7, 8, 10, 11, 12, 13, 15, 16, 19, 20, 21, 23, 24, 25]), (3, [(some 5, 0), (some 14, 0)], []), (0, [(none, 0), (none, 0)], [])], (223, [(some 21, 0), (some 2, 0), (some 3, 0), (some 4, 0), (some 5, 0), (some 6, 0)], [7, 8, 10, 11, 12, 13, 15, 16, 19, 20, 21, 23, 24, 25]))
set_option maxRecDepth 20000 in
theorem v_toHush_1_4 {PT : PTy} (hp : HP19 PT) : vcOk PT w_toHush_1_4 := vc_iv [(2, 0, 8), (3, 0, 10), (4, 0, 8), (5, 1, 6), (6, 0, 6), (14, 0, 5), (15, 0, 49), (18, 1, 32), (19, 1, 1), (21, 1, 32)] [7, 8, 10, 11, 12, 13, 15, 16, 19, 20, 21, 23, 24, 25, 58, 59] (by decide +kernel) (fun ρ α => by
  intro r2 g2 b2 r3 g3 b3 r4 g4 b4 r5 g5 b5 r6 g6 b6 r14 g14 b14 r15 g15 b15 r18 g18 b18 r19 g19 b19 r21 g21 b21 a7 h7 a8 h8 a10 h10 a11 h11 a12 h12 a13 h13 a15 h15 a16 h16 a19 h19 a20 h20 a21 h21 a23 h23 a24 h24 a25 h25 a58 h58 a59 h59 f0 f1 f2 f3 f4 f5 f6 f7 f8 tt
  clear f1 f8
  have e150 : PT 150 = P_ar2 := pe150_19 hp
  have e219 : PT 219 = P_lnX := pe219_19 hp
  have e220 : PT 220 = P_hu1 := pe220_19 hp
  have e223 : PT 223 = P_hsX := pe223_19 hp
  simp only [hF2, hF3, hF13, hFp_150, hFp_219, hFp_220, hFp_223, e150, e219, e220, e223, P_ar2, P_lnX, P_hu1, P_hsX, den_s, den_c, Int.add_zero, List.map_cons, List.map_nil, g2, g3, g4, g5, g6, g14, g15, g18, g19, g21, h7, h8, h10, h11, h12, h13, h15, h16, h19, h20, h21, h23, h24, h25, h58, h59] at f0 f2 f3 f4 f5 f6 f7 ⊢
  clear g2 g3 g4 g5 g6 g14 g15 g18 g19 g21 h7 h8 h10 h11 h12 h13 h15 h16 h19 h20 h21 h23 h24 h25 h58 h59 e150 e219 e220 e223 tt
  subst f0
  subst f3
  have h0 : hqX r2 r3 r4 r5 r6 a7 a8 a10 a11 a12 a13 a15 a16 a19 a20 a21 a23 a24 a25 (mShl 1 r14) r19 := by
    first | exact f2 rfl | exact f2 trivial | exact f2
  rw [show r19 = 1 by omega] at h0
  exact ⟨1, r14, 0, Or.inr (Or.inl ⟨by first | rfl | trivial, by omega, by omega, f6, h0⟩), fun q => by exfalso; omega, fun _ => rfl, fun q => by exfalso; omega, fun q => by exfalso; omega⟩)
def w_toHush_2_0 : VC := ((bT ++ [(0, 6), (0, 49), (0, 49), ((-2147483648), 2147483647)]), [(3, [(some 14, 0), (some 5, 0)], []), (150, [(some 15, 0), (some 2, 0), (some 3, 0), (some 4, 0), (some 5, 0), (some 6, 0)], [58, 59, 7, 8, 10, 11, 12, 13, 15, 16, 19, 20, 21, 23, 24, 25]), (222, [(some 14, 0), (some 2, 0), (some 3, 0), (some 4, 0), (some 5, 0), (some 6, 0)], [7, 8, 10, 11, 12, 13, 15, 16, 19, 20, 21, 23, 24, 25]), (3, [(some 5, 0), (some 14, 0)], []), (0, [(none, 0), (none, 0)], [])], (223, [(none, (-1)), (some 2, 0), (some 3, 0), (some 4, 0), (some 5, 0), (some 6, 0)], [7, 8, 10, 11, 12, 13, 15, 16, 19, 20, 21, 23, 24, 25]))
set_option maxRecDepth 20000 in
theorem v_toHush_2_0 {PT : PTy} (hp : HP19 PT) : vcOk PT w_toHush_2_0 := vc_iv [(2, 0, 8), (3, 0, 10), (4, 0, 8), (5, 0, 6), (6, 0, 6), (14, 0, 6), (15, 0, 49)] [7, 8, 10, 11, 12, 13, 15, 16, 19, 20, 21, 23, 24, 25, 58, 59] (by decide +kernel) (fun ρ α => by
  intro r2 g2 b2 r3 g3 b3 r4 g4 b4 r5 g5 b5 r6 g6 b6 r14 g14 b14 r15 g15 b15 a7 h7 a8 h8 a10 h10 a11 h11 a12 h12 a13 h13 a15 h15 a16 h16 a19 h19 a20 h20 a21 h21 a23 h23 a24 h24 a25 h25 a58 h58 a59 h59 f0 f1 f2 f3 f4 tt
  clear f4
  have e150 : PT 150 = P_ar2 := pe150_19 hp
  have e222 : PT 222 = P_hu3 := pe222_19 hp
  have e223 : PT 223 = P_hsX := pe223_19 hp
  simp only [hF3, hFp_150, hFp_222, hFp_223, e150, e222, e223, P_ar2, P_hu3, P_hsX, den_s, den_c, Int.add_zero, List.map_cons, List.map_nil, g2, g3, g4, g5, g6, g14, g15, h7, h8, h10, h11, h12, h13, h15, h16, h19, h20, h21, h23, h24, h25, h58, h59] at f0 f1 f2 f3 ⊢
  clear g2 g3 g4 g5 g6 g14 g15 h7 h8 h10 h11 h12 h13 h15 h16 h19 h20 h21 h23 h24 h25 h58 h59 e150 e222 e223 tt
  have u := f2
  rw [show r14 = r5 by omega] at u
  exact ⟨-1, 0, 0, Or.inr (Or.inr (Or.inr ⟨by first | rfl | trivial, u⟩)), fun q => by exfalso; omega, fun q => by exfalso; omega, fun q => by exfalso; omega, fun _ => (by first | rfl | trivial)⟩)
def w_toHush_2_1 : VC := (([(0, 23), (0, 49), (0, 8), (0, 10), (0, 8), (1, 6), (0, 6), (0, 8), (0, 9), (0, 49), (0, 49), ((-2147483648), 2147483647), ((-2147483648), 2147483647), (0, 5), (0, 5), (0, 49), (0, 49), ((-2147483648), 2147483647)]), [(2, [(some 14, 0), (some 5, 0)], []), (150, [(some 15, 0), (some 2, 0), (some 3, 0), (some 4, 0), (some 5, 0), (some 6, 0)], [58, 59, 7, 8, 10, 11, 12, 13, 15, 16, 19, 20, 21, 23, 24, 25]), (222, [(some 14, 0), (some 2, 0), (some 3, 0), (some 4, 0), (some 5, 0), (some 6, 0)], [7, 8, 10, 11, 12, 13, 15, 16, 19, 20, 21, 23, 24, 25]), (3, [(some 5, 0), (some 14, 0)], []), (0, [(none, 0), (none, 0)], [])], (221, [(some 14, 0), (some 14, 1), (some 2, 0), (some 3, 0), (some 4, 0), (some 5, 0), (some 6, 0)], [7, 8, 10, 11, 12, 13, 15, 16, 19, 20, 21, 23, 24, 25]))
theorem pe221_19 {PT : PTy} (hp : HP19 PT) : PT 221 = P_hu2 := hp.2.2.2.1
set_option maxRecDepth 20000 in
theorem v_toHush_2_1 {PT : PTy} (hp : HP19 PT) : vcOk PT w_toHush_2_1 := vc_iv [(2, 0, 8), (3, 0, 10), (4, 0, 8), (5, 1, 6), (6, 0, 6), (14, 0, 5), (15, 0, 49)] [7, 8, 10, 11, 12, 13, 15, 16, 19, 20, 21, 23, 24, 25, 58, 59] (by decide +kernel) (fun ρ α => by
  intro r2 g2 b2 r3 g3 b3 r4 g4 b4 r5 g5 b5 r6 g6 b6 r14 g14 b14 r15 g15 b15 a7 h7 a8 h8 a10 h10 a11 h11 a12 h12 a13 h13 a15 h15 a16 h16 a19 h19 a20 h20 a21 h21 a23 h23 a24 h24 a25 h25 a58 h58 a59 h59 f0 f1 f2 f3 f4 tt
  clear f4
  have e150 : PT 150 = P_ar2 := pe150_19 hp
  have e221 : PT 221 = P_hu2 := pe221_19 hp
  have e222 : PT 222 = P_hu3 := pe222_19 hp
  simp only [hF2, hF3, hFp_150, hFp_221, hFp_222, e150, e221, e222, P_ar2, P_hu2, P_hu3, den_s, den_c, Int.add_zero, List.map_cons, List.map_nil, g2, g3, g4, g5, g6, g14, g15, h7, h8, h10, h11, h12, h13, h15, h16, h19, h20, h21, h23, h24, h25, h58, h59] at f0 f1 f2 f3 ⊢
  clear g2 g3 g4 g5 g6 g14 g15 h7 h8 h10 h11 h12 h13 h15 h16 h19 h20 h21 h23 h24 h25 h58 h59 e150 e221 e222 tt
  obtain ⟨u1, u2⟩ := f2
  exact ⟨u1, u2, fun k h1 h2 => by exfalso; omega⟩)
def w_toHush_2_2 : VC := (([(0, 23), (0, 49), (0, 8), (0, 10), (0, 8), (1, 6), (0, 6), (0, 8), (0, 9), (0, 49), (0, 49), ((-2147483648), 2147483647), ((-2147483648), 2147483647), (0, 5), (0, 5), (0, 49), (0, 49), ((-2147483648), 2147483647)]), [(2, [(some 14, 0), (some 5, 0)], []), (150, [(some 15, 0), (some 2, 0), (some 3, 0), (some 4, 0), (some 5, 0), (some 6, 0)], [58, 59, 7, 8, 10, 11, 12, 13, 15, 16, 19, 20, 21, 23, 24, 25]), (222, [(some 14, 0), (some 2, 0), (some 3, 0), (some 4, 0), (some 5, 0), (some 6, 0)], [7, 8, 10, 11, 12, 13, 15, 16, 19, 20, 21, 23, 24, 25]), (3, [(some 5, 0), (some 14, 0)], []), (0, [(none, 0), (none, 0)], [])], (3, [(some 5, 0), (some 14, 1)], []))
set_option maxRecDepth 20000 in
theorem v_toHush_2_2 {PT : PTy} (hp : HP19 PT) : vcOk PT w_toHush_2_2 := vc_iv [(2, 0, 8), (3, 0, 10), (4, 0, 8), (5, 1, 6), (6, 0, 6), (14, 0, 5), (15, 0, 49)] [7, 8, 10, 11, 12, 13, 15, 16, 19, 20, 21, 23, 24, 25, 58, 59] (by decide +kernel) (fun ρ α => by
  intro r2 g2 b2 r3 g3 b3 r4 g4 b4 r5 g5 b5 r6 g6 b6 r14 g14 b14 r15 g15 b15 a7 h7 a8 h8 a10 h10 a11 h11 a12 h12 a13 h13 a15 h15 a16 h16 a19 h19 a20 h20 a21 h21 a23 h23 a24 h24 a25 h25 a58 h58 a59 h59 f0 f1 f2 f3 f4 tt
  clear f4
  have e150 : PT 150 = P_ar2 := pe150_19 hp
  have e222 : PT 222 = P_hu3 := pe222_19 hp
  simp only [hF2, hF3, hFp_150, hFp_222, e150, e222, P_ar2, P_hu3, den_s, den_c, Int.add_zero, List.map_cons, List.map_nil, g2, g3, g4, g5, g6, g14, g15, h7, h8, h10, h11, h12, h13, h15, h16, h19, h20, h21, h23, h24, h25, h58, h59] at f0 f1 f2 f3 ⊢
  clear g2 g3 g4 g5 g6 g14 g15 h7 h8 h10 h11 h12 h13 h15 h16 h19 h20 h21 h23 h24 h25 h58 h59 e150 e222 tt
  omega)
def w_toHush_2_3 : VC := (([(0, 23), (0, 49), (0, 8), (0, 10), (0, 8), (1, 6), (0, 6), (0, 8), (0, 9), (0, 49), (0, 49), ((-2147483648), 2147483647), ((-2147483648), 2147483647), (0, 5), (0, 5), (0, 49), (0, 49), ((-2147483648), 2147483647)]), [(2, [(some 14, 0), (some 5, 0)], []), (150, [(some 15, 0), (some 2, 0), (some 3, 0), (some 4, 0), (some 5, 0), (some 6, 0)], [58, 59, 7, 8, 10, 11, 12, 13, 15, 16, 19, 20, 21, 23, 24, 25]), (222, [(some 14, 0), (some 2, 0), (some 3, 0), (some 4, 0), (some 5, 0), (some 6, 0)], [7, 8, 10, 11, 12, 13, 15, 16, 19, 20, 21, 23, 24, 25]), (3, [(some 5, 0), (some 14, 0)], []), (0, [(none, 0), (none, 0)], [])], (2, [(some 14, 0), (some 14, 1)], []))
set_option maxRecDepth 20000 in
theorem v_toHush_2_3 {PT : PTy} (hp : HP19 PT) : vcOk PT w_toHush_2_3 := vc_iv [(2, 0, 8), (3, 0, 10), (4, 0, 8), (5, 1, 6), (6, 0, 6), (14, 0, 5), (15, 0, 49)] [7, 8, 10, 11, 12, 13, 15, 16, 19, 20, 21, 23, 24, 25, 58, 59] (by decide +kernel) (fun ρ α => by
  intro r2 g2 b2 r3 g3 b3 r4 g4 b4 r5 g5 b5 r6 g6 b6 r14 g14 b14 r15 g15 b15 a7 h7 a8 h8 a10 h10 a11 h11 a12 h12 a13 h13 a15 h15 a16 h16 a19 h19 a20 h20 a21 h21 a23 h23 a24 h24 a25 h25 a58 h58 a59 h59 f0 f1 f2 f3 f4 tt
  clear f4
  have e150 : PT 150 = P_ar2 := pe150_19 hp
  have e222 : PT 222 = P_hu3 := pe222_19 hp
  simp only [hF2, hF3, hFp_150, hFp_222, e150, e222, P_ar2, P_hu3, den_s, den_c, Int.add_zero, List.map_cons, List.map_nil, g2, g3, g4, g5, g6, g14, g15, h7, h8, h10, h11, h12, h13, h15, h16, h19, h20, h21, h23, h24, h25, h58, h59] at f0 f1 f2 f3 ⊢
  clear g2 g3 g4 g5 g6 g14 g15 h7 h8 h10 h11 h12 h13 h15 h16 h19 h20 h21 h23 h24 h25 h58 h59 e150 e222 tt
  omega)
def w_toHush_3_0 : VC := (([(0, 23), (0, 49), (0, 8), (0, 10), (0, 8), (1, 6), (0, 6), (0, 8), (0, 9), (0, 49), (0, 49), ((-2147483648), 2147483647), ((-2147483648), 2147483647), (0, 5), (0, 5), (1, 6), (0, 49), (0, 49), ((-2147483648), 2147483647)]), [(3, [(some 15, 0), (some 5, 0)], []), (150, [(some 16, 0), (some 2, 0), (some 3, 0), (some 4, 0), (some 5, 0), (some 6, 0)], [58, 59, 7, 8, 10, 11, 12, 13, 15, 16, 19, 20, 21, 23, 24, 25]), (221, [(some 14, 0), (some 15, 0), (some 2, 0), (some 3, 0), (some 4, 0), (some 5, 0), (some 6, 0)], [7, 8, 10, 11, 12, 13, 15, 16, 19, 20, 21, 23, 24, 25]), (3, [(some 5, 0), (some 15, 0)], []), (2, [(some 14, 0), (some 15, 0)], []), (2, [(some 14, 0), (some 5, 0)], []), (0, [(none, 0), (none, 0)], [])], (222, [(some 14, 1), (some 2, 0), (some 3, 0), (some 4, 0), (some 5, 0), (some 6, 0)], [7, 8, 10, 11, 12, 13, 15, 16, 19, 20, 21, 23, 24, 25]))
set_option maxRecDepth 20000 in
theorem v_toHush_3_0 {PT : PTy} (hp : HP19 PT) : vcOk PT w_toHush_3_0 := vc_iv [(2, 0, 8), (3, 0, 10), (4, 0, 8), (5, 1, 6), (6, 0, 6), (14, 0, 5), (15, 1, 6), (16, 0, 49)] [7, 8, 10, 11, 12, 13, 15, 16, 19, 20, 21, 23, 24, 25, 58, 59] (by decide +kernel) (fun ρ α => by
  intro r2 g2 b2 r3 g3 b3 r4 g4 b4 r5 g5 b5 r6 g6 b6 r14 g14 b14 r15 g15 b15 r16 g16 b16 a7 h7 a8 h8 a10 h10 a11 h11 a12 h12 a13 h13 a15 h15 a16 h16 a19 h19 a20 h20 a21 h21 a23 h23 a24 h24 a25 h25 a58 h58 a59 h59 f0 f1 f2 f3 f4 f5 f6 tt
  clear f6
  have e150 : PT 150 = P_ar2 := pe150_19 hp
  have e221 : PT 221 = P_hu2 := pe221_19 hp
  have e222 : PT 222 = P_hu3 := pe222_19 hp
  simp only [hF2, hF3, hFp_150, hFp_221, hFp_222, e150, e221, e222, P_ar2, P_hu2, P_hu3, den_s, den_c, Int.add_zero, List.map_cons, List.map_nil, g2, g3, g4, g5, g6, g14, g15, g16, h7, h8, h10, h11, h12, h13, h15, h16, h19, h20, h21, h23, h24, h25, h58, h59] at f0 f1 f2 f3 f4 f5 ⊢
  clear g2 g3 g4 g5 g6 g14 g15 g16 h7 h8 h10 h11 h12 h13 h15 h16 h19 h20 h21 h23 h24 h25 h58 h59 e150 e221 e222 tt
  obtain ⟨u1, u2, u3⟩ := f2
  exact ⟨u1, fun j k h1 h2 h3 h4 => by
    by_cases q : j = r14
    · subst q; exact u3 k h3 (by omega)
    · exact u2 j k h1 (by omega) h3 h4⟩)
def w_toHush_3_1 : VC := (([(0, 23), (0, 49), (0, 8), (0, 10), (0, 8), (1, 6), (0, 6), (0, 8), (0, 9), (0, 49), (0, 49), ((-2147483648), 2147483647), ((-2147483648), 2147483647), (0, 5), (0, 5), (1, 6), (0, 49), (0, 49), ((-2147483648), 2147483647)]), [(3, [(some 15, 0), (some 5, 0)], []), (150, [(some 16, 0), (some 2, 0), (some 3, 0), (some 4, 0), (some 5, 0), (some 6, 0)], [58, 59, 7, 8, 10, 11, 12, 13, 15, 16, 19, 20, 21, 23, 24, 25]), (221, [(some 14, 0), (some 15, 0), (some 2, 0), (some 3, 0), (some 4, 0), (some 5, 0), (some 6, 0)], [7, 8, 10, 11, 12, 13, 15, 16, 19, 20, 21, 23, 24, 25]), (3, [(some 5, 0), (some 15, 0)], []), (2, [(some 14, 0), (some 15, 0)], []), (2, [(some 14, 0), (some 5, 0)], []), (0, [(none, 0), (none, 0)], [])], (3, [(some 5, 0), (some 14, 1)], []))
set_option maxRecDepth 20000 in
theorem v_toHush_3_1 {PT : PTy} (hp : HP19 PT) : vcOk PT w_toHush_3_1 := vc_iv [(2, 0, 8), (3, 0, 10), (4, 0, 8), (5, 1, 6), (6, 0, 6), (14, 0, 5), (15, 1, 6), (16, 0, 49)] [7, 8, 10, 11, 12, 13, 15, 16, 19, 20, 21, 23, 24, 25, 58, 59] (by decide +kernel) (fun ρ α => by
  intro r2 g2 b2 r3 g3 b3 r4 g4 b4 r5 g5 b5 r6 g6 b6 r14 g14 b14 r15 g15 b15 r16 g16 b16 a7 h7 a8 h8 a10 h10 a11 h11 a12 h12 a13 h13 a15 h15 a16 h16 a19 h19 a20 h20 a21 h21 a23 h23 a24 h24 a25 h25 a58 h58 a59 h59 f0 f1 f2 f3 f4 f5 f6 tt
  clear f6
  have e150 : PT 150 = P_ar2 := pe150_19 hp
  have e221 : PT 221 = P_hu2 := pe221_19 hp
  simp only [hF2, hF3, hFp_150, hFp_221, e150, e221, P_ar2, P_hu2, den_s, den_c, Int.add_zero, List.map_cons, List.map_nil, g2, g3, g4, g5, g6, g14, g15, g16, h7, h8, h10, h11, h12, h13, h15, h16, h19, h20, h21, h23, h24, h25, h58, h59] at f0 f1 f2 f3 f4 f5 ⊢
  clear g2 g3 g4 g5 g6 g14 g15 g16 h7 h8 h10 h11 h12 h13 h15 h16 h19 h20 h21 h23 h24 h25 h58 h59 e150 e221 tt
  omega)
def w_toHush_3_2 : VC := (([(0, 23), (0, 49), (0, 8), (0, 10), (0, 8), (2, 6), (0, 6), (0, 8), (0, 9), (0, 49), (0, 49), ((-2147483648), 2147483647), ((-2147483648), 2147483647), (0, 5), (0, 5), (1, 5), (0, 49), (0, 49), ((-2147483648), 2147483647), (1, 32), (2, 32), ((-2147483648), 2147483647), (0, 0), (0, 49)]), [(0, [(some 22, 0), (none, 0)], []), (219, [(some 22, 0), (some 21, 0), (some 2, 0), (some 3, 0), (some 4, 0), (some 5, 0), (some 6, 0), (none, 0)], [7, 8, 10, 11, 12, 13, 15, 16, 19, 20, 21, 23, 24, 25]), (11, [(some 21, 0), (some 19, 0), (some 20, 0)], []), (13, [(some 20, 0), (none, 1), (some 15, 0)], []), (13, [(some 19, 0), (none, 1), (some 14, 0)], []), (2, [(some 15, 0), (some 5, 0)], []), (150, [(some 16, 0), (some 2, 0), (some 3, 0), (some 4, 0), (some 5, 0), (some 6, 0)], [58, 59, 7, 8, 10, 11, 12, 13, 15, 16, 19, 20, 21, 23, 24, 25]), (221, [(some 14, 0), (some 15, 0), (some 2, 0), (some 3, 0), (some 4, 0), (some 5, 0), (some 6, 0)], [7, 8, 10, 11, 12, 13, 15, 16, 19, 20, 21, 23, 24, 25]), (3, [(some 5, 0), (some 15, 0)], []), (2, [(some 14, 0), (some 15, 0)], []), (2, [(some 14, 0), (some 5, 0)], []), (0, [(none, 0), (none, 0)], [])], (221, [(some 14, 0), (some 15, 1), (some 2, 0), (some 3, 0), (some 4, 0), (some 5, 0), (some 6, 0)], [7, 8, 10, 11, 12, 13, 15, 16, 19, 20, 21, 23, 24, 25]))
set_option maxRecDepth 20000 in
theorem v_toHush_3_2 {PT : PTy} (hp : HP19 PT) : vcOk PT w_toHush_3_2 := vc_iv [(2, 0, 8), (3, 0, 10), (4, 0, 8), (5, 2, 6), (6, 0, 6), (14, 0, 5), (15, 1, 5), (16, 0, 49), (19, 1, 32), (20, 2, 32), (21, (-2147483648), 2147483647), (22, 0, 0)] [7, 8, 10, 11, 12, 13, 15, 16, 19, 20, 21, 23, 24, 25, 58, 59] (by decide +kernel) (fun ρ α => by
  intro r2 g2 b2 r3 g3 b3 r4 g4 b4 r5 g5 b5 r6 g6 b6 r14 g14 b14 r15 g15 b15 r16 g16 b16 r19 g19 b19 r20 g20 b20 r21 g21 b21 r22 g22 b22 a7 h7 a8 h8 a10 h10 a11 h11 a12 h12 a13 h13 a15 h15 a16 h16 a19 h19 a20 h20 a21 h21 a23 h23 a24 h24 a25 h25 a58 h58 a59 h59 f0 f1 f2 f3 f4 f5 f6 f7 f8 f9 f10 f11 tt
  clear f11
  have e150 : PT 150 = P_ar2 := pe150_19 hp
  have e219 : PT 219 = P_lnX := pe219_19 hp
  have e221 : PT 221 = P_hu2 := pe221_19 hp
  simp only [hF0, hF2, hF3, hF11, hF13, hFp_150, hFp_219, hFp_221, e150, e219, e221, P_ar2, P_lnX, P_hu2, den_s, den_c, Int.add_zero, List.map_cons, List.map_nil, g2, g3, g4, g5, g6, g14, g15, g16, g19, g20, g21, g22, h7, h8, h10, h11, h12, h13, h15, h16, h19, h20, h21, h23, h24, h25, h58, h59] at f0 f1 f2 f3 f4 f5 f6 f7 f8 f9 f10 ⊢
  clear g2 g3 g4 g5 g6 g14 g15 g16 g19 g20 g21 g22 h7 h8 h10 h11 h12 h13 h15 h16 h19 h20 h21 h23 h24 h25 h58 h59 e150 e219 e221 tt
  subst f2
  subst f3
  subst f4
  have h0 : hqX r2 r3 r4 r5 r6 a7 a8 a10 a11 a12 a13 a15 a16 a19 a20 a21 a23 a24 a25 (mOr (mShl 1 r14) (mShl 1 r15)) r22 := by
    first | exact f1 rfl | exact f1 trivial | exact f1
  rw [show r22 = 0 by omega] at h0
  obtain ⟨u1, u2, u3⟩ := f7
  exact ⟨u1, u2, fun k h1 h2 => by
    by_cases q : k = r15
    · subst q; exact h0
    · exact u3 k h1 (by omega)⟩)
def w_toHush_3_3 : VC := (([(0, 23), (0, 49), (0, 8), (0, 10), (0, 8), (2, 6), (0, 6), (0, 8), (0, 9), (0, 49), (0, 49), ((-2147483648), 2147483647), ((-2147483648), 2147483647), (0, 5), (0, 5), (1, 5), (0, 49), (0, 49), ((-2147483648), 2147483647), (1, 32), (2, 32), ((-2147483648), 2147483647), (0, 0), (0, 49)]), [(0, [(some 22, 0), (none, 0)], []), (219, [(some 22, 0), (some 21, 0), (some 2, 0), (some 3, 0), (some 4, 0), (some 5, 0), (some 6, 0), (none, 0)], [7, 8, 10, 11, 12, 13, 15, 16, 19, 20, 21, 23, 24, 25]), (11, [(some 21, 0), (some 19, 0), (some 20, 0)], []), (13, [(some 20, 0), (none, 1), (some 15, 0)], []), (13, [(some 19, 0), (none, 1), (some 14, 0)], []), (2, [(some 15, 0), (some 5, 0)], []), (150, [(some 16, 0), (some 2, 0), (some 3, 0), (some 4, 0), (some 5, 0), (some 6, 0)], [58, 59, 7, 8, 10, 11, 12, 13, 15, 16, 19, 20, 21, 23, 24, 25]), (221, [(some 14, 0), (some 15, 0), (some 2, 0), (some 3, 0), (some 4, 0), (some 5, 0), (some 6, 0)], [7, 8, 10, 11, 12, 13, 15, 16, 19, 20, 21, 23, 24, 25]), (3, [(some 5, 0), (some 15, 0)], []), (2, [(some 14, 0), (some 15, 0)], []), (2, [(some 14, 0), (some 5, 0)], []), (0, [(none, 0), (none, 0)], [])], (3, [(some 5, 0), (some 15, 1)], []))
set_option maxRecDepth 20000 in
theorem v_toHush_3_3 {PT : PTy} (hp : HP19 PT) : vcOk PT w_toHush_3_3 := vc_iv [(2, 0, 8), (3, 0, 10), (4, 0, 8), (5, 2, 6), (6, 0, 6), (14, 0, 5), (15, 1, 5), (16, 0, 49), (19, 1, 32), (20, 2, 32), (21, (-2147483648), 2147483647), (22, 0, 0)] [7, 8, 10, 11, 12, 13, 15, 16, 19, 20, 21, 23, 24, 25, 58, 59] (by decide +kernel) (fun ρ α => by
  intro r2 g2 b2 r3 g3 b3 r4 g4 b4 r5 g5 b5 r6 g6 b6 r14 g14 b14 r15 g15 b15 r16 g16 b16 r19 g19 b19 r20 g20 b20 r21 g21 b21 r22 g22 b22 a7 h7 a8 h8 a10 h10 a11 h11 a12 h12 a13 h13 a15 h15 a16 h16 a19 h19 a20 h20 a21 h21 a23 h23 a24 h24 a25 h25 a58 h58 a59 h59 f0 f1 f2 f3 f4 f5 f6 f7 f8 f9 f10 f11 tt
  clear f11
  have e150 : PT 150 = P_ar2 := pe150_19 hp
  have e219 : PT 219 = P_lnX := pe219_19 hp
  have e221 : PT 221 = P_hu2 := pe221_19 hp
  simp only [hF0, hF2, hF3, hF11, hF13, hFp_150, hFp_219, hFp_221, e150, e219, e221, P_ar2, P_lnX, P_hu2, den_s, den_c, Int.add_zero, List.map_cons, List.map_nil, g2, g3, g4, g5, g6, g14, g15, g16, g19, g20, g21, g22, h7, h8, h10, h11, h12, h13, h15, h16, h19, h20, h21, h23, h24, h25, h58, h59] at f0 f1 f2 f3 f4 f5 f6 f7 f8 f9 f10 ⊢
  clear g2 g3 g4 g5 g6 g14 g15 g16 g19 g20 g21 g22 h7 h8 h10 h11 h12 h13 h15 h16 h19 h20 h21 h23 h24 h25 h58 h59 e150 e219 e221 tt
  subst f2
  subst f3
  subst f4
  omega)
def w_toHush_3_4 : VC := (([(0, 23), (0, 49), (0, 8), (0, 10), (0, 8), (2, 6), (0, 6), (0, 8), (0, 9), (0, 49), (0, 49), ((-2147483648), 2147483647), ((-2147483648), 2147483647), (0, 5), (0, 5), (1, 5), (0, 49), (0, 49), ((-2147483648), 2147483647), (1, 32), (2, 32), ((-2147483648), 2147483647), (0, 0), (0, 49)]), [(0, [(some 22, 0), (none, 0)], []), (219, [(some 22, 0), (some 21, 0), (some 2, 0), (some 3, 0), (some 4, 0), (some 5, 0), (some 6, 0), (none, 0)], [7, 8, 10, 11, 12, 13, 15, 16, 19, 20, 21, 23, 24, 25]), (11, [(some 21, 0), (some 19, 0), (some 20, 0)], []), (13, [(some 20, 0), (none, 1), (some 15, 0)], []), (13, [(some 19, 0), (none, 1), (some 14, 0)], []), (2, [(some 15, 0), (some 5, 0)], []), (150, [(some 16, 0), (some 2, 0), (some 3, 0), (some 4, 0), (some 5, 0), (some 6, 0)], [58, 59, 7, 8, 10, 11, 12, 13, 15, 16, 19, 20, 21, 23, 24, 25]), (221, [(some 14, 0), (some 15, 0), (some 2, 0), (some 3, 0), (some 4, 0), (some 5, 0), (some 6, 0)], [7, 8, 10, 11, 12, 13, 15, 16, 19, 20, 21, 23, 24, 25]), (3, [(some 5, 0), (some 15, 0)], []), (2, [(some 14, 0), (some 15, 0)], []), (2, [(some 14, 0), (some 5, 0)], []), (0, [(none, 0), (none, 0)], [])], (2, [(some 14, 0), (some 15, 1)], []))
set_option maxRecDepth 20000 in
theorem v_toHush_3_4 {PT : PTy} (hp : HP19 PT) : vcOk PT w_toHush_3_4 := vc_iv [(2, 0, 8), (3, 0, 10), (4, 0, 8), (5, 2, 6), (6, 0, 6), (14, 0, 5), (15, 1, 5), (16, 0, 49), (19, 1, 32), (20, 2, 32), (21, (-2147483648), 2147483647), (22, 0, 0)] [7, 8, 10, 11, 12, 13, 15, 16, 19, 20, 21, 23, 24, 25, 58, 59] (by decide +kernel) (fun ρ α => by
  intro r2 g2 b2 r3 g3 b3 r4 g4 b4 r5 g5 b5 r6 g6 b6 r14 g14 b14 r15 g15 b15 r16 g16 b16 r19 g19 b19 r20 g20 b20 r21 g21 b21 r22 g22 b22 a7 h7 a8 h8 a10 h10 a11 h11 a12 h12 a13 h13 a15 h15 a16 h16 a19 h19 a20 h20 a21 h21 a23 h23 a24 h24 a25 h25 a58 h58 a59 h59 f0 f1 f2 f3 f4 f5 f6 f7 f8 f9 f10 f11 tt
  clear f11
  have e150 : PT 150 = P_ar2 := pe150_19 hp
  have e219 : PT 219 = P_lnX := pe219_19 hp
  have e221 : PT 221 = P_hu2 := pe221_19 hp
  simp only [hF0, hF2, hF3, hF11, hF13, hFp_150, hFp_219, hFp_221, e150, e219, e221, P_ar2, P_lnX, P_hu2, den_s, den_c, Int.add_zero, List.map_cons, List.map_nil, g2, g3, g4, g5, g6, g14, g15, g16, g19, g20, g21, g22, h7, h8, h10, h11, h12, h13, h15, h16, h19, h20, h21, h23, h24, h25, h58, h59] at f0 f1 f2 f3 f4 f5 f6 f7 f8 f9 f10 ⊢
  clear g2 g3 g4 g5 g6 g14 g15 g16 g19 g20 g21 g22 h7 h8 h10 h11 h12 h13 h15 h16 h19 h20 h21 h23 h24 h25 h58 h59 e150 e219 e221 tt
  subst f2
  subst f3
  subst f4
  omega)
def w_toHush_3_5 : VC := (([(0, 23), (0, 49), (0, 8), (0, 10), (0, 8), (2, 6), (0, 6), (0, 8), (0, 9), (0, 49), (0, 49), ((-2147483648), 2147483647), ((-2147483648), 2147483647), (0, 5), (0, 5), (1, 5), (0, 49), (0, 49), ((-2147483648), 2147483647), (1, 32), (2, 32), ((-2147483648), 2147483647), (1, 1), (0, 49), (1, 32), (2, 32), ((-2147483648), 2147483647)]), [(11, [(some 26, 0), (some 24, 0), (some 25, 0)], []), (13, [(some 25, 0), (none, 1), (some 15, 0)], []), (13, [(some 24, 0), (none, 1), (some 14, 0)], []), (1, [(some 22, 0), (none, 0)], []), (219, [(some 22, 0), (some 21, 0), (some 2, 0), (some 3, 0), (some 4, 0), (some 5, 0), (some 6, 0), (none, 0)], [7, 8, 10, 11, 12, 13, 15, 16, 19, 20, 21, 23, 24, 25]), (11, [(some 21, 0), (some 19, 0), (some 20, 0)], []), (13, [(some 20, 0), (none, 1), (some 15, 0)], []), (13, [(some 19, 0), (none, 1), (some 14, 0)], []), (2, [(some 15, 0), (some 5, 0)], []), (150, [(some 16, 0), (some 2, 0), (some 3, 0), (some 4, 0), (some 5, 0), (some 6, 0)], [58, 59, 7, 8, 10, 11, 12, 13, 15, 16, 19, 20, 21, 23, 24, 25]), (221, [(some 14, 0), (some 15, 0), (some 2, 0), (some 3, 0), (some 4, 0), (some 5, 0), (some 6, 0)], [7, 8, 10, 11, 12, 13, 15, 16, 19, 20, 21, 23, 24, 25]), (3, [(some 5, 0), (some 15, 0)], []), (2, [(some 14, 0), (some 15, 0)], []), (2, [(some 14, 0), (some 5, 0)], []), (0, [(none, 0), (none, 0)], [])], (223, [(some 26, 0), (some 2, 0), (some 3, 0), (some 4, 0), (some 5, 0), (some 6, 0)], [7, 8, 10, 11, 12, 13, 15, 16, 19, 20, 21, 23, 24, 25]))
set_option maxRecDepth 20000 in
theorem v_toHush_3_5 {PT : PTy} (hp : HP19 PT) : vcOk PT w_toHush_3_5 := vc_iv [(2, 0, 8), (3, 0, 10), (4, 0, 8), (5, 2, 6), (6, 0, 6), (14, 0, 5), (15, 1, 5), (16, 0, 49), (19, 1, 32), (20, 2, 32), (21, (-2147483648), 2147483647), (22, 1, 1), (24, 1, 32), (25, 2, 32), (26, (-2147483648), 2147483647)] [7, 8, 10, 11, 12, 13, 15, 16, 19, 20, 21, 23, 24, 25, 58, 59] (by decide +kernel) (fun ρ α => by
  intro r2 g2 b2 r3 g3 b3 r4 g4 b4 r5 g5 b5 r6 g6 b6 r14 g14 b14 r15 g15 b15 r16 g16 b16 r19 g19 b19 r20 g20 b20 r21 g21 b21 r22 g22 b22 r24 g24 b24 r25 g25 b25 r26 g26 b26 a7 h7 a8 h8 a10 h10 a11 h11 a12 h12 a13 h13 a15 h15 a16 h16 a19 h19 a20 h20 a21 h21 a23 h23 a24 h24 a25 h25 a58 h58 a59 h59 f0 f1 f2 f3 f4 f5 f6 f7 f8 f9 f10 f11 f12 f13 f14 tt
  clear f3 f14
  have e150 : PT 150 = P_ar2 := pe150_19 hp
  have e219 : PT 219 = P_lnX := pe219_19 hp
  have e221 : PT 221 = P_hu2 := pe221_19 hp
  have e223 : PT 223 = P_hsX := pe223_19 hp
  simp only [hF2, hF3, hF11, hF13, hFp_150, hFp_219, hFp_221, hFp_223, e150, e219, e221, e223, P_ar2, P_lnX, P_hu2, P_hsX, den_s, den_c, Int.add_zero, List.map_cons, List.map_nil, g2, g3, g4, g5, g6, g14, g15, g16, g19, g20, g21, g22, g24, g25, g26, h7, h8, h10, h11, h12, h13, h15, h16, h19, h20, h21, h23, h24, h25, h58, h59] at f0 f1 f2 f4 f5 f6 f7 f8 f9 f10 f11 f12 f13 ⊢
  clear g2 g3 g4 g5 g6 g14 g15 g16 g19 g20 g21 g22 g24 g25 g26 h7 h8 h10 h11 h12 h13 h15 h16 h19 h20 h21 h23 h24 h25 h58 h59 e150 e219 e221 e223 tt
  subst f0
  subst f1
  subst f2
  subst f5
  subst f6
  subst f7
  have h0 : hqX r2 r3 r4 r5 r6 a7 a8 a10 a11 a12 a13 a15 a16 a19 a20 a21 a23 a24 a25 (mOr (mShl 1 r14) (mShl 1 r15)) r22 := by
    first | exact f4 rfl | exact f4 trivial | exact f4
  rw [show r22 = 1 by omega] at h0
  exact ⟨2, r14, r15, Or.inr (Or.inr (Or.inl ⟨by first | rfl | trivial, by omega, by omega, by omega, f10, h0⟩)), fun q => by exfalso; omega, fun q => by exfalso; omega, fun _ => rfl, fun q => by exfalso; omega⟩)
set_option maxRecDepth 1000000 in
theorem k_toHush {PT : PTy} (hp : HP19 PT) : wfX c_toHush = true ∧ xcOk PT c_toHush := xctr (xl (k_arrange14 hp.1.1.1.1.1.1.1.1.1.1.1.1.1.1.1.1) (xl (k_lnNaked hp) (xl0))) c_toHush 43 mX6_liesToHush rfl h_toHush (by decide +kernel) (by decide +kernel) (by decide) (vcs_by [w_toHush_0_0, w_toHush_0_1, w_toHush_0_2, w_toHush_0_3, w_toHush_0_4, w_toHush_0_5] (by decide +kernel) (vc (v_toHush_0_0 hp) (vc (v_toHush_0_1 hp) (vc (v_toHush_0_2 hp) (vc (v_toHush_0_3 hp) (vc (v_toHush_0_4 hp) (vc (v_toHush_0_5 hp) vn))))))) (fmc (vcs_by [w_toHush_1_0, w_toHush_1_1, w_toHush_1_2, w_toHush_1_3, w_toHush_1_4] (by decide +kernel) (vc (v_toHush_1_0 hp) (vc (v_toHush_1_1 hp) (vc (v_toHush_1_2 hp) (vc (v_toHush_1_3 hp) (vc (v_toHush_1_4 hp) vn)))))) (fmc (vcs_by [w_toHush_2_0, w_toHush_2_1, w_toHush_2_2, w_toHush_2_3] (by decide +kernel) (vc (v_toHush_2_0 hp) (vc (v_toHush_2_1 hp) (vc (v_toHush_2_2 hp) (vc (v_toHush_2_3 hp) vn))))) (fmc (vcs_by [w_toHush_3_0, w_toHush_3_1, w_toHush_3_2, w_toHush_3_3, w_toHush_3_4, w_toHush_3_5] (by decide +kernel) (vc (v_toHush_3_0 hp) (vc (v_toHush_3_1 hp) (vc (v_toHush_3_2 hp) (vc (v_toHush_3_3 hp) (vc (v_toHush_3_4 hp) (vc (v_toHush_3_5 hp) vn))))))) fmn)))
def c_isHushed : XC := (166, 5, (bY ++ [((-2147483648), 2147483647)]), [.inr (.inl 0), .inl (some 13, 0)], gY2, [], [((bY ++ [((-2147483648), 2147483647), (0, 1)]), some (.inl (some 14, 0)), (hst gY2 [(0, .inr (.inr (.inr (7, [.inr (.inl 1), .inr (.inl 2), .inl (some 2, 0), .inr (.inl 3), .inr (.inl 4), .inl (some 3, 0), .inr (.inl 5), .inr (.inl 6), .inr (.inl 7), .inr (.inl 8), .inl (some 4, 0), .inr (.inl 9), .inr (.inl 10), .inl (some 5, 0), .inr (.inl 11), .inr (.inl 12), .inr (.inl 13), .inl (some 6, 0), .inr (.inl 14), .inr (.inl 15), .inr (.inl 16), .inl (some 8, 0), .inl (some 9, 0), .inr (.inl 17), .inr (.inl 18), .inl (some 10, 0), .inl (some 13, 0), .inr (.inl 19), .inr (.inl 20), .inr (.inl 21), .inr (.inl 22), .inr (.inl 23), .inr (.inl 24), .inr (.inl 25), .inl (some 7, 0), .inr (.inl 26), .inr (.inl 27), .inr (.inl 28), .inr (.inl 29), .inr (.inl 30), .inr (.inl 31), .inr (.inl 32), .inr (.inl 33), .inr (.inl 34), .inl (some 12, 0)]))))]), (ansT 35 [(19, 35), (20, 36), (21, 37), (22, 38), (23, 39), (24, 40)]), 41, [(224, [(some 14, 0), (some 13, 0), (some 2, 0), (some 3, 0), (some 9, 0), (some 5, 0), (some 6, 0), (some 8, 0), (some 10, 0)], [3, 4, 5, 6, 7, 8, 17, 18, 11, 12, 13, 14, 15, 16])])])
def h_isHushed : List XH := []
def w_isHushed_0_0 : VC := ((bY ++ [((-2147483648), 2147483647), ((-2147483648), 2147483647)]), [(1, [(some 14, 0), (none, 0)], []), (172, [(some 14, 0), (some 2, 0), (none, 23)], [38]), (104, [(none, 24), (some 2, 0), (some 8, 0), (some 3, 0), (some 9, 0), (some 5, 0), (some 6, 0), (some 10, 0), (some 13, 0)], [3, 4, 5, 6, 7, 8, 17, 18, 11, 12, 13, 14, 15, 16, 19, 20, 21, 35, 36, 37, 38, 39, 40])], (224, [(none, 0), (some 13, 0), (some 2, 0), (some 3, 0), (some 9, 0), (some 5, 0), (some 6, 0), (some 8, 0), (some 10, 0)], [3, 4, 5, 6, 7, 8, 17, 18, 11, 12, 13, 14, 15, 16]))
theorem pe104_19 {PT : PTy} (hp : HP19 PT) : PT 104 = P_ru := hp.1.1.1.1.1.1.1.1.1.1.1.1.1.1.2.2.2.2.2.2.2.2.2.2.1
theorem pe172_19 {PT : PTy} (hp : HP19 PT) : PT 172 = P_nkY := hp.1.1.1.1.1.1.1.2.2.2.2.2.2.2.2.2.2.1
theorem pe224_19 {PT : PTy} (hp : HP19 PT) : PT 224 = P_ihY := hp.2.2.2.2.2.2.1
set_option maxRecDepth 20000 in
theorem v_isHushed_0_0 {PT : PTy} (hp : HP19 PT) : vcOk PT w_isHushed_0_0 := vc_iv [(2, 0, 8), (3, 0, 10), (5, 0, 6), (6, 0, 6), (8, 0, 11), (9, 0, 9), (10, (-2147483648), 2147483647), (13, (-2147483648), 2147483647), (14, (-2147483648), 2147483647)] [3, 4, 5, 6, 7, 8, 11, 12, 13, 14, 15, 16, 17, 18, 19, 20, 21, 35, 36, 37, 38, 39, 40] (by decide +kernel) (fun ρ α => by
  intro r2 g2 b2 r3 g3 b3 r5 g5 b5 r6 g6 b6 r8 g8 b8 r9 g9 b9 r10 g10 b10 r13 g13 b13 r14 g14 b14 a3 h3 a4 h4 a5 h5 a6 h6 a7 h7 a8 h8 a11 h11 a12 h12 a13 h13 a14 h14 a15 h15 a16 h16 a17 h17 a18 h18 a19 h19 a20 h20 a21 h21 a35 h35 a36 h36 a37 h37 a38 h38 a39 h39 a40 h40 f0 f1 f2 tt
  have e104 : PT 104 = P_ru := pe104_19 hp
  have e172 : PT 172 = P_nkY := pe172_19 hp
  have e224 : PT 224 = P_ihY := pe224_19 hp
  simp only [hF1, hFp_104, hFp_172, hFp_224, e104, e172, e224, P_ru, P_nkY, P_ihY, den_s, den_c, Int.add_zero, List.map_cons, List.map_nil, g2, g3, g5, g6, g8, g9, g10, g13, g14, h3, h4, h5, h6, h7, h8, h11, h12, h13, h14, h15, h16, h17, h18, h19, h20, h21, h35, h36, h37, h38, h39, h40] at f0 f1 f2 ⊢
  clear g2 g3 g5 g6 g8 g9 g10 g13 g14 h3 h4 h5 h6 h7 h8 h11 h12 h13 h14 h15 h16 h17 h18 h19 h20 h21 h35 h36 h37 h38 h39 h40 e104 e172 e224 tt
  intro e1 e2
  obtain ⟨h1, h2⟩ := f2
  have hk := f1
  subst e1 e2
  first
    | exact ⟨_, _, _, _, _, _, ⟨_, _, _, h1, h2⟩, Or.inl ⟨by first | rfl | trivial, by rw [show nkdF _ _ = _ from hk.symm]; omega⟩⟩
    | exact ⟨_, _, _, _, _, _, ⟨_, _, _, h1, h2⟩, Or.inr ⟨by first | rfl | trivial, by rw [show nkdF _ _ = _ from hk.symm]; omega⟩⟩)
def w_isHushed_0_1 : VC := ((bY ++ [((-2147483648), 2147483647), (0, 0)]), [(0, [(some 14, 0), (none, 0)], []), (172, [(some 14, 0), (some 2, 0), (none, 23)], [38]), (104, [(none, 24), (some 2, 0), (some 8, 0), (some 3, 0), (some 9, 0), (some 5, 0), (some 6, 0), (some 10, 0), (some 13, 0)], [3, 4, 5, 6, 7, 8, 17, 18, 11, 12, 13, 14, 15, 16, 19, 20, 21, 35, 36, 37, 38, 39, 40])], (224, [(none, 1), (some 13, 0), (some 2, 0), (some 3, 0), (some 9, 0), (some 5, 0), (some 6, 0), (some 8, 0), (some 10, 0)], [3, 4, 5, 6, 7, 8, 17, 18, 11, 12, 13, 14, 15, 16]))
set_option maxRecDepth 20000 in
theorem v_isHushed_0_1 {PT : PTy} (hp : HP19 PT) : vcOk PT w_isHushed_0_1 := vc_iv [(2, 0, 8), (3, 0, 10), (5, 0, 6), (6, 0, 6), (8, 0, 11), (9, 0, 9), (10, (-2147483648), 2147483647), (13, (-2147483648), 2147483647), (14, 0, 0)] [3, 4, 5, 6, 7, 8, 11, 12, 13, 14, 15, 16, 17, 18, 19, 20, 21, 35, 36, 37, 38, 39, 40] (by decide +kernel) (fun ρ α => by
  intro r2 g2 b2 r3 g3 b3 r5 g5 b5 r6 g6 b6 r8 g8 b8 r9 g9 b9 r10 g10 b10 r13 g13 b13 r14 g14 b14 a3 h3 a4 h4 a5 h5 a6 h6 a7 h7 a8 h8 a11 h11 a12 h12 a13 h13 a14 h14 a15 h15 a16 h16 a17 h17 a18 h18 a19 h19 a20 h20 a21 h21 a35 h35 a36 h36 a37 h37 a38 h38 a39 h39 a40 h40 f0 f1 f2 tt
  have e104 : PT 104 = P_ru := pe104_19 hp
  have e172 : PT 172 = P_nkY := pe172_19 hp
  have e224 : PT 224 = P_ihY := pe224_19 hp
  simp only [hF0, hFp_104, hFp_172, hFp_224, e104, e172, e224, P_ru, P_nkY, P_ihY, den_s, den_c, Int.add_zero, List.map_cons, List.map_nil, g2, g3, g5, g6, g8, g9, g10, g13, g14, h3, h4, h5, h6, h7, h8, h11, h12, h13, h14, h15, h16, h17, h18, h19, h20, h21, h35, h36, h37, h38, h39, h40] at f0 f1 f2 ⊢
  clear g2 g3 g5 g6 g8 g9 g10 g13 g14 h3 h4 h5 h6 h7 h8 h11 h12 h13 h14 h15 h16 h17 h18 h19 h20 h21 h35 h36 h37 h38 h39 h40 e104 e172 e224 tt
  intro e1 e2
  obtain ⟨h1, h2⟩ := f2
  have hk := f1
  subst e1 e2
  first
    | exact ⟨_, _, _, _, _, _, ⟨_, _, _, h1, h2⟩, Or.inl ⟨by first | rfl | trivial, by rw [show nkdF _ _ = _ from hk.symm]; omega⟩⟩
    | exact ⟨_, _, _, _, _, _, ⟨_, _, _, h1, h2⟩, Or.inr ⟨by first | rfl | trivial, by rw [show nkdF _ _ = _ from hk.symm]; omega⟩⟩)
set_option maxRecDepth 1000000 in
theorem k_isHushed {PT : PTy} (hp : HP19 PT) : wfX c_isHushed = true ∧ xcOk PT c_isHushed := xctr (xl (k_runs hp.1.1.1.1.1.1.1.1.1.1.1.1.1.1) (xl (k_nakedNow hp.1.1.1.1.1.1.1) (xl0))) c_isHushed 32 mX7_isHushed rfl h_isHushed (by decide +kernel) (by decide +kernel) (by decide) (vcs_by [w_isHushed_0_0, w_isHushed_0_1] (by decide +kernel) (vc (v_isHushed_0_0 hp) (vc (v_isHushed_0_1 hp) vn))) fmn
def c_hushBy : XC := (167, 6, (bY), [.inr (.inl 0)], gY2, [(78, [], [1])], [((bY ++ [((-1), 2), (0, 8), (0, 10), (0, 11), ((-2147483648), 2147483647), ((-2147483648), 2147483647)]), some (.inl (some 13, 0)), (hst gY2 [(0, .inr (.inr (.inr (7, [.inr (.inl 1), .inr (.inl 2), .inl (some 14, 0), .inr (.inl 3), .inr (.inl 4), .inl (some 15, 0), .inr (.inl 5), .inr (.inl 6), .inr (.inl 7), .inr (.inl 8), .inl (some 4, 0), .inr (.inl 9), .inr (.inl 10), .inl (some 5, 0), .inr (.inl 11), .inr (.inl 12), .inr (.inl 13), .inl (some 6, 0), .inr (.inl 14), .inr (.inl 15), .inr (.inl 16), .inl (some 16, 0), .inl (some 4, 0), .inr (.inl 17), .inr (.inl 18), .inl (some 17, 0), .inl (some 18, 0), .inr (.inl 19), .inr (.inl 20), .inr (.inl 21), .inr (.inl 22), .inr (.inl 23), .inr (.inl 24), .inr (.inl 25), .inl (some 7, 0), .inr (.inl 26), .inr (.inl 27), .inr (.inl 28), .inr (.inl 29), .inr (.inl 30), .inr (.inl 31), .inr (.inl 32), .inr (.inl 33), .inr (.inl 34), .inl (some 12, 0)]))))]), [0, 1, 2, 35, 36, 37, 38, 39, 40, 9, 10, 11, 12, 13, 14, 15, 16, 41, 42, 43, 44, 45, 46, 47, 48, 49, 26, 27, 28, 29, 30, 31, 32, 33, 34], 50, [(228, [(some 13, 0), (some 14, 0), (some 15, 0), (some 4, 0), (some 5, 0), (some 6, 0)], [1, 2, 35, 36, 37, 38, 39, 40, 41, 42, 9, 10, 11, 12, 13, 14, 15, 16, 49])])])
def h_hushBy : List XH := [(16, (bY ++ [(0, 6), (0, 8), (0, 10), (0, 11), ((-2147483648), 2147483647), ((-2147483648), 2147483647)]), [some (.inr (.inl 0)), some (.inl (some 13, 0)), none], (hst gY2 [(0, .inr (.inr (.inr (7, [.inr (.inl 1), .inr (.inl 2), .inl (some 14, 0), .inr (.inl 3), .inr (.inl 4), .inl (some 15, 0), .inr (.inl 5), .inr (.inl 6), .inr (.inl 7), .inr (.inl 8), .inl (some 4, 0), .inr (.inl 9), .inr (.inl 10), .inl (some 5, 0), .inr (.inl 11), .inr (.inl 12), .inr (.inl 13), .inl (some 6, 0), .inr (.inl 14), .inr (.inl 15), .inr (.inl 16), .inl (some 16, 0), .inl (some 4, 0), .inr (.inl 17), .inr (.inl 18), .inl (some 17, 0), .inl (some 18, 0), .inr (.inl 19), .inr (.inl 20), .inr (.inl 21), .inr (.inl 22), .inr (.inl 23), .inr (.inl 24), .inr (.inl 25), .inl (some 7, 0), .inr (.inl 26), .inr (.inl 27), .inr (.inl 28), .inr (.inl 29), .inr (.inl 30), .inr (.inl 31), .inr (.inl 32), .inr (.inl 33), .inr (.inl 34), .inl (some 12, 0)]))))]), [0, 1, 2, 35, 36, 37, 38, 39, 40, 9, 10, 11, 12, 13, 14, 15, 16, 41, 42, 43, 44, 45, 46, 47, 48, 49, 26, 27, 28, 29, 30, 31, 32, 33, 34], 50, [(106, [(some 14, 0), (some 15, 0)], [1, 2, 35, 36, 37, 38, 39, 40]), (105, [(some 4, 0)], [9, 10, 41, 42]), (225, [(some 13, 0), (some 14, 0), (some 15, 0), (some 4, 0), (some 5, 0), (some 6, 0)], [35, 36, 37, 38, 39, 40, 41, 42, 11, 12, 13, 14, 15, 16]), (0, [(some 16, 0), (some 15, 0)], []), (0, [(some 17, 0), (none, 0)], []), (0, [(some 4, 0), (some 4, 0)], []), (3, [(some 5, 0), (some 13, 0)], [])], [(true, (none, 1)), (true, (some 13, 0)), (true, (none, 0)), (true, (none, 0))]),
  (51, (bY ++ [(0, 6), (0, 8), (0, 10), (0, 11), ((-2147483648), 2147483647), ((-2147483648), 2147483647)]), [some (.inr (.inl 0)), some (.inl (some 13, 0)), none], (hst gY2 [(0, .inr (.inr (.inr (7, [.inr (.inl 1), .inr (.inl 2), .inl (some 14, 0), .inr (.inl 3), .inr (.inl 4), .inl (some 15, 0), .inr (.inl 5), .inr (.inl 6), .inr (.inl 7), .inr (.inl 8), .inl (some 4, 0), .inr (.inl 9), .inr (.inl 10), .inl (some 5, 0), .inr (.inl 11), .inr (.inl 12), .inr (.inl 13), .inl (some 6, 0), .inr (.inl 14), .inr (.inl 15), .inr (.inl 16), .inl (some 16, 0), .inl (some 4, 0), .inr (.inl 17), .inr (.inl 18), .inl (some 17, 0), .inl (some 18, 0), .inr (.inl 19), .inr (.inl 20), .inr (.inl 21), .inr (.inl 22), .inr (.inl 23), .inr (.inl 24), .inr (.inl 25), .inl (some 7, 0), .inr (.inl 26), .inr (.inl 27), .inr (.inl 28), .inr (.inl 29), .inr (.inl 30), .inr (.inl 31), .inr (.inl 32), .inr (.inl 33), .inr (.inl 34), .inl (some 12, 0)]))))]), [0, 1, 2, 35, 36, 37, 38, 39, 40, 9, 10, 11, 12, 13, 14, 15, 16, 41, 42, 43, 44, 45, 46, 47, 48, 49, 26, 27, 28, 29, 30, 31, 32, 33, 34], 50, [(106, [(some 14, 0), (some 15, 0)], [1, 2, 35, 36, 37, 38, 39, 40]), (105, [(some 4, 0)], [9, 10, 41, 42]), (227, [(some 13, 0), (some 14, 0), (some 15, 0), (some 4, 0), (some 5, 0), (some 6, 0)], [35, 36, 37, 38, 39, 40, 41, 42, 11, 12, 13, 14, 15, 16]), (0, [(some 16, 0), (some 15, 0)], []), (0, [(some 17, 0), (none, 0)], []), (0, [(some 4, 0), (some 4, 0)], []), (3, [(some 5, 0), (some 13, 0)], [])], [(true, (none, 2)), (true, (some 13, 0)), (true, (none, 0)), (true, (none, 0))]),
  (63, ([(0, 23), (0, 49), (0, 8), (0, 10), (0, 8), (1, 6), (0, 6), (0, 8), (0, 11), (0, 9), ((-2147483648), 2147483647), ((-2147483648), 2147483647), (0, 5), (0, 5), (1, 6), (0, 8), (0, 10), (0, 11), ((-2147483648), 2147483647), ((-2147483648), 2147483647)]), [some (.inr (.inl 0)), some (.inl (some 13, 0)), some (.inl (some 14, 0))], (hst gY2 [(0, .inr (.inr (.inr (7, [.inr (.inl 1), .inr (.inl 2), .inl (some 15, 0), .inr (.inl 3), .inr (.inl 4), .inl (some 16, 0), .inr (.inl 5), .inr (.inl 6), .inr (.inl 7), .inr (.inl 8), .inl (some 4, 0), .inr (.inl 9), .inr (.inl 10), .inl (some 5, 0), .inr (.inl 11), .inr (.inl 12), .inr (.inl 13), .inl (some 6, 0), .inr (.inl 14), .inr (.inl 15), .inr (.inl 16), .inl (some 17, 0), .inl (some 4, 0), .inr (.inl 17), .inr (.inl 18), .inl (some 18, 0), .inl (some 19, 0), .inr (.inl 19), .inr (.inl 20), .inr (.inl 21), .inr (.inl 22), .inr (.inl 23), .inr (.inl 24), .inr (.inl 25), .inl (some 7, 0), .inr (.inl 26), .inr (.inl 27), .inr (.inl 28), .inr (.inl 29), .inr (.inl 30), .inr (.inl 31), .inr (.inl 32), .inr (.inl 33), .inr (.inl 34), .inl (some 12, 0)]))))]), [0, 1, 2, 35, 36, 37, 38, 39, 40, 9, 10, 11, 12, 13, 14, 15, 16, 41, 42, 43, 44, 45, 46, 47, 48, 49, 26, 27, 28, 29, 30, 31, 32, 33, 34], 50, [(106, [(some 15, 0), (some 16, 0)], [1, 2, 35, 36, 37, 38, 39, 40]), (105, [(some 4, 0)], [9, 10, 41, 42]), (226, [(some 13, 0), (some 14, 0), (some 15, 0), (some 16, 0), (some 4, 0), (some 5, 0), (some 6, 0)], [35, 36, 37, 38, 39, 40, 41, 42, 11, 12, 13, 14, 15, 16]), (0, [(some 17, 0), (some 16, 0)], []), (0, [(some 18, 0), (none, 0)], []), (0, [(some 4, 0), (some 4, 0)], []), (3, [(some 5, 0), (some 14, 0)], []), (2, [(some 13, 0), (some 14, 0)], []), (2, [(some 13, 0), (some 5, 0)], [])], [(true, (none, 2)), (true, (some 13, 0)), (true, (none, 1)), (true, (some 14, 0))])]
def w_hushBy_0_0 : VC := ((bY ++ [(0, 8), (0, 10), (0, 11), ((-2147483648), 2147483647), ((-2147483648), 2147483647), (0, 0)]), [(0, [(some 18, 0), (none, 0)], []), (224, [(some 18, 0), (none, 0), (some 13, 0), (some 14, 0), (some 4, 0), (some 5, 0), (some 6, 0), (some 15, 0), (some 16, 0)], [35, 36, 37, 38, 39, 40, 41, 42, 11, 12, 13, 14, 15, 16]), (106, [(some 13, 0), (some 14, 0)], [1, 2, 35, 36, 37, 38, 39, 40]), (105, [(some 4, 0)], [9, 10, 41, 42]), (0, [(some 15, 0), (some 14, 0)], []), (0, [(some 4, 0), (some 4, 0)], []), (0, [(some 16, 0), (none, 0)], []), (0, [(some 17, 0), (none, 0)], []), (78, [], [1])], (225, [(none, 0), (some 13, 0), (some 14, 0), (some 4, 0), (some 5, 0), (some 6, 0)], [35, 36, 37, 38, 39, 40, 41, 42, 11, 12, 13, 14, 15, 16]))
theorem pe78_19 {PT : PTy} (hp : HP19 PT) : PT 78 = P_ly := hp.1.1.1.1.1.1.1.1.1.1.1.1.1.1.1.1.1.2.2.2.2.2.2.2.1
theorem pe105_19 {PT : PTy} (hp : HP19 PT) : PT 105 = P_cp2 := hp.1.1.1.1.1.1.1.1.1.1.1.1.1.1.2.2.2.2.2.2.2.2.2.2.2.1
theorem pe106_19 {PT : PTy} (hp : HP19 PT) : PT 106 = P_rd := hp.1.1.1.1.1.1.1.1.1.1.1.1.1.1.2.2.2.2.2.2.2.2.2.2.2.2.1
theorem pe225_19 {PT : PTy} (hp : HP19 PT) : PT 225 = P_hv1 := hp.2.2.2.2.2.2.2.1
set_option maxRecDepth 20000 in
theorem v_hushBy_0_0 {PT : PTy} (hp : HP19 PT) : vcOk PT w_hushBy_0_0 := vc_iv [(4, 0, 8), (5, 0, 6), (6, 0, 6), (13, 0, 8), (14, 0, 10), (15, 0, 11), (16, (-2147483648), 2147483647), (17, (-2147483648), 2147483647), (18, 0, 0)] [1, 2, 9, 10, 11, 12, 13, 14, 15, 16, 35, 36, 37, 38, 39, 40, 41, 42] (by decide +kernel) (fun ρ α => by
  intro r4 g4 b4 r5 g5 b5 r6 g6 b6 r13 g13 b13 r14 g14 b14 r15 g15 b15 r16 g16 b16 r17 g17 b17 r18 g18 b18 a1 h1 a2 h2 a9 h9 a10 h10 a11 h11 a12 h12 a13 h13 a14 h14 a15 h15 a16 h16 a35 h35 a36 h36 a37 h37 a38 h38 a39 h39 a40 h40 a41 h41 a42 h42 f0 f1 f2 f3 f4 f5 f6 f7 f8 tt
  have e78 : PT 78 = P_ly := pe78_19 hp
  have e105 : PT 105 = P_cp2 := pe105_19 hp
  have e106 : PT 106 = P_rd := pe106_19 hp
  have e224 : PT 224 = P_ihY := pe224_19 hp
  have e225 : PT 225 = P_hv1 := pe225_19 hp
  simp only [hF0, hFp_78, hFp_105, hFp_106, hFp_224, hFp_225, e78, e105, e106, e224, e225, P_ly, P_cp2, P_rd, P_ihY, P_hv1, den_s, den_c, Int.add_zero, List.map_cons, List.map_nil, g4, g5, g6, g13, g14, g15, g16, g17, g18, h1, h2, h9, h10, h11, h12, h13, h14, h15, h16, h35, h36, h37, h38, h39, h40, h41, h42] at f0 f1 f2 f3 f4 f5 f6 f7 f8 ⊢
  clear g4 g5 g6 g13 g14 g15 g16 g17 g18 h1 h2 h9 h10 h11 h12 h13 h14 h15 h16 h35 h36 h37 h38 h39 h40 h41 h42 e78 e105 e106 e224 e225 tt
  have h0 : hqY r13 r14 r4 r5 r6 a35 a36 a37 a38 a39 a40 a41 a42 a11 a12 a13 a14 a15 a16 0 r18 := f1 (by omega) (by omega)
  rw [show r18 = 0 by omega] at h0
  exact ⟨h0, fun j h1 h2 => by exfalso; omega⟩)
def w_hushBy_0_1 : VC := ((bY ++ [(0, 8), (0, 10), (0, 11), ((-2147483648), 2147483647), ((-2147483648), 2147483647), (0, 0)]), [(0, [(some 18, 0), (none, 0)], []), (224, [(some 18, 0), (none, 0), (some 13, 0), (some 14, 0), (some 4, 0), (some 5, 0), (some 6, 0), (some 15, 0), (some 16, 0)], [35, 36, 37, 38, 39, 40, 41, 42, 11, 12, 13, 14, 15, 16]), (106, [(some 13, 0), (some 14, 0)], [1, 2, 35, 36, 37, 38, 39, 40]), (105, [(some 4, 0)], [9, 10, 41, 42]), (0, [(some 15, 0), (some 14, 0)], []), (0, [(some 4, 0), (some 4, 0)], []), (0, [(some 16, 0), (none, 0)], []), (0, [(some 17, 0), (none, 0)], []), (78, [], [1])], (3, [(some 5, 0), (none, 0)], []))
set_option maxRecDepth 20000 in
theorem v_hushBy_0_1 {PT : PTy} (hp : HP19 PT) : vcOk PT w_hushBy_0_1 := vc_iv [(4, 0, 8), (5, 0, 6), (6, 0, 6), (13, 0, 8), (14, 0, 10), (15, 0, 11), (16, (-2147483648), 2147483647), (17, (-2147483648), 2147483647), (18, 0, 0)] [1, 2, 9, 10, 11, 12, 13, 14, 15, 16, 35, 36, 37, 38, 39, 40, 41, 42] (by decide +kernel) (fun ρ α => by
  intro r4 g4 b4 r5 g5 b5 r6 g6 b6 r13 g13 b13 r14 g14 b14 r15 g15 b15 r16 g16 b16 r17 g17 b17 r18 g18 b18 a1 h1 a2 h2 a9 h9 a10 h10 a11 h11 a12 h12 a13 h13 a14 h14 a15 h15 a16 h16 a35 h35 a36 h36 a37 h37 a38 h38 a39 h39 a40 h40 a41 h41 a42 h42 f0 f1 f2 f3 f4 f5 f6 f7 f8 tt
  have e78 : PT 78 = P_ly := pe78_19 hp
  have e105 : PT 105 = P_cp2 := pe105_19 hp
  have e106 : PT 106 = P_rd := pe106_19 hp
  have e224 : PT 224 = P_ihY := pe224_19 hp
  simp only [hF0, hF3, hFp_78, hFp_105, hFp_106, hFp_224, e78, e105, e106, e224, P_ly, P_cp2, P_rd, P_ihY, den_s, den_c, Int.add_zero, List.map_cons, List.map_nil, g4, g5, g6, g13, g14, g15, g16, g17, g18, h1, h2, h9, h10, h11, h12, h13, h14, h15, h16, h35, h36, h37, h38, h39, h40, h41, h42] at f0 f1 f2 f3 f4 f5 f6 f7 f8 ⊢
  clear g4 g5 g6 g13 g14 g15 g16 g17 g18 h1 h2 h9 h10 h11 h12 h13 h14 h15 h16 h35 h36 h37 h38 h39 h40 h41 h42 e78 e105 e106 e224 tt
  omega)
def w_hushBy_0_2 : VC := ((bY ++ [(0, 8), (0, 10), (0, 11), ((-2147483648), 2147483647), ((-2147483648), 2147483647), (1, 1)]), [(1, [(some 18, 0), (none, 0)], []), (224, [(some 18, 0), (none, 0), (some 13, 0), (some 14, 0), (some 4, 0), (some 5, 0), (some 6, 0), (some 15, 0), (some 16, 0)], [35, 36, 37, 38, 39, 40, 41, 42, 11, 12, 13, 14, 15, 16]), (106, [(some 13, 0), (some 14, 0)], [1, 2, 35, 36, 37, 38, 39, 40]), (105, [(some 4, 0)], [9, 10, 41, 42]), (0, [(some 15, 0), (some 14, 0)], []), (0, [(some 4, 0), (some 4, 0)], []), (0, [(some 16, 0), (none, 0)], []), (0, [(some 17, 0), (none, 0)], []), (78, [], [1])], (228, [(none, 0), (some 13, 0), (some 14, 0), (some 4, 0), (some 5, 0), (some 6, 0)], [1, 2, 35, 36, 37, 38, 39, 40, 41, 42, 9, 10, 11, 12, 13, 14, 15, 16, 25]))
theorem pe228_19 {PT : PTy} (hp : HP19 PT) : PT 228 = P_hbY := hp.2.2.2.2.2.2.2.2.2.2.1
set_option maxRecDepth 20000 in
theorem v_hushBy_0_2 {PT : PTy} (hp : HP19 PT) : vcOk PT w_hushBy_0_2 := vc_iv [(4, 0, 8), (5, 0, 6), (6, 0, 6), (13, 0, 8), (14, 0, 10), (15, 0, 11), (16, (-2147483648), 2147483647), (17, (-2147483648), 2147483647), (18, 1, 1)] [1, 2, 9, 10, 11, 12, 13, 14, 15, 16, 25, 35, 36, 37, 38, 39, 40, 41, 42] (by decide +kernel) (fun ρ α => by
  intro r4 g4 b4 r5 g5 b5 r6 g6 b6 r13 g13 b13 r14 g14 b14 r15 g15 b15 r16 g16 b16 r17 g17 b17 r18 g18 b18 a1 h1 a2 h2 a9 h9 a10 h10 a11 h11 a12 h12 a13 h13 a14 h14 a15 h15 a16 h16 a25 h25 a35 h35 a36 h36 a37 h37 a38 h38 a39 h39 a40 h40 a41 h41 a42 h42 f0 f1 f2 f3 f4 f5 f6 f7 f8 tt
  clear f0
  have e78 : PT 78 = P_ly := pe78_19 hp
  have e105 : PT 105 = P_cp2 := pe105_19 hp
  have e106 : PT 106 = P_rd := pe106_19 hp
  have e224 : PT 224 = P_ihY := pe224_19 hp
  have e228 : PT 228 = P_hbY := pe228_19 hp
  simp only [hF0, hFp_78, hFp_105, hFp_106, hFp_224, hFp_228, e78, e105, e106, e224, e228, P_ly, P_cp2, P_rd, P_ihY, P_hbY, den_s, den_c, Int.add_zero, List.map_cons, List.map_nil, g4, g5, g6, g13, g14, g15, g16, g17, g18, h1, h2, h9, h10, h11, h12, h13, h14, h15, h16, h25, h35, h36, h37, h38, h39, h40, h41, h42] at f1 f2 f3 f4 f5 f6 f7 f8 ⊢
  clear g4 g5 g6 g13 g14 g15 g16 g17 g18 h1 h2 h9 h10 h11 h12 h13 h14 h15 h16 h25 h35 h36 h37 h38 h39 h40 h41 h42 e78 e105 e106 e224 e228 tt
  have h0 : hqY r13 r14 r4 r5 r6 a35 a36 a37 a38 a39 a40 a41 a42 a11 a12 a13 a14 a15 a16 0 r18 := f1 (by omega) (by omega)
  rw [show r18 = 1 by omega] at h0
  exact ⟨⟨f2, f3⟩, 0, 0, Or.inl ⟨by first | rfl | trivial, h0⟩, fun q => by exfalso; omega, fun q => by exfalso; omega⟩)
def w_hushBy_1_0 : VC := ((bY ++ [(0, 6), (0, 8), (0, 10), (0, 11), ((-2147483648), 2147483647), ((-2147483648), 2147483647)]), [(3, [(some 13, 0), (some 5, 0)], []), (106, [(some 14, 0), (some 15, 0)], [1, 2, 35, 36, 37, 38, 39, 40]), (105, [(some 4, 0)], [9, 10, 41, 42]), (225, [(some 13, 0), (some 14, 0), (some 15, 0), (some 4, 0), (some 5, 0), (some 6, 0)], [35, 36, 37, 38, 39, 40, 41, 42, 11, 12, 13, 14, 15, 16]), (0, [(some 16, 0), (some 15, 0)], []), (0, [(some 17, 0), (none, 0)], []), (0, [(some 4, 0), (some 4, 0)], []), (3, [(some 5, 0), (some 13, 0)], []), (78, [], [1])], (227, [(none, 0), (some 14, 0), (some 15, 0), (some 4, 0), (some 5, 0), (some 6, 0)], [35, 36, 37, 38, 39, 40, 41, 42, 11, 12, 13, 14, 15, 16]))
theorem pe227_19 {PT : PTy} (hp : HP19 PT) : PT 227 = P_hv3 := hp.2.2.2.2.2.2.2.2.2.1
set_option maxRecDepth 20000 in
theorem v_hushBy_1_0 {PT : PTy} (hp : HP19 PT) : vcOk PT w_hushBy_1_0 := vc_iv [(4, 0, 8), (5, 0, 6), (6, 0, 6), (13, 0, 6), (14, 0, 8), (15, 0, 10), (16, 0, 11), (17, (-2147483648), 2147483647)] [1, 2, 9, 10, 11, 12, 13, 14, 15, 16, 35, 36, 37, 38, 39, 40, 41, 42] (by decide +kernel) (fun ρ α => by
  intro r4 g4 b4 r5 g5 b5 r6 g6 b6 r13 g13 b13 r14 g14 b14 r15 g15 b15 r16 g16 b16 r17 g17 b17 a1 h1 a2 h2 a9 h9 a10 h10 a11 h11 a12 h12 a13 h13 a14 h14 a15 h15 a16 h16 a35 h35 a36 h36 a37 h37 a38 h38 a39 h39 a40 h40 a41 h41 a42 h42 f0 f1 f2 f3 f4 f5 f6 f7 f8 tt
  have e78 : PT 78 = P_ly := pe78_19 hp
  have e105 : PT 105 = P_cp2 := pe105_19 hp
  have e106 : PT 106 = P_rd := pe106_19 hp
  have e225 : PT 225 = P_hv1 := pe225_19 hp
  have e227 : PT 227 = P_hv3 := pe227_19 hp
  simp only [hF0, hF3, hFp_78, hFp_105, hFp_106, hFp_225, hFp_227, e78, e105, e106, e225, e227, P_ly, P_cp2, P_rd, P_hv1, P_hv3, den_s, den_c, Int.add_zero, List.map_cons, List.map_nil, g4, g5, g6, g13, g14, g15, g16, g17, h1, h2, h9, h10, h11, h12, h13, h14, h15, h16, h35, h36, h37, h38, h39, h40, h41, h42] at f0 f1 f2 f3 f4 f5 f6 f7 f8 ⊢
  clear g4 g5 g6 g13 g14 g15 g16 g17 h1 h2 h9 h10 h11 h12 h13 h14 h15 h16 h35 h36 h37 h38 h39 h40 h41 h42 e78 e105 e106 e225 e227 tt
  have u := f3
  rw [show r13 = r5 by omega] at u
  exact ⟨u, fun j k h1 h2 => by exfalso; omega⟩)
def w_hushBy_1_1 : VC := ((bY ++ [(0, 6), (0, 8), (0, 10), (0, 11), ((-2147483648), 2147483647), ((-2147483648), 2147483647)]), [(3, [(some 13, 0), (some 5, 0)], []), (106, [(some 14, 0), (some 15, 0)], [1, 2, 35, 36, 37, 38, 39, 40]), (105, [(some 4, 0)], [9, 10, 41, 42]), (225, [(some 13, 0), (some 14, 0), (some 15, 0), (some 4, 0), (some 5, 0), (some 6, 0)], [35, 36, 37, 38, 39, 40, 41, 42, 11, 12, 13, 14, 15, 16]), (0, [(some 16, 0), (some 15, 0)], []), (0, [(some 17, 0), (none, 0)], []), (0, [(some 4, 0), (some 4, 0)], []), (3, [(some 5, 0), (some 13, 0)], []), (78, [], [1])], (3, [(some 5, 0), (none, 0)], []))
set_option maxRecDepth 20000 in
theorem v_hushBy_1_1 {PT : PTy} (hp : HP19 PT) : vcOk PT w_hushBy_1_1 := vc_iv [(4, 0, 8), (5, 0, 6), (6, 0, 6), (13, 0, 6), (14, 0, 8), (15, 0, 10), (16, 0, 11), (17, (-2147483648), 2147483647)] [1, 2, 9, 10, 11, 12, 13, 14, 15, 16, 35, 36, 37, 38, 39, 40, 41, 42] (by decide +kernel) (fun ρ α => by
  intro r4 g4 b4 r5 g5 b5 r6 g6 b6 r13 g13 b13 r14 g14 b14 r15 g15 b15 r16 g16 b16 r17 g17 b17 a1 h1 a2 h2 a9 h9 a10 h10 a11 h11 a12 h12 a13 h13 a14 h14 a15 h15 a16 h16 a35 h35 a36 h36 a37 h37 a38 h38 a39 h39 a40 h40 a41 h41 a42 h42 f0 f1 f2 f3 f4 f5 f6 f7 f8 tt
  have e78 : PT 78 = P_ly := pe78_19 hp
  have e105 : PT 105 = P_cp2 := pe105_19 hp
  have e106 : PT 106 = P_rd := pe106_19 hp
  have e225 : PT 225 = P_hv1 := pe225_19 hp
  simp only [hF0, hF3, hFp_78, hFp_105, hFp_106, hFp_225, e78, e105, e106, e225, P_ly, P_cp2, P_rd, P_hv1, den_s, den_c, Int.add_zero, List.map_cons, List.map_nil, g4, g5, g6, g13, g14, g15, g16, g17, h1, h2, h9, h10, h11, h12, h13, h14, h15, h16, h35, h36, h37, h38, h39, h40, h41, h42] at f0 f1 f2 f3 f4 f5 f6 f7 f8 ⊢
  clear g4 g5 g6 g13 g14 g15 g16 g17 h1 h2 h9 h10 h11 h12 h13 h14 h15 h16 h35 h36 h37 h38 h39 h40 h41 h42 e78 e105 e106 e225 tt
  omega)
def w_hushBy_1_2 : VC := (([(0, 23), (0, 49), (0, 8), (0, 10), (0, 8), (1, 6), (0, 6), (0, 8), (0, 11), (0, 9), ((-2147483648), 2147483647), ((-2147483648), 2147483647), (0, 5), (0, 5), (0, 8), (0, 10), (0, 11), ((-2147483648), 2147483647), ((-2147483648), 2147483647), (1, 32), (0, 0)]), [(0, [(some 20, 0), (none, 0)], []), (224, [(some 20, 0), (some 19, 0), (some 14, 0), (some 15, 0), (some 4, 0), (some 5, 0), (some 6, 0), (some 16, 0), (some 17, 0)], [35, 36, 37, 38, 39, 40, 41, 42, 11, 12, 13, 14, 15, 16]), (13, [(some 19, 0), (none, 1), (some 13, 0)], []), (21, [(none, 0), (some 13, 0)], [50, 49]), (2, [(some 13, 0), (some 5, 0)], []), (106, [(some 14, 0), (some 15, 0)], [1, 2, 35, 36, 37, 38, 39, 40]), (105, [(some 4, 0)], [9, 10, 41, 42]), (225, [(some 13, 0), (some 14, 0), (some 15, 0), (some 4, 0), (some 5, 0), (some 6, 0)], [35, 36, 37, 38, 39, 40, 41, 42, 11, 12, 13, 14, 15, 16]), (0, [(some 16, 0), (some 15, 0)], []), (0, [(some 17, 0), (none, 0)], []), (0, [(some 4, 0), (some 4, 0)], []), (3, [(some 5, 0), (some 13, 0)], []), (78, [], [1])], (225, [(some 13, 1), (some 14, 0), (some 15, 0), (some 4, 0), (some 5, 0), (some 6, 0)], [35, 36, 37, 38, 39, 40, 41, 42, 11, 12, 13, 14, 15, 16]))
set_option maxRecDepth 20000 in
theorem v_hushBy_1_2 {PT : PTy} (hp : HP19 PT) : vcOk PT w_hushBy_1_2 := vc_iv [(4, 0, 8), (5, 1, 6), (6, 0, 6), (13, 0, 5), (14, 0, 8), (15, 0, 10), (16, 0, 11), (17, (-2147483648), 2147483647), (19, 1, 32), (20, 0, 0)] [1, 2, 9, 10, 11, 12, 13, 14, 15, 16, 35, 36, 37, 38, 39, 40, 41, 42, 49, 50] (by decide +kernel) (fun ρ α => by
  intro r4 g4 b4 r5 g5 b5 r6 g6 b6 r13 g13 b13 r14 g14 b14 r15 g15 b15 r16 g16 b16 r17 g17 b17 r19 g19 b19 r20 g20 b20 a1 h1 a2 h2 a9 h9 a10 h10 a11 h11 a12 h12 a13 h13 a14 h14 a15 h15 a16 h16 a35 h35 a36 h36 a37 h37 a38 h38 a39 h39 a40 h40 a41 h41 a42 h42 a49 h49 a50 h50 f0 f1 f2 f3 f4 f5 f6 f7 f8 f9 f10 f11 f12 tt
  have e78 : PT 78 = P_ly := pe78_19 hp
  have e105 : PT 105 = P_cp2 := pe105_19 hp
  have e106 : PT 106 = P_rd := pe106_19 hp
  have e224 : PT 224 = P_ihY := pe224_19 hp
  have e225 : PT 225 = P_hv1 := pe225_19 hp
  simp only [hF0, hF2, hF3, hF13, hF21, hFp_78, hFp_105, hFp_106, hFp_224, hFp_225, e78, e105, e106, e224, e225, P_ly, P_cp2, P_rd, P_ihY, P_hv1, den_s, den_c, Int.add_zero, List.map_cons, List.map_nil, g4, g5, g6, g13, g14, g15, g16, g17, g19, g20, h1, h2, h9, h10, h11, h12, h13, h14, h15, h16, h35, h36, h37, h38, h39, h40, h41, h42, h49, h50] at f0 f1 f2 f3 f4 f5 f6 f7 f8 f9 f10 f11 f12 ⊢
  clear g4 g5 g6 g13 g14 g15 g16 g17 g19 g20 h1 h2 h9 h10 h11 h12 h13 h14 h15 h16 h35 h36 h37 h38 h39 h40 h41 h42 h49 h50 e78 e105 e106 e224 e225 tt
  subst f2
  subst f3
  have h0 : hqY r14 r15 r4 r5 r6 a35 a36 a37 a38 a39 a40 a41 a42 a11 a12 a13 a14 a15 a16 (mShl 1 r13) r20 := f1 (by omega) (by omega)
  rw [show r20 = 0 by omega] at h0
  obtain ⟨u1, u2⟩ := f7
  exact ⟨u1, fun j h1 h2 => by
    by_cases q : j = r13
    · subst q; exact h0
    · exact u2 j h1 (by omega)⟩)
def w_hushBy_1_3 : VC := (([(0, 23), (0, 49), (0, 8), (0, 10), (0, 8), (1, 6), (0, 6), (0, 8), (0, 11), (0, 9), ((-2147483648), 2147483647), ((-2147483648), 2147483647), (0, 5), (0, 5), (0, 8), (0, 10), (0, 11), ((-2147483648), 2147483647), ((-2147483648), 2147483647), (1, 32), (0, 0)]), [(0, [(some 20, 0), (none, 0)], []), (224, [(some 20, 0), (some 19, 0), (some 14, 0), (some 15, 0), (some 4, 0), (some 5, 0), (some 6, 0), (some 16, 0), (some 17, 0)], [35, 36, 37, 38, 39, 40, 41, 42, 11, 12, 13, 14, 15, 16]), (13, [(some 19, 0), (none, 1), (some 13, 0)], []), (21, [(none, 0), (some 13, 0)], [50, 49]), (2, [(some 13, 0), (some 5, 0)], []), (106, [(some 14, 0), (some 15, 0)], [1, 2, 35, 36, 37, 38, 39, 40]), (105, [(some 4, 0)], [9, 10, 41, 42]), (225, [(some 13, 0), (some 14, 0), (some 15, 0), (some 4, 0), (some 5, 0), (some 6, 0)], [35, 36, 37, 38, 39, 40, 41, 42, 11, 12, 13, 14, 15, 16]), (0, [(some 16, 0), (some 15, 0)], []), (0, [(some 17, 0), (none, 0)], []), (0, [(some 4, 0), (some 4, 0)], []), (3, [(some 5, 0), (some 13, 0)], []), (78, [], [1])], (3, [(some 5, 0), (some 13, 1)], []))
set_option maxRecDepth 20000 in
theorem v_hushBy_1_3 {PT : PTy} (hp : HP19 PT) : vcOk PT w_hushBy_1_3 := vc_iv [(4, 0, 8), (5, 1, 6), (6, 0, 6), (13, 0, 5), (14, 0, 8), (15, 0, 10), (16, 0, 11), (17, (-2147483648), 2147483647), (19, 1, 32), (20, 0, 0)] [1, 2, 9, 10, 11, 12, 13, 14, 15, 16, 35, 36, 37, 38, 39, 40, 41, 42, 49, 50] (by decide +kernel) (fun ρ α => by
  intro r4 g4 b4 r5 g5 b5 r6 g6 b6 r13 g13 b13 r14 g14 b14 r15 g15 b15 r16 g16 b16 r17 g17 b17 r19 g19 b19 r20 g20 b20 a1 h1 a2 h2 a9 h9 a10 h10 a11 h11 a12 h12 a13 h13 a14 h14 a15 h15 a16 h16 a35 h35 a36 h36 a37 h37 a38 h38 a39 h39 a40 h40 a41 h41 a42 h42 a49 h49 a50 h50 f0 f1 f2 f3 f4 f5 f6 f7 f8 f9 f10 f11 f12 tt
  have e78 : PT 78 = P_ly := pe78_19 hp
  have e105 : PT 105 = P_cp2 := pe105_19 hp
  have e106 : PT 106 = P_rd := pe106_19 hp
  have e224 : PT 224 = P_ihY := pe224_19 hp
  have e225 : PT 225 = P_hv1 := pe225_19 hp
  simp only [hF0, hF2, hF3, hF13, hF21, hFp_78, hFp_105, hFp_106, hFp_224, hFp_225, e78, e105, e106, e224, e225, P_ly, P_cp2, P_rd, P_ihY, P_hv1, den_s, den_c, Int.add_zero, List.map_cons, List.map_nil, g4, g5, g6, g13, g14, g15, g16, g17, g19, g20, h1, h2, h9, h10, h11, h12, h13, h14, h15, h16, h35, h36, h37, h38, h39, h40, h41, h42, h49, h50] at f0 f1 f2 f3 f4 f5 f6 f7 f8 f9 f10 f11 f12 ⊢
  clear g4 g5 g6 g13 g14 g15 g16 g17 g19 g20 h1 h2 h9 h10 h11 h12 h13 h14 h15 h16 h35 h36 h37 h38 h39 h40 h41 h42 h49 h50 e78 e105 e106 e224 e225 tt
  subst f2
  subst f3
  omega)
def w_hushBy_1_4 : VC := (([(0, 23), (0, 49), (0, 8), (0, 10), (0, 8), (1, 6), (0, 6), (0, 8), (0, 11), (0, 9), ((-2147483648), 2147483647), ((-2147483648), 2147483647), (0, 5), (0, 5), (0, 8), (0, 10), (0, 11), ((-2147483648), 2147483647), ((-2147483648), 2147483647), (1, 32), (1, 1)]), [(1, [(some 20, 0), (none, 0)], []), (224, [(some 20, 0), (some 19, 0), (some 14, 0), (some 15, 0), (some 4, 0), (some 5, 0), (some 6, 0), (some 16, 0), (some 17, 0)], [35, 36, 37, 38, 39, 40, 41, 42, 11, 12, 13, 14, 15, 16]), (13, [(some 19, 0), (none, 1), (some 13, 0)], []), (21, [(none, 0), (some 13, 0)], [50, 49]), (2, [(some 13, 0), (some 5, 0)], []), (106, [(some 14, 0), (some 15, 0)], [1, 2, 35, 36, 37, 38, 39, 40]), (105, [(some 4, 0)], [9, 10, 41, 42]), (225, [(some 13, 0), (some 14, 0), (some 15, 0), (some 4, 0), (some 5, 0), (some 6, 0)], [35, 36, 37, 38, 39, 40, 41, 42, 11, 12, 13, 14, 15, 16]), (0, [(some 16, 0), (some 15, 0)], []), (0, [(some 17, 0), (none, 0)], []), (0, [(some 4, 0), (some 4, 0)], []), (3, [(some 5, 0), (some 13, 0)], []), (78, [], [1])], (228, [(none, 1), (some 14, 0), (some 15, 0), (some 4, 0), (some 5, 0), (some 6, 0)], [1, 2, 35, 36, 37, 38, 39, 40, 41, 42, 9, 10, 11, 12, 13, 14, 15, 16, 50]))
set_option maxRecDepth 20000 in
theorem v_hushBy_1_4 {PT : PTy} (hp : HP19 PT) : vcOk PT w_hushBy_1_4 := vc_iv [(4, 0, 8), (5, 1, 6), (6, 0, 6), (13, 0, 5), (14, 0, 8), (15, 0, 10), (16, 0, 11), (17, (-2147483648), 2147483647), (19, 1, 32), (20, 1, 1)] [1, 2, 9, 10, 11, 12, 13, 14, 15, 16, 35, 36, 37, 38, 39, 40, 41, 42, 49, 50] (by decide +kernel) (fun ρ α => by
  intro r4 g4 b4 r5 g5 b5 r6 g6 b6 r13 g13 b13 r14 g14 b14 r15 g15 b15 r16 g16 b16 r17 g17 b17 r19 g19 b19 r20 g20 b20 a1 h1 a2 h2 a9 h9 a10 h10 a11 h11 a12 h12 a13 h13 a14 h14 a15 h15 a16 h16 a35 h35 a36 h36 a37 h37 a38 h38 a39 h39 a40 h40 a41 h41 a42 h42 a49 h49 a50 h50 f0 f1 f2 f3 f4 f5 f6 f7 f8 f9 f10 f11 f12 tt
  clear f0
  have e78 : PT 78 = P_ly := pe78_19 hp
  have e105 : PT 105 = P_cp2 := pe105_19 hp
  have e106 : PT 106 = P_rd := pe106_19 hp
  have e224 : PT 224 = P_ihY := pe224_19 hp
  have e225 : PT 225 = P_hv1 := pe225_19 hp
  have e228 : PT 228 = P_hbY := pe228_19 hp
  simp only [hF0, hF2, hF3, hF13, hF21, hFp_78, hFp_105, hFp_106, hFp_224, hFp_225, hFp_228, e78, e105, e106, e224, e225, e228, P_ly, P_cp2, P_rd, P_ihY, P_hv1, P_hbY, den_s, den_c, Int.add_zero, List.map_cons, List.map_nil, g4, g5, g6, g13, g14, g15, g16, g17, g19, g20, h1, h2, h9, h10, h11, h12, h13, h14, h15, h16, h35, h36, h37, h38, h39, h40, h41, h42, h49, h50] at f1 f2 f3 f4 f5 f6 f7 f8 f9 f10 f11 f12 ⊢
  clear g4 g5 g6 g13 g14 g15 g16 g17 g19 g20 h1 h2 h9 h10 h11 h12 h13 h14 h15 h16 h35 h36 h37 h38 h39 h40 h41 h42 h49 h50 e78 e105 e106 e224 e225 e228 tt
  subst f2
  subst f3
  have h0 : hqY r14 r15 r4 r5 r6 a35 a36 a37 a38 a39 a40 a41 a42 a11 a12 a13 a14 a15 a16 (mShl 1 r13) r20 := f1 (by omega) (by omega)
  rw [show r20 = 1 by omega] at h0
  exact ⟨⟨f5, f6⟩, r13, 0, Or.inr (Or.inl ⟨by first | rfl | trivial, by omega, by omega, f7, h0⟩), fun _ => (by rw [updI_at]), fun q => by exfalso; omega⟩)
def w_hushBy_2_0 : VC := ((bY ++ [(0, 6), (0, 8), (0, 10), (0, 11), ((-2147483648), 2147483647), ((-2147483648), 2147483647)]), [(3, [(some 13, 0), (some 5, 0)], []), (106, [(some 14, 0), (some 15, 0)], [1, 2, 35, 36, 37, 38, 39, 40]), (105, [(some 4, 0)], [9, 10, 41, 42]), (227, [(some 13, 0), (some 14, 0), (some 15, 0), (some 4, 0), (some 5, 0), (some 6, 0)], [35, 36, 37, 38, 39, 40, 41, 42, 11, 12, 13, 14, 15, 16]), (0, [(some 16, 0), (some 15, 0)], []), (0, [(some 17, 0), (none, 0)], []), (0, [(some 4, 0), (some 4, 0)], []), (3, [(some 5, 0), (some 13, 0)], []), (78, [], [1])], (228, [(none, (-1)), (some 14, 0), (some 15, 0), (some 4, 0), (some 5, 0), (some 6, 0)], [1, 2, 35, 36, 37, 38, 39, 40, 41, 42, 9, 10, 11, 12, 13, 14, 15, 16, 49]))
set_option maxRecDepth 20000 in
theorem v_hushBy_2_0 {PT : PTy} (hp : HP19 PT) : vcOk PT w_hushBy_2_0 := vc_iv [(4, 0, 8), (5, 0, 6), (6, 0, 6), (13, 0, 6), (14, 0, 8), (15, 0, 10), (16, 0, 11), (17, (-2147483648), 2147483647)] [1, 2, 9, 10, 11, 12, 13, 14, 15, 16, 35, 36, 37, 38, 39, 40, 41, 42, 49] (by decide +kernel) (fun ρ α => by
  intro r4 g4 b4 r5 g5 b5 r6 g6 b6 r13 g13 b13 r14 g14 b14 r15 g15 b15 r16 g16 b16 r17 g17 b17 a1 h1 a2 h2 a9 h9 a10 h10 a11 h11 a12 h12 a13 h13 a14 h14 a15 h15 a16 h16 a35 h35 a36 h36 a37 h37 a38 h38 a39 h39 a40 h40 a41 h41 a42 h42 a49 h49 f0 f1 f2 f3 f4 f5 f6 f7 f8 tt
  have e78 : PT 78 = P_ly := pe78_19 hp
  have e105 : PT 105 = P_cp2 := pe105_19 hp
  have e106 : PT 106 = P_rd := pe106_19 hp
  have e227 : PT 227 = P_hv3 := pe227_19 hp
  have e228 : PT 228 = P_hbY := pe228_19 hp
  simp only [hF0, hF3, hFp_78, hFp_105, hFp_106, hFp_227, hFp_228, e78, e105, e106, e227, e228, P_ly, P_cp2, P_rd, P_hv3, P_hbY, den_s, den_c, Int.add_zero, List.map_cons, List.map_nil, g4, g5, g6, g13, g14, g15, g16, g17, h1, h2, h9, h10, h11, h12, h13, h14, h15, h16, h35, h36, h37, h38, h39, h40, h41, h42, h49] at f0 f1 f2 f3 f4 f5 f6 f7 f8 ⊢
  clear g4 g5 g6 g13 g14 g15 g16 g17 h1 h2 h9 h10 h11 h12 h13 h14 h15 h16 h35 h36 h37 h38 h39 h40 h41 h42 h49 e78 e105 e106 e227 e228 tt
  have u := f3
  rw [show r13 = r5 by omega] at u
  exact ⟨⟨f1, f2⟩, 0, 0, Or.inr (Or.inr (Or.inr ⟨by first | rfl | trivial, u⟩)), fun q => by exfalso; omega, fun q => by exfalso; omega⟩)
def w_hushBy_2_1 : VC := (([(0, 23), (0, 49), (0, 8), (0, 10), (0, 8), (1, 6), (0, 6), (0, 8), (0, 11), (0, 9), ((-2147483648), 2147483647), ((-2147483648), 2147483647), (0, 5), (0, 5), (0, 8), (0, 10), (0, 11), ((-2147483648), 2147483647), ((-2147483648), 2147483647)]), [(2, [(some 13, 0), (some 5, 0)], []), (106, [(some 14, 0), (some 15, 0)], [1, 2, 35, 36, 37, 38, 39, 40]), (105, [(some 4, 0)], [9, 10, 41, 42]), (227, [(some 13, 0), (some 14, 0), (some 15, 0), (some 4, 0), (some 5, 0), (some 6, 0)], [35, 36, 37, 38, 39, 40, 41, 42, 11, 12, 13, 14, 15, 16]), (0, [(some 16, 0), (some 15, 0)], []), (0, [(some 17, 0), (none, 0)], []), (0, [(some 4, 0), (some 4, 0)], []), (3, [(some 5, 0), (some 13, 0)], []), (78, [], [1])], (226, [(some 13, 0), (some 13, 1), (some 14, 0), (some 15, 0), (some 4, 0), (some 5, 0), (some 6, 0)], [35, 36, 37, 38, 39, 40, 41, 42, 11, 12, 13, 14, 15, 16]))
theorem pe226_19 {PT : PTy} (hp : HP19 PT) : PT 226 = P_hv2 := hp.2.2.2.2.2.2.2.2.1
set_option maxRecDepth 20000 in
theorem v_hushBy_2_1 {PT : PTy} (hp : HP19 PT) : vcOk PT w_hushBy_2_1 := vc_iv [(4, 0, 8), (5, 1, 6), (6, 0, 6), (13, 0, 5), (14, 0, 8), (15, 0, 10), (16, 0, 11), (17, (-2147483648), 2147483647)] [1, 2, 9, 10, 11, 12, 13, 14, 15, 16, 35, 36, 37, 38, 39, 40, 41, 42] (by decide +kernel) (fun ρ α => by
  intro r4 g4 b4 r5 g5 b5 r6 g6 b6 r13 g13 b13 r14 g14 b14 r15 g15 b15 r16 g16 b16 r17 g17 b17 a1 h1 a2 h2 a9 h9 a10 h10 a11 h11 a12 h12 a13 h13 a14 h14 a15 h15 a16 h16 a35 h35 a36 h36 a37 h37 a38 h38 a39 h39 a40 h40 a41 h41 a42 h42 f0 f1 f2 f3 f4 f5 f6 f7 f8 tt
  have e78 : PT 78 = P_ly := pe78_19 hp
  have e105 : PT 105 = P_cp2 := pe105_19 hp
  have e106 : PT 106 = P_rd := pe106_19 hp
  have e226 : PT 226 = P_hv2 := pe226_19 hp
  have e227 : PT 227 = P_hv3 := pe227_19 hp
  simp only [hF0, hF2, hF3, hFp_78, hFp_105, hFp_106, hFp_226, hFp_227, e78, e105, e106, e226, e227, P_ly, P_cp2, P_rd, P_hv2, P_hv3, den_s, den_c, Int.add_zero, List.map_cons, List.map_nil, g4, g5, g6, g13, g14, g15, g16, g17, h1, h2, h9, h10, h11, h12, h13, h14, h15, h16, h35, h36, h37, h38, h39, h40, h41, h42] at f0 f1 f2 f3 f4 f5 f6 f7 f8 ⊢
  clear g4 g5 g6 g13 g14 g15 g16 g17 h1 h2 h9 h10 h11 h12 h13 h14 h15 h16 h35 h36 h37 h38 h39 h40 h41 h42 e78 e105 e106 e226 e227 tt
  obtain ⟨u1, u2⟩ := f3
  exact ⟨u1, u2, fun k h1 h2 => by exfalso; omega⟩)
def w_hushBy_2_2 : VC := (([(0, 23), (0, 49), (0, 8), (0, 10), (0, 8), (1, 6), (0, 6), (0, 8), (0, 11), (0, 9), ((-2147483648), 2147483647), ((-2147483648), 2147483647), (0, 5), (0, 5), (0, 8), (0, 10), (0, 11), ((-2147483648), 2147483647), ((-2147483648), 2147483647)]), [(2, [(some 13, 0), (some 5, 0)], []), (106, [(some 14, 0), (some 15, 0)], [1, 2, 35, 36, 37, 38, 39, 40]), (105, [(some 4, 0)], [9, 10, 41, 42]), (227, [(some 13, 0), (some 14, 0), (some 15, 0), (some 4, 0), (some 5, 0), (some 6, 0)], [35, 36, 37, 38, 39, 40, 41, 42, 11, 12, 13, 14, 15, 16]), (0, [(some 16, 0), (some 15, 0)], []), (0, [(some 17, 0), (none, 0)], []), (0, [(some 4, 0), (some 4, 0)], []), (3, [(some 5, 0), (some 13, 0)], []), (78, [], [1])], (3, [(some 5, 0), (some 13, 1)], []))
set_option maxRecDepth 20000 in
theorem v_hushBy_2_2 {PT : PTy} (hp : HP19 PT) : vcOk PT w_hushBy_2_2 := vc_iv [(4, 0, 8), (5, 1, 6), (6, 0, 6), (13, 0, 5), (14, 0, 8), (15, 0, 10), (16, 0, 11), (17, (-2147483648), 2147483647)] [1, 2, 9, 10, 11, 12, 13, 14, 15, 16, 35, 36, 37, 38, 39, 40, 41, 42] (by decide +kernel) (fun ρ α => by
  intro r4 g4 b4 r5 g5 b5 r6 g6 b6 r13 g13 b13 r14 g14 b14 r15 g15 b15 r16 g16 b16 r17 g17 b17 a1 h1 a2 h2 a9 h9 a10 h10 a11 h11 a12 h12 a13 h13 a14 h14 a15 h15 a16 h16 a35 h35 a36 h36 a37 h37 a38 h38 a39 h39 a40 h40 a41 h41 a42 h42 f0 f1 f2 f3 f4 f5 f6 f7 f8 tt
  have e78 : PT 78 = P_ly := pe78_19 hp
  have e105 : PT 105 = P_cp2 := pe105_19 hp
  have e106 : PT 106 = P_rd := pe106_19 hp
  have e227 : PT 227 = P_hv3 := pe227_19 hp
  simp only [hF0, hF2, hF3, hFp_78, hFp_105, hFp_106, hFp_227, e78, e105, e106, e227, P_ly, P_cp2, P_rd, P_hv3, den_s, den_c, Int.add_zero, List.map_cons, List.map_nil, g4, g5, g6, g13, g14, g15, g16, g17, h1, h2, h9, h10, h11, h12, h13, h14, h15, h16, h35, h36, h37, h38, h39, h40, h41, h42] at f0 f1 f2 f3 f4 f5 f6 f7 f8 ⊢
  clear g4 g5 g6 g13 g14 g15 g16 g17 h1 h2 h9 h10 h11 h12 h13 h14 h15 h16 h35 h36 h37 h38 h39 h40 h41 h42 e78 e105 e106 e227 tt
  omega)
def w_hushBy_2_3 : VC := (([(0, 23), (0, 49), (0, 8), (0, 10), (0, 8), (1, 6), (0, 6), (0, 8), (0, 11), (0, 9), ((-2147483648), 2147483647), ((-2147483648), 2147483647), (0, 5), (0, 5), (0, 8), (0, 10), (0, 11), ((-2147483648), 2147483647), ((-2147483648), 2147483647)]), [(2, [(some 13, 0), (some 5, 0)], []), (106, [(some 14, 0), (some 15, 0)], [1, 2, 35, 36, 37, 38, 39, 40]), (105, [(some 4, 0)], [9, 10, 41, 42]), (227, [(some 13, 0), (some 14, 0), (some 15, 0), (some 4, 0), (some 5, 0), (some 6, 0)], [35, 36, 37, 38, 39, 40, 41, 42, 11, 12, 13, 14, 15, 16]), (0, [(some 16, 0), (some 15, 0)], []), (0, [(some 17, 0), (none, 0)], []), (0, [(some 4, 0), (some 4, 0)], []), (3, [(some 5, 0), (some 13, 0)], []), (78, [], [1])], (2, [(some 13, 0), (some 13, 1)], []))
set_option maxRecDepth 20000 in
theorem v_hushBy_2_3 {PT : PTy} (hp : HP19 PT) : vcOk PT w_hushBy_2_3 := vc_iv [(4, 0, 8), (5, 1, 6), (6, 0, 6), (13, 0, 5), (14, 0, 8), (15, 0, 10), (16, 0, 11), (17, (-2147483648), 2147483647)] [1, 2, 9, 10, 11, 12, 13, 14, 15, 16, 35, 36, 37, 38, 39, 40, 41, 42] (by decide +kernel) (fun ρ α => by
  intro r4 g4 b4 r5 g5 b5 r6 g6 b6 r13 g13 b13 r14 g14 b14 r15 g15 b15 r16 g16 b16 r17 g17 b17 a1 h1 a2 h2 a9 h9 a10 h10 a11 h11 a12 h12 a13 h13 a14 h14 a15 h15 a16 h16 a35 h35 a36 h36 a37 h37 a38 h38 a39 h39 a40 h40 a41 h41 a42 h42 f0 f1 f2 f3 f4 f5 f6 f7 f8 tt
  have e78 : PT 78 = P_ly := pe78_19 hp
  have e105 : PT 105 = P_cp2 := pe105_19 hp
  have e106 : PT 106 = P_rd := pe106_19 hp
  have e227 : PT 227 = P_hv3 := pe227_19 hp
  simp only [hF0, hF2, hF3, hFp_78, hFp_105, hFp_106, hFp_227, e78, e105, e106, e227, P_ly, P_cp2, P_rd, P_hv3, den_s, den_c, Int.add_zero, List.map_cons, List.map_nil, g4, g5, g6, g13, g14, g15, g16, g17, h1, h2, h9, h10, h11, h12, h13, h14, h15, h16, h35, h36, h37, h38, h39, h40, h41, h42] at f0 f1 f2 f3 f4 f5 f6 f7 f8 ⊢
  clear g4 g5 g6 g13 g14 g15 g16 g17 h1 h2 h9 h10 h11 h12 h13 h14 h15 h16 h35 h36 h37 h38 h39 h40 h41 h42 e78 e105 e106 e227 tt
  omega)
def w_hushBy_3_0 : VC := (([(0, 23), (0, 49), (0, 8), (0, 10), (0, 8), (1, 6), (0, 6), (0, 8), (0, 11), (0, 9), ((-2147483648), 2147483647), ((-2147483648), 2147483647), (0, 5), (0, 5), (1, 6), (0, 8), (0, 10), (0, 11), ((-2147483648), 2147483647), ((-2147483648), 2147483647)]), [(3, [(some 14, 0), (some 5, 0)], []), (106, [(some 15, 0), (some 16, 0)], [1, 2, 35, 36, 37, 38, 39, 40]), (105, [(some 4, 0)], [9, 10, 41, 42]), (226, [(some 13, 0), (some 14, 0), (some 15, 0), (some 16, 0), (some 4, 0), (some 5, 0), (some 6, 0)], [35, 36, 37, 38, 39, 40, 41, 42, 11, 12, 13, 14, 15, 16]), (0, [(some 17, 0), (some 16, 0)], []), (0, [(some 18, 0), (none, 0)], []), (0, [(some 4, 0), (some 4, 0)], []), (3, [(some 5, 0), (some 14, 0)], []), (2, [(some 13, 0), (some 14, 0)], []), (2, [(some 13, 0), (some 5, 0)], []), (78, [], [1])], (227, [(some 13, 1), (some 15, 0), (some 16, 0), (some 4, 0), (some 5, 0), (some 6, 0)], [35, 36, 37, 38, 39, 40, 41, 42, 11, 12, 13, 14, 15, 16]))
set_option maxRecDepth 20000 in
theorem v_hushBy_3_0 {PT : PTy} (hp : HP19 PT) : vcOk PT w_hushBy_3_0 := vc_iv [(4, 0, 8), (5, 1, 6), (6, 0, 6), (13, 0, 5), (14, 1, 6), (15, 0, 8), (16, 0, 10), (17, 0, 11), (18, (-2147483648), 2147483647)] [1, 2, 9, 10, 11, 12, 13, 14, 15, 16, 35, 36, 37, 38, 39, 40, 41, 42] (by decide +kernel) (fun ρ α => by
  intro r4 g4 b4 r5 g5 b5 r6 g6 b6 r13 g13 b13 r14 g14 b14 r15 g15 b15 r16 g16 b16 r17 g17 b17 r18 g18 b18 a1 h1 a2 h2 a9 h9 a10 h10 a11 h11 a12 h12 a13 h13 a14 h14 a15 h15 a16 h16 a35 h35 a36 h36 a37 h37 a38 h38 a39 h39 a40 h40 a41 h41 a42 h42 f0 f1 f2 f3 f4 f5 f6 f7 f8 f9 f10 tt
  have e78 : PT 78 = P_ly := pe78_19 hp
  have e105 : PT 105 = P_cp2 := pe105_19 hp
  have e106 : PT 106 = P_rd := pe106_19 hp
  have e226 : PT 226 = P_hv2 := pe226_19 hp
  have e227 : PT 227 = P_hv3 := pe227_19 hp
  simp only [hF0, hF2, hF3, hFp_78, hFp_105, hFp_106, hFp_226, hFp_227, e78, e105, e106, e226, e227, P_ly, P_cp2, P_rd, P_hv2, P_hv3, den_s, den_c, Int.add_zero, List.map_cons, List.map_nil, g4, g5, g6, g13, g14, g15, g16, g17, g18, h1, h2, h9, h10, h11, h12, h13, h14, h15, h16, h35, h36, h37, h38, h39, h40, h41, h42] at f0 f1 f2 f3 f4 f5 f6 f7 f8 f9 f10 ⊢
  clear g4 g5 g6 g13 g14 g15 g16 g17 g18 h1 h2 h9 h10 h11 h12 h13 h14 h15 h16 h35 h36 h37 h38 h39 h40 h41 h42 e78 e105 e106 e226 e227 tt
  obtain ⟨u1, u2, u3⟩ := f3
  exact ⟨u1, fun j k h1 h2 h3 h4 => by
    by_cases q : j = r13
    · subst q; exact u3 k h3 (by omega)
    · exact u2 j k h1 (by omega) h3 h4⟩)
def w_hushBy_3_1 : VC := (([(0, 23), (0, 49), (0, 8), (0, 10), (0, 8), (1, 6), (0, 6), (0, 8), (0, 11), (0, 9), ((-2147483648), 2147483647), ((-2147483648), 2147483647), (0, 5), (0, 5), (1, 6), (0, 8), (0, 10), (0, 11), ((-2147483648), 2147483647), ((-2147483648), 2147483647)]), [(3, [(some 14, 0), (some 5, 0)], []), (106, [(some 15, 0), (some 16, 0)], [1, 2, 35, 36, 37, 38, 39, 40]), (105, [(some 4, 0)], [9, 10, 41, 42]), (226, [(some 13, 0), (some 14, 0), (some 15, 0), (some 16, 0), (some 4, 0), (some 5, 0), (some 6, 0)], [35, 36, 37, 38, 39, 40, 41, 42, 11, 12, 13, 14, 15, 16]), (0, [(some 17, 0), (some 16, 0)], []), (0, [(some 18, 0), (none, 0)], []), (0, [(some 4, 0), (some 4, 0)], []), (3, [(some 5, 0), (some 14, 0)], []), (2, [(some 13, 0), (some 14, 0)], []), (2, [(some 13, 0), (some 5, 0)], []), (78, [], [1])], (3, [(some 5, 0), (some 13, 1)], []))
set_option maxRecDepth 20000 in
theorem v_hushBy_3_1 {PT : PTy} (hp : HP19 PT) : vcOk PT w_hushBy_3_1 := vc_iv [(4, 0, 8), (5, 1, 6), (6, 0, 6), (13, 0, 5), (14, 1, 6), (15, 0, 8), (16, 0, 10), (17, 0, 11), (18, (-2147483648), 2147483647)] [1, 2, 9, 10, 11, 12, 13, 14, 15, 16, 35, 36, 37, 38, 39, 40, 41, 42] (by decide +kernel) (fun ρ α => by
  intro r4 g4 b4 r5 g5 b5 r6 g6 b6 r13 g13 b13 r14 g14 b14 r15 g15 b15 r16 g16 b16 r17 g17 b17 r18 g18 b18 a1 h1 a2 h2 a9 h9 a10 h10 a11 h11 a12 h12 a13 h13 a14 h14 a15 h15 a16 h16 a35 h35 a36 h36 a37 h37 a38 h38 a39 h39 a40 h40 a41 h41 a42 h42 f0 f1 f2 f3 f4 f5 f6 f7 f8 f9 f10 tt
  have e78 : PT 78 = P_ly := pe78_19 hp
  have e105 : PT 105 = P_cp2 := pe105_19 hp
  have e106 : PT 106 = P_rd := pe106_19 hp
  have e226 : PT 226 = P_hv2 := pe226_19 hp
  simp only [hF0, hF2, hF3, hFp_78, hFp_105, hFp_106, hFp_226, e78, e105, e106, e226, P_ly, P_cp2, P_rd, P_hv2, den_s, den_c, Int.add_zero, List.map_cons, List.map_nil, g4, g5, g6, g13, g14, g15, g16, g17, g18, h1, h2, h9, h10, h11, h12, h13, h14, h15, h16, h35, h36, h37, h38, h39, h40, h41, h42] at f0 f1 f2 f3 f4 f5 f6 f7 f8 f9 f10 ⊢
  clear g4 g5 g6 g13 g14 g15 g16 g17 g18 h1 h2 h9 h10 h11 h12 h13 h14 h15 h16 h35 h36 h37 h38 h39 h40 h41 h42 e78 e105 e106 e226 tt
  omega)
def w_hushBy_3_2 : VC := (([(0, 23), (0, 49), (0, 8), (0, 10), (0, 8), (2, 6), (0, 6), (0, 8), (0, 11), (0, 9), ((-2147483648), 2147483647), ((-2147483648), 2147483647), (0, 5), (0, 5), (1, 5), (0, 8), (0, 10), (0, 11), ((-2147483648), 2147483647), ((-2147483648), 2147483647), (1, 32), (2, 32), ((-2147483648), 2147483647), (0, 0)]), [(0, [(some 23, 0), (none, 0)], []), (224, [(some 23, 0), (some 22, 0), (some 15, 0), (some 16, 0), (some 4, 0), (some 5, 0), (some 6, 0), (some 17, 0), (some 18, 0)], [35, 36, 37, 38, 39, 40, 41, 42, 11, 12, 13, 14, 15, 16]), (11, [(some 22, 0), (some 20, 0), (some 21, 0)], []), (13, [(some 21, 0), (none, 1), (some 14, 0)], []), (13, [(some 20, 0), (none, 1), (some 13, 0)], []), (21, [(none, 1), (some 14, 0)], [51, 50]), (21, [(none, 0), (some 13, 0)], [50, 49]), (2, [(some 14, 0), (some 5, 0)], []), (106, [(some 15, 0), (some 16, 0)], [1, 2, 35, 36, 37, 38, 39, 40]), (105, [(some 4, 0)], [9, 10, 41, 42]), (226, [(some 13, 0), (some 14, 0), (some 15, 0), (some 16, 0), (some 4, 0), (some 5, 0), (some 6, 0)], [35, 36, 37, 38, 39, 40, 41, 42, 11, 12, 13, 14, 15, 16]), (0, [(some 17, 0), (some 16, 0)], []), (0, [(some 18, 0), (none, 0)], []), (0, [(some 4, 0), (some 4, 0)], []), (3, [(some 5, 0), (some 14, 0)], []), (2, [(some 13, 0), (some 14, 0)], []), (2, [(some 13, 0), (some 5, 0)], []), (78, [], [1])], (226, [(some 13, 0), (some 14, 1), (some 15, 0), (some 16, 0), (some 4, 0), (some 5, 0), (some 6, 0)], [35, 36, 37, 38, 39, 40, 41, 42, 11, 12, 13, 14, 15, 16]))
set_option maxRecDepth 20000 in
theorem v_hushBy_3_2 {PT : PTy} (hp : HP19 PT) : vcOk PT w_hushBy_3_2 := vc_iv [(4, 0, 8), (5, 2, 6), (6, 0, 6), (13, 0, 5), (14, 1, 5), (15, 0, 8), (16, 0, 10), (17, 0, 11), (18, (-2147483648), 2147483647), (20, 1, 32), (21, 2, 32), (22, (-2147483648), 2147483647), (23, 0, 0)] [1, 2, 9, 10, 11, 12, 13, 14, 15, 16, 35, 36, 37, 38, 39, 40, 41, 42, 49, 50, 51] (by decide +kernel) (fun ρ α => by
  intro r4 g4 b4 r5 g5 b5 r6 g6 b6 r13 g13 b13 r14 g14 b14 r15 g15 b15 r16 g16 b16 r17 g17 b17 r18 g18 b18 r20 g20 b20 r21 g21 b21 r22 g22 b22 r23 g23 b23 a1 h1 a2 h2 a9 h9 a10 h10 a11 h11 a12 h12 a13 h13 a14 h14 a15 h15 a16 h16 a35 h35 a36 h36 a37 h37 a38 h38 a39 h39 a40 h40 a41 h41 a42 h42 a49 h49 a50 h50 a51 h51 f0 f1 f2 f3 f4 f5 f6 f7 f8 f9 f10 f11 f12 f13 f14 f15 f16 f17 tt
  have e78 : PT 78 = P_ly := pe78_19 hp
  have e105 : PT 105 = P_cp2 := pe105_19 hp
  have e106 : PT 106 = P_rd := pe106_19 hp
  have e224 : PT 224 = P_ihY := pe224_19 hp
  have e226 : PT 226 = P_hv2 := pe226_19 hp
  simp only [hF0, hF2, hF3, hF11, hF13, hF21, hFp_78, hFp_105, hFp_106, hFp_224, hFp_226, e78, e105, e106, e224, e226, P_ly, P_cp2, P_rd, P_ihY, P_hv2, den_s, den_c, Int.add_zero, List.map_cons, List.map_nil, g4, g5, g6, g13, g14, g15, g16, g17, g18, g20, g21, g22, g23, h1, h2, h9, h10, h11, h12, h13, h14, h15, h16, h35, h36, h37, h38, h39, h40, h41, h42, h49, h50, h51] at f0 f1 f2 f3 f4 f5 f6 f7 f8 f9 f10 f11 f12 f13 f14 f15 f16 f17 ⊢
  clear g4 g5 g6 g13 g14 g15 g16 g17 g18 g20 g21 g22 g23 h1 h2 h9 h10 h11 h12 h13 h14 h15 h16 h35 h36 h37 h38 h39 h40 h41 h42 h49 h50 h51 e78 e105 e106 e224 e226 tt
  subst f2
  subst f3
  subst f4
  subst f5
  subst f6
  have h0 : hqY r15 r16 r4 r5 r6 a35 a36 a37 a38 a39 a40 a41 a42 a11 a12 a13 a14 a15 a16 (mOr (mShl 1 r13) (mShl 1 r14)) r23 := f1 (by omega) (by omega)
  rw [show r23 = 0 by omega] at h0
  obtain ⟨u1, u2, u3⟩ := f10
  exact ⟨u1, u2, fun k h1 h2 => by
    by_cases q : k = r14
    · subst q; exact h0
    · exact u3 k h1 (by omega)⟩)
def w_hushBy_3_3 : VC := (([(0, 23), (0, 49), (0, 8), (0, 10), (0, 8), (2, 6), (0, 6), (0, 8), (0, 11), (0, 9), ((-2147483648), 2147483647), ((-2147483648), 2147483647), (0, 5), (0, 5), (1, 5), (0, 8), (0, 10), (0, 11), ((-2147483648), 2147483647), ((-2147483648), 2147483647), (1, 32), (2, 32), ((-2147483648), 2147483647), (0, 0)]), [(0, [(some 23, 0), (none, 0)], []), (224, [(some 23, 0), (some 22, 0), (some 15, 0), (some 16, 0), (some 4, 0), (some 5, 0), (some 6, 0), (some 17, 0), (some 18, 0)], [35, 36, 37, 38, 39, 40, 41, 42, 11, 12, 13, 14, 15, 16]), (11, [(some 22, 0), (some 20, 0), (some 21, 0)], []), (13, [(some 21, 0), (none, 1), (some 14, 0)], []), (13, [(some 20, 0), (none, 1), (some 13, 0)], []), (21, [(none, 1), (some 14, 0)], [51, 50]), (21, [(none, 0), (some 13, 0)], [50, 49]), (2, [(some 14, 0), (some 5, 0)], []), (106, [(some 15, 0), (some 16, 0)], [1, 2, 35, 36, 37, 38, 39, 40]), (105, [(some 4, 0)], [9, 10, 41, 42]), (226, [(some 13, 0), (some 14, 0), (some 15, 0), (some 16, 0), (some 4, 0), (some 5, 0), (some 6, 0)], [35, 36, 37, 38, 39, 40, 41, 42, 11, 12, 13, 14, 15, 16]), (0, [(some 17, 0), (some 16, 0)], []), (0, [(some 18, 0), (none, 0)], []), (0, [(some 4, 0), (some 4, 0)], []), (3, [(some 5, 0), (some 14, 0)], []), (2, [(some 13, 0), (some 14, 0)], []), (2, [(some 13, 0), (some 5, 0)], []), (78, [], [1])], (3, [(some 5, 0), (some 14, 1)], []))
set_option maxRecDepth 20000 in
theorem v_hushBy_3_3 {PT : PTy} (hp : HP19 PT) : vcOk PT w_hushBy_3_3 := vc_iv [(4, 0, 8), (5, 2, 6), (6, 0, 6), (13, 0, 5), (14, 1, 5), (15, 0, 8), (16, 0, 10), (17, 0, 11), (18, (-2147483648), 2147483647), (20, 1, 32), (21, 2, 32), (22, (-2147483648), 2147483647), (23, 0, 0)] [1, 2, 9, 10, 11, 12, 13, 14, 15, 16, 35, 36, 37, 38, 39, 40, 41, 42, 49, 50, 51] (by decide +kernel) (fun ρ α => by
  intro r4 g4 b4 r5 g5 b5 r6 g6 b6 r13 g13 b13 r14 g14 b14 r15 g15 b15 r16 g16 b16 r17 g17 b17 r18 g18 b18 r20 g20 b20 r21 g21 b21 r22 g22 b22 r23 g23 b23 a1 h1 a2 h2 a9 h9 a10 h10 a11 h11 a12 h12 a13 h13 a14 h14 a15 h15 a16 h16 a35 h35 a36 h36 a37 h37 a38 h38 a39 h39 a40 h40 a41 h41 a42 h42 a49 h49 a50 h50 a51 h51 f0 f1 f2 f3 f4 f5 f6 f7 f8 f9 f10 f11 f12 f13 f14 f15 f16 f17 tt
  have e78 : PT 78 = P_ly := pe78_19 hp
  have e105 : PT 105 = P_cp2 := pe105_19 hp
  have e106 : PT 106 = P_rd := pe106_19 hp
  have e224 : PT 224 = P_ihY := pe224_19 hp
  have e226 : PT 226 = P_hv2 := pe226_19 hp
  simp only [hF0, hF2, hF3, hF11, hF13, hF21, hFp_78, hFp_105, hFp_106, hFp_224, hFp_226, e78, e105, e106, e224, e226, P_ly, P_cp2, P_rd, P_ihY, P_hv2, den_s, den_c, Int.add_zero, List.map_cons, List.map_nil, g4, g5, g6, g13, g14, g15, g16, g17, g18, g20, g21, g22, g23, h1, h2, h9, h10, h11, h12, h13, h14, h15, h16, h35, h36, h37, h38, h39, h40, h41, h42, h49, h50, h51] at f0 f1 f2 f3 f4 f5 f6 f7 f8 f9 f10 f11 f12 f13 f14 f15 f16 f17 ⊢
  clear g4 g5 g6 g13 g14 g15 g16 g17 g18 g20 g21 g22 g23 h1 h2 h9 h10 h11 h12 h13 h14 h15 h16 h35 h36 h37 h38 h39 h40 h41 h42 h49 h50 h51 e78 e105 e106 e224 e226 tt
  subst f2
  subst f3
  subst f4
  subst f5
  subst f6
  omega)
def w_hushBy_3_4 : VC := (([(0, 23), (0, 49), (0, 8), (0, 10), (0, 8), (2, 6), (0, 6), (0, 8), (0, 11), (0, 9), ((-2147483648), 2147483647), ((-2147483648), 2147483647), (0, 5), (0, 5), (1, 5), (0, 8), (0, 10), (0, 11), ((-2147483648), 2147483647), ((-2147483648), 2147483647), (1, 32), (2, 32), ((-2147483648), 2147483647), (0, 0)]), [(0, [(some 23, 0), (none, 0)], []), (224, [(some 23, 0), (some 22, 0), (some 15, 0), (some 16, 0), (some 4, 0), (some 5, 0), (some 6, 0), (some 17, 0), (some 18, 0)], [35, 36, 37, 38, 39, 40, 41, 42, 11, 12, 13, 14, 15, 16]), (11, [(some 22, 0), (some 20, 0), (some 21, 0)], []), (13, [(some 21, 0), (none, 1), (some 14, 0)], []), (13, [(some 20, 0), (none, 1), (some 13, 0)], []), (21, [(none, 1), (some 14, 0)], [51, 50]), (21, [(none, 0), (some 13, 0)], [50, 49]), (2, [(some 14, 0), (some 5, 0)], []), (106, [(some 15, 0), (some 16, 0)], [1, 2, 35, 36, 37, 38, 39, 40]), (105, [(some 4, 0)], [9, 10, 41, 42]), (226, [(some 13, 0), (some 14, 0), (some 15, 0), (some 16, 0), (some 4, 0), (some 5, 0), (some 6, 0)], [35, 36, 37, 38, 39, 40, 41, 42, 11, 12, 13, 14, 15, 16]), (0, [(some 17, 0), (some 16, 0)], []), (0, [(some 18, 0), (none, 0)], []), (0, [(some 4, 0), (some 4, 0)], []), (3, [(some 5, 0), (some 14, 0)], []), (2, [(some 13, 0), (some 14, 0)], []), (2, [(some 13, 0), (some 5, 0)], []), (78, [], [1])], (2, [(some 13, 0), (some 14, 1)], []))
set_option maxRecDepth 20000 in
theorem v_hushBy_3_4 {PT : PTy} (hp : HP19 PT) : vcOk PT w_hushBy_3_4 := vc_iv [(4, 0, 8), (5, 2, 6), (6, 0, 6), (13, 0, 5), (14, 1, 5), (15, 0, 8), (16, 0, 10), (17, 0, 11), (18, (-2147483648), 2147483647), (20, 1, 32), (21, 2, 32), (22, (-2147483648), 2147483647), (23, 0, 0)] [1, 2, 9, 10, 11, 12, 13, 14, 15, 16, 35, 36, 37, 38, 39, 40, 41, 42, 49, 50, 51] (by decide +kernel) (fun ρ α => by
  intro r4 g4 b4 r5 g5 b5 r6 g6 b6 r13 g13 b13 r14 g14 b14 r15 g15 b15 r16 g16 b16 r17 g17 b17 r18 g18 b18 r20 g20 b20 r21 g21 b21 r22 g22 b22 r23 g23 b23 a1 h1 a2 h2 a9 h9 a10 h10 a11 h11 a12 h12 a13 h13 a14 h14 a15 h15 a16 h16 a35 h35 a36 h36 a37 h37 a38 h38 a39 h39 a40 h40 a41 h41 a42 h42 a49 h49 a50 h50 a51 h51 f0 f1 f2 f3 f4 f5 f6 f7 f8 f9 f10 f11 f12 f13 f14 f15 f16 f17 tt
  have e78 : PT 78 = P_ly := pe78_19 hp
  have e105 : PT 105 = P_cp2 := pe105_19 hp
  have e106 : PT 106 = P_rd := pe106_19 hp
  have e224 : PT 224 = P_ihY := pe224_19 hp
  have e226 : PT 226 = P_hv2 := pe226_19 hp
  simp only [hF0, hF2, hF3, hF11, hF13, hF21, hFp_78, hFp_105, hFp_106, hFp_224, hFp_226, e78, e105, e106, e224, e226, P_ly, P_cp2, P_rd, P_ihY, P_hv2, den_s, den_c, Int.add_zero, List.map_cons, List.map_nil, g4, g5, g6, g13, g14, g15, g16, g17, g18, g20, g21, g22, g23, h1, h2, h9, h10, h11, h12, h13, h14, h15, h16, h35, h36, h37, h38, h39, h40, h41, h42, h49, h50, h51] at f0 f1 f2 f3 f4 f5 f6 f7 f8 f9 f10 f11 f12 f13 f14 f15 f16 f17 ⊢
  clear g4 g5 g6 g13 g14 g15 g16 g17 g18 g20 g21 g22 g23 h1 h2 h9 h10 h11 h12 h13 h14 h15 h16 h35 h36 h37 h38 h39 h40 h41 h42 h49 h50 h51 e78 e105 e106 e224 e226 tt
  subst f2
  subst f3
  subst f4
  subst f5
  subst f6
  omega)
def w_hushBy_3_5 : VC := (([(0, 23), (0, 49), (0, 8), (0, 10), (0, 8), (2, 6), (0, 6), (0, 8), (0, 11), (0, 9), ((-2147483648), 2147483647), ((-2147483648), 2147483647), (0, 5), (0, 5), (1, 5), (0, 8), (0, 10), (0, 11), ((-2147483648), 2147483647), ((-2147483648), 2147483647), (1, 32), (2, 32), ((-2147483648), 2147483647), (1, 1)]), [(1, [(some 23, 0), (none, 0)], []), (224, [(some 23, 0), (some 22, 0), (some 15, 0), (some 16, 0), (some 4, 0), (some 5, 0), (some 6, 0), (some 17, 0), (some 18, 0)], [35, 36, 37, 38, 39, 40, 41, 42, 11, 12, 13, 14, 15, 16]), (11, [(some 22, 0), (some 20, 0), (some 21, 0)], []), (13, [(some 21, 0), (none, 1), (some 14, 0)], []), (13, [(some 20, 0), (none, 1), (some 13, 0)], []), (21, [(none, 1), (some 14, 0)], [51, 50]), (21, [(none, 0), (some 13, 0)], [50, 49]), (2, [(some 14, 0), (some 5, 0)], []), (106, [(some 15, 0), (some 16, 0)], [1, 2, 35, 36, 37, 38, 39, 40]), (105, [(some 4, 0)], [9, 10, 41, 42]), (226, [(some 13, 0), (some 14, 0), (some 15, 0), (some 16, 0), (some 4, 0), (some 5, 0), (some 6, 0)], [35, 36, 37, 38, 39, 40, 41, 42, 11, 12, 13, 14, 15, 16]), (0, [(some 17, 0), (some 16, 0)], []), (0, [(some 18, 0), (none, 0)], []), (0, [(some 4, 0), (some 4, 0)], []), (3, [(some 5, 0), (some 14, 0)], []), (2, [(some 13, 0), (some 14, 0)], []), (2, [(some 13, 0), (some 5, 0)], []), (78, [], [1])], (228, [(none, 2), (some 15, 0), (some 16, 0), (some 4, 0), (some 5, 0), (some 6, 0)], [1, 2, 35, 36, 37, 38, 39, 40, 41, 42, 9, 10, 11, 12, 13, 14, 15, 16, 51]))
set_option maxRecDepth 20000 in
theorem v_hushBy_3_5 {PT : PTy} (hp : HP19 PT) : vcOk PT w_hushBy_3_5 := vc_iv [(4, 0, 8), (5, 2, 6), (6, 0, 6), (13, 0, 5), (14, 1, 5), (15, 0, 8), (16, 0, 10), (17, 0, 11), (18, (-2147483648), 2147483647), (20, 1, 32), (21, 2, 32), (22, (-2147483648), 2147483647), (23, 1, 1)] [1, 2, 9, 10, 11, 12, 13, 14, 15, 16, 35, 36, 37, 38, 39, 40, 41, 42, 49, 50, 51] (by decide +kernel) (fun ρ α => by
  intro r4 g4 b4 r5 g5 b5 r6 g6 b6 r13 g13 b13 r14 g14 b14 r15 g15 b15 r16 g16 b16 r17 g17 b17 r18 g18 b18 r20 g20 b20 r21 g21 b21 r22 g22 b22 r23 g23 b23 a1 h1 a2 h2 a9 h9 a10 h10 a11 h11 a12 h12 a13 h13 a14 h14 a15 h15 a16 h16 a35 h35 a36 h36 a37 h37 a38 h38 a39 h39 a40 h40 a41 h41 a42 h42 a49 h49 a50 h50 a51 h51 f0 f1 f2 f3 f4 f5 f6 f7 f8 f9 f10 f11 f12 f13 f14 f15 f16 f17 tt
  clear f0
  have e78 : PT 78 = P_ly := pe78_19 hp
  have e105 : PT 105 = P_cp2 := pe105_19 hp
  have e106 : PT 106 = P_rd := pe106_19 hp
  have e224 : PT 224 = P_ihY := pe224_19 hp
  have e226 : PT 226 = P_hv2 := pe226_19 hp
  have e228 : PT 228 = P_hbY := pe228_19 hp
  simp only [hF0, hF2, hF3, hF11, hF13, hF21, hFp_78, hFp_105, hFp_106, hFp_224, hFp_226, hFp_228, e78, e105, e106, e224, e226, e228, P_ly, P_cp2, P_rd, P_ihY, P_hv2, P_hbY, den_s, den_c, Int.add_zero, List.map_cons, List.map_nil, g4, g5, g6, g13, g14, g15, g16, g17, g18, g20, g21, g22, g23, h1, h2, h9, h10, h11, h12, h13, h14, h15, h16, h35, h36, h37, h38, h39, h40, h41, h42, h49, h50, h51] at f1 f2 f3 f4 f5 f6 f7 f8 f9 f10 f11 f12 f13 f14 f15 f16 f17 ⊢
  clear g4 g5 g6 g13 g14 g15 g16 g17 g18 g20 g21 g22 g23 h1 h2 h9 h10 h11 h12 h13 h14 h15 h16 h35 h36 h37 h38 h39 h40 h41 h42 h49 h50 h51 e78 e105 e106 e224 e226 e228 tt
  subst f2
  subst f3
  subst f4
  subst f5
  subst f6
  have h0 : hqY r15 r16 r4 r5 r6 a35 a36 a37 a38 a39 a40 a41 a42 a11 a12 a13 a14 a15 a16 (mOr (mShl 1 r13) (mShl 1 r14)) r23 := f1 (by omega) (by omega)
  rw [show r23 = 1 by omega] at h0
  exact ⟨⟨f8, f9⟩, r13, r14, Or.inr (Or.inr (Or.inl ⟨by first | rfl | trivial, by omega, by omega, by omega, f10, h0⟩)), fun _ => (by first | rfl | (rw [updI_ne (by omega), updI_at]) | (rw [updI_at])), fun _ => (by first | rfl | rw [updI_at])⟩)
set_option maxRecDepth 1000000 in
theorem k_hushBy {PT : PTy} (hp : HP19 PT) : wfX c_hushBy = true ∧ xcOk PT c_hushBy := xctr (xl (k_asTold hp.1.1.1.1.1.1.1.1.1.1.1.1.1.1) (xl (k_isHushed hp) (xl0))) c_hushBy 47 mX7_hushBy rfl h_hushBy (by decide +kernel) (by decide +kernel) (by decide) (vcs_by [w_hushBy_0_0, w_hushBy_0_1, w_hushBy_0_2] (by decide +kernel) (vc (v_hushBy_0_0 hp) (vc (v_hushBy_0_1 hp) (vc (v_hushBy_0_2 hp) vn)))) (fmc (vcs_by [w_hushBy_1_0, w_hushBy_1_1, w_hushBy_1_2, w_hushBy_1_3, w_hushBy_1_4] (by decide +kernel) (vc (v_hushBy_1_0 hp) (vc (v_hushBy_1_1 hp) (vc (v_hushBy_1_2 hp) (vc (v_hushBy_1_3 hp) (vc (v_hushBy_1_4 hp) vn)))))) (fmc (vcs_by [w_hushBy_2_0, w_hushBy_2_1, w_hushBy_2_2, w_hushBy_2_3] (by decide +kernel) (vc (v_hushBy_2_0 hp) (vc (v_hushBy_2_1 hp) (vc (v_hushBy_2_2 hp) (vc (v_hushBy_2_3 hp) vn))))) (fmc (vcs_by [w_hushBy_3_0, w_hushBy_3_1, w_hushBy_3_2, w_hushBy_3_3, w_hushBy_3_4, w_hushBy_3_5] (by decide +kernel) (vc (v_hushBy_3_0 hp) (vc (v_hushBy_3_1 hp) (vc (v_hushBy_3_2 hp) (vc (v_hushBy_3_3 hp) (vc (v_hushBy_3_4 hp) (vc (v_hushBy_3_5 hp) vn))))))) fmn)))
