/-! ===== plans; printed by wip/gen/x ===== -/
def P_lnX (l : List Int) (a : List (Int → Int)) : Prop := match l, a with
  | [r, h, n, m, nk, nl, nt, u], [so, sz, wh, gr, md, du, kd, ko, ld, lw, lm, td, tw, tm] => u = 0 → hqX n m nk nl nt so sz wh gr md du kd ko ld lw lm td tw tm h r
  | _, _ => False
theorem hFp_212 {PT : PTy} {ρ : Nat → Int} {α : Nat → Int → Int} (l : List AN) (a : List Nat) : hF PT ρ α (212, l, a) = PT 212 (l.map (den ρ)) (a.map α) := rfl
def P_hu1 (l : List Int) (a : List (Int → Int)) : Prop := match l, a with
  | [i, n, m, nk, nl, nt], [so, sz, wh, gr, md, du, kd, ko, ld, lw, lm, td, tw, tm] => hu1 (hqX n m nk nl nt so sz wh gr md du kd ko ld lw lm td tw tm) i
  | _, _ => False
theorem hFp_213 {PT : PTy} {ρ : Nat → Int} {α : Nat → Int → Int} (l : List AN) (a : List Nat) : hF PT ρ α (213, l, a) = PT 213 (l.map (den ρ)) (a.map α) := rfl
def P_hu2 (l : List Int) (a : List (Int → Int)) : Prop := match l, a with
  | [a, b, n, m, nk, nl, nt], [so, sz, wh, gr, md, du, kd, ko, ld, lw, lm, td, tw, tm] => hu2 (hqX n m nk nl nt so sz wh gr md du kd ko ld lw lm td tw tm) nl a b
  | _, _ => False
theorem hFp_214 {PT : PTy} {ρ : Nat → Int} {α : Nat → Int → Int} (l : List AN) (a : List Nat) : hF PT ρ α (214, l, a) = PT 214 (l.map (den ρ)) (a.map α) := rfl
def P_hu3 (l : List Int) (a : List (Int → Int)) : Prop := match l, a with
  | [a, n, m, nk, nl, nt], [so, sz, wh, gr, md, du, kd, ko, ld, lw, lm, td, tw, tm] => hu3 (hqX n m nk nl nt so sz wh gr md du kd ko ld lw lm td tw tm) nl a
  | _, _ => False
theorem hFp_215 {PT : PTy} {ρ : Nat → Int} {α : Nat → Int → Int} (l : List AN) (a : List Nat) : hF PT ρ α (215, l, a) = PT 215 (l.map (den ρ)) (a.map α) := rfl
def P_hsX (l : List Int) (a : List (Int → Int)) : Prop := match l, a with
  | [r, n, m, nk, nl, nt], [so, sz, wh, gr, md, du, kd, ko, ld, lw, lm, td, tw, tm] => ∃ c a b, huR (hqX n m nk nl nt so sz wh gr md du kd ko ld lw lm td tw tm) nl c a b ∧ (c = 0 → r = 0) ∧ (c = 1 → r = l1 a) ∧ (c = 2 → r = l2 a b) ∧ (c = -1 → r = -1)
  | _, _ => False
theorem hFp_216 {PT : PTy} {ρ : Nat → Int} {α : Nat → Int → Int} (l : List AN) (a : List Nat) : hF PT ρ α (216, l, a) = PT 216 (l.map (den ρ)) (a.map α) := rfl
def P_ihY (l : List Int) (a : List (Int → Int)) : Prop := match l, a with
  | [r, h, n, m, nk, nl, nt, m1, u], [so, sz, wh, gr, md, du, KD, KO, ld, lw, lm, td, tw, tm] => m1 = m → u = 0 → hqY n m nk nl nt so sz wh gr md du KD KO ld lw lm td tw tm h r
  | _, _ => False
theorem hFp_217 {PT : PTy} {ρ : Nat → Int} {α : Nat → Int → Int} (l : List AN) (a : List Nat) : hF PT ρ α (217, l, a) = PT 217 (l.map (den ρ)) (a.map α) := rfl
def P_hv1 (l : List Int) (a : List (Int → Int)) : Prop := match l, a with
  | [i, n, m, nk, nl, nt], [so, sz, wh, gr, md, du, KD, KO, ld, lw, lm, td, tw, tm] => hu1 (hqY n m nk nl nt so sz wh gr md du KD KO ld lw lm td tw tm) i
  | _, _ => False
theorem hFp_218 {PT : PTy} {ρ : Nat → Int} {α : Nat → Int → Int} (l : List AN) (a : List Nat) : hF PT ρ α (218, l, a) = PT 218 (l.map (den ρ)) (a.map α) := rfl
def P_hv2 (l : List Int) (a : List (Int → Int)) : Prop := match l, a with
  | [a, b, n, m, nk, nl, nt], [so, sz, wh, gr, md, du, KD, KO, ld, lw, lm, td, tw, tm] => hu2 (hqY n m nk nl nt so sz wh gr md du KD KO ld lw lm td tw tm) nl a b
  | _, _ => False
theorem hFp_219 {PT : PTy} {ρ : Nat → Int} {α : Nat → Int → Int} (l : List AN) (a : List Nat) : hF PT ρ α (219, l, a) = PT 219 (l.map (den ρ)) (a.map α) := rfl
def P_hv3 (l : List Int) (a : List (Int → Int)) : Prop := match l, a with
  | [a, n, m, nk, nl, nt], [so, sz, wh, gr, md, du, KD, KO, ld, lw, lm, td, tw, tm] => hu3 (hqY n m nk nl nt so sz wh gr md du KD KO ld lw lm td tw tm) nl a
  | _, _ => False
theorem hFp_220 {PT : PTy} {ρ : Nat → Int} {α : Nat → Int → Int} (l : List AN) (a : List Nat) : hF PT ρ α (220, l, a) = PT 220 (l.map (den ρ)) (a.map α) := rfl
def P_hbY (l : List Int) (a : List (Int → Int)) : Prop := match l, a with
  | [c, n, m, nk, nl, nt], [L, T, so, sz, wh, gr, md, du, KD, KO, kd, ko, ld, lw, lm, td, tw, tm, PR] => toY n m nk L T so sz wh gr md du KD KO kd ko ∧ ∃ a b, huR (hqY n m nk nl nt so sz wh gr md du KD KO ld lw lm td tw tm) nl c a b ∧ (1 ≤ c → PR 0 = a) ∧ (c = 2 → PR 1 = b)
  | _, _ => False
theorem hFp_221 {PT : PTy} {ρ : Nat → Int} {α : Nat → Int → Int} (l : List AN) (a : List Nat) : hF PT ρ α (221, l, a) = PT 221 (l.map (den ρ)) (a.map α) := rfl
def P_ohY (l : List Int) (a : List (Int → Int)) : Prop := match l, a with
  | [r, i, n, m, nk, nl, nt], [L, T, so, sz, wh, gr, md, du, KD, KO, kd, ko, ld, lw, lm, td, tw, tm] => (¬ (-1 ≤ i ∧ i ≤ 1) → r = -2) ∧ (-1 ≤ i ∧ i ≤ 1 → toY n m nk L T so sz wh gr md du KD KO kd ko ∧ ∃ c a b, huR (hqY n m nk nl nt so sz wh gr md du KD KO ld lw lm td tw tm) nl c a b ∧ (i = -1 → r = c) ∧ (0 ≤ i → c ≤ i → r = -1) ∧ (i = 0 → 1 ≤ c → r = a) ∧ (i = 1 → c = 2 → r = b))
  | _, _ => False
theorem hFp_222 {PT : PTy} {ρ : Nat → Int} {α : Nat → Int → Int} (l : List AN) (a : List Nat) : hF PT ρ α (222, l, a) = PT 222 (l.map (den ρ)) (a.map α) := rfl
def P_ohX (l : List Int) (a : List (Int → Int)) : Prop := match l, a with
  | [r, i, n, m, nk, nl, nt], [so, sz, wh, gr, md, du, kd, ko, ld, lw, lm, td, tw, tm] => (¬ (-1 ≤ i ∧ i ≤ 1) → r = -2) ∧ (-1 ≤ i ∧ i ≤ 1 → ∃ c a b, huR (hqX n m nk nl nt so sz wh gr md du kd ko ld lw lm td tw tm) nl c a b ∧ (i = -1 → r = c) ∧ (0 ≤ i → c ≤ i → r = -1) ∧ (i = 0 → 1 ≤ c → r = a) ∧ (i = 1 → c = 2 → r = b))
  | _, _ => False
theorem hFp_223 {PT : PTy} {ρ : Nat → Int} {α : Nat → Int → Int} (l : List AN) (a : List Nat) : hF PT ρ α (223, l, a) = PT 223 (l.map (den ρ)) (a.map α) := rfl
def HP18 (PT : PTy) : Prop := HP17 PT ∧ (PT 212 = P_lnX ∧ PT 213 = P_hu1 ∧ PT 214 = P_hu2 ∧ PT 215 = P_hu3 ∧ PT 216 = P_hsX ∧ PT 217 = P_ihY ∧ PT 218 = P_hv1 ∧ PT 219 = P_hv2 ∧ PT 220 = P_hv3 ∧ PT 221 = P_hbY ∧ PT 222 = P_ohY ∧ PT 223 = P_ohX ∧ True)
def c_lnNaked : XC := (91, 3, (bX ++ [((-2147483648), 2147483647)]), [.inr (.inl 0), .inl (some 14, 0)], (gX 14), [(150, [(some 9, 0), (some 2, 0), (some 3, 0), (some 4, 0), (some 5, 0), (some 6, 0)], [26, 27, 7, 8, 10, 11, 12, 13, 15, 16, 19, 20, 21, 23, 24, 25])], [((bX ++ [((-2147483648), 2147483647), (0, 1), (0, 49)]), some (.inl (some 15, 0)), (hst (gX 14) [(5, .inr (.inr (.inr (0, [.inr (.inl 6), .inr (.inl 9), .inr (.inl 14), .inr (.inl 18), .inr (.inl 22), .inr (.inl 26), .inr (.inl 27), .inr (.inl 28), .inr (.inl 29), .inr (.inl 30), .inl (some 9, 0), .inl (some 16, 0), .inl (some 11, 0), .inl (some 14, 0), .inr (.inl 14)]))))]), (ansT 58 [(28, 58), (29, 59), (30, 60)]), 61, [(212, [(some 15, 0), (some 14, 0), (some 2, 0), (some 3, 0), (some 4, 0), (some 5, 0), (some 6, 0), (some 11, 0)], [7, 8, 10, 11, 12, 13, 15, 16, 19, 20, 21, 23, 24, 25])])])
def h_lnNaked : List XH := []
def w_lnNaked_0_0 : VC := ((bX ++ [((-2147483648), 2147483647)]), [(89, [], [8, 58, 59, 60]), (150, [(some 9, 0), (some 2, 0), (some 3, 0), (some 4, 0), (some 5, 0), (some 6, 0)], [26, 27, 7, 8, 10, 11, 12, 13, 15, 16, 19, 20, 21, 23, 24, 25])], (87, [(some 9, 0)], [26, 27]))
theorem pe87_18 {PT : PTy} (hp : HP18 PT) : PT 87 = P_pr := hp.1.1.1.1.1.1.1.1.1.1.1.1.1.1.1.2.2.2.2.2.2.2.2.1
theorem pe89_18 {PT : PTy} (hp : HP18 PT) : PT 89 = P_bg := hp.1.1.1.1.1.1.1.1.1.1.1.1.1.1.1.2.2.2.2.2.2.2.2.2.2.1
theorem pe150_18 {PT : PTy} (hp : HP18 PT) : PT 150 = P_ar2 := hp.1.1.1.1.1.1.1.2.2.2.2.1
set_option maxRecDepth 20000 in
theorem v_lnNaked_0_0 {PT : PTy} (hp : HP18 PT) : vcOk PT w_lnNaked_0_0 := vc_in [(2, 0, 8), (3, 0, 11), (4, 0, 9), (5, 0, 6), (6, 0, 6), (9, 0, 49)] (by decide +kernel) (fun ρ α => by
  intro b2 b3 b4 b5 b6 b9 f0 f1 tt
  have e87 : PT 87 = P_pr := pe87_18 hp
  have e89 : PT 89 = P_bg := pe89_18 hp
  have e150 : PT 150 = P_ar2 := pe150_18 hp
  simp only [hFp_87, hFp_89, hFp_150, e87, e89, e150, P_pr, P_bg, P_ar2, den_s, den_c, Int.add_zero, List.map_cons, List.map_nil] at f0 f1 ⊢
  exact (f1).1)
def w_lnNaked_0_1 : VC := ((bX ++ [((-2147483648), 2147483647), (0, 49), ((-2147483648), 2147483647)]), [(1, [(some 16, 0), (none, 0)], []), (93, [(some 16, 0), (some 2, 0)], [61]), (91, [(none, 0), (some 15, 0), (some 9, 0), (none, 23), (some 11, 0), (some 14, 0)], [26, 27, 7, 8, 10, 11, 16, 20, 21, 24, 25, 58, 59, 60, 61, 62, 63]), (89, [], [8, 58, 59, 60]), (150, [(some 9, 0), (some 2, 0), (some 3, 0), (some 4, 0), (some 5, 0), (some 6, 0)], [26, 27, 7, 8, 10, 11, 12, 13, 15, 16, 19, 20, 21, 23, 24, 25])], (212, [(none, 0), (some 14, 0), (some 2, 0), (some 3, 0), (some 4, 0), (some 5, 0), (some 6, 0), (some 11, 0)], [7, 8, 10, 11, 12, 13, 15, 16, 19, 20, 21, 23, 24, 25]))
theorem pe91_18 {PT : PTy} (hp : HP18 PT) : PT 91 = P_adE := hp.1.1.1.1.1.1.1.1.1.1.1.1.1.1.1.2.2.2.2.2.2.2.2.2.2.2.2.1
theorem pe93_18 {PT : PTy} (hp : HP18 PT) : PT 93 = P_nkd := hp.1.1.1.1.1.1.1.1.1.1.1.1.1.1.2.2.1
theorem pe212_18 {PT : PTy} (hp : HP18 PT) : PT 212 = P_lnX := hp.2.1
set_option maxRecDepth 20000 in
theorem v_lnNaked_0_1 {PT : PTy} (hp : HP18 PT) : vcOk PT w_lnNaked_0_1 := vc_iv [(2, 0, 8), (3, 0, 11), (4, 0, 9), (5, 0, 6), (6, 0, 6), (9, 0, 49), (11, (-2147483648), 2147483647), (14, (-2147483648), 2147483647), (15, 0, 49), (16, (-2147483648), 2147483647)] [7, 8, 10, 11, 12, 13, 15, 16, 19, 20, 21, 23, 24, 25, 26, 27, 58, 59, 60, 61, 62, 63] (by decide +kernel) (fun ρ α => by
  intro r2 g2 b2 r3 g3 b3 r4 g4 b4 r5 g5 b5 r6 g6 b6 r9 g9 b9 r11 g11 b11 r14 g14 b14 r15 g15 b15 r16 g16 b16 a7 h7 a8 h8 a10 h10 a11 h11 a12 h12 a13 h13 a15 h15 a16 h16 a19 h19 a20 h20 a21 h21 a23 h23 a24 h24 a25 h25 a26 h26 a27 h27 a58 h58 a59 h59 a60 h60 a61 h61 a62 h62 a63 h63 f0 f1 f2 f3 f4 tt
  have e89 : PT 89 = P_bg := pe89_18 hp
  have e91 : PT 91 = P_adE := pe91_18 hp
  have e93 : PT 93 = P_nkd := pe93_18 hp
  have e150 : PT 150 = P_ar2 := pe150_18 hp
  have e212 : PT 212 = P_lnX := pe212_18 hp
  simp only [hF1, hFp_89, hFp_91, hFp_93, hFp_150, hFp_212, e89, e91, e93, e150, e212, P_bg, P_adE, P_nkd, P_ar2, P_lnX, den_s, den_c, Int.add_zero, List.map_cons, List.map_nil, g2.eq, g3.eq, g4.eq, g5.eq, g6.eq, g9.eq, g11.eq, g14.eq, g15.eq, g16.eq, h7, h8, h10, h11, h12, h13, h15, h16, h19, h20, h21, h23, h24, h25, h26, h27, h58, h59, h60, h61, h62, h63] at f0 f1 f2 f3 f4 ⊢
  have hy := yX_by (f4).2 f3 f2
  have hk := f1
  intro e
  subst e
  first
    | exact ⟨_, _, _, hy, Or.inl ⟨by first | rfl | trivial, by rw [show nkdF _ _ = _ from hk.symm]; omega⟩⟩
    | exact ⟨_, _, _, hy, Or.inr ⟨by first | rfl | trivial, by rw [show nkdF _ _ = _ from hk.symm]; omega⟩⟩)
def w_lnNaked_0_2 : VC := ((bX ++ [((-2147483648), 2147483647), (0, 49), (0, 0)]), [(0, [(some 16, 0), (none, 0)], []), (93, [(some 16, 0), (some 2, 0)], [61]), (91, [(none, 0), (some 15, 0), (some 9, 0), (none, 23), (some 11, 0), (some 14, 0)], [26, 27, 7, 8, 10, 11, 16, 20, 21, 24, 25, 58, 59, 60, 61, 62, 63]), (89, [], [8, 58, 59, 60]), (150, [(some 9, 0), (some 2, 0), (some 3, 0), (some 4, 0), (some 5, 0), (some 6, 0)], [26, 27, 7, 8, 10, 11, 12, 13, 15, 16, 19, 20, 21, 23, 24, 25])], (212, [(none, 1), (some 14, 0), (some 2, 0), (some 3, 0), (some 4, 0), (some 5, 0), (some 6, 0), (some 11, 0)], [7, 8, 10, 11, 12, 13, 15, 16, 19, 20, 21, 23, 24, 25]))
set_option maxRecDepth 20000 in
theorem v_lnNaked_0_2 {PT : PTy} (hp : HP18 PT) : vcOk PT w_lnNaked_0_2 := vc_iv [(2, 0, 8), (3, 0, 11), (4, 0, 9), (5, 0, 6), (6, 0, 6), (9, 0, 49), (11, (-2147483648), 2147483647), (14, (-2147483648), 2147483647), (15, 0, 49), (16, 0, 0)] [7, 8, 10, 11, 12, 13, 15, 16, 19, 20, 21, 23, 24, 25, 26, 27, 58, 59, 60, 61, 62, 63] (by decide +kernel) (fun ρ α => by
  intro r2 g2 b2 r3 g3 b3 r4 g4 b4 r5 g5 b5 r6 g6 b6 r9 g9 b9 r11 g11 b11 r14 g14 b14 r15 g15 b15 r16 g16 b16 a7 h7 a8 h8 a10 h10 a11 h11 a12 h12 a13 h13 a15 h15 a16 h16 a19 h19 a20 h20 a21 h21 a23 h23 a24 h24 a25 h25 a26 h26 a27 h27 a58 h58 a59 h59 a60 h60 a61 h61 a62 h62 a63 h63 f0 f1 f2 f3 f4 tt
  have e89 : PT 89 = P_bg := pe89_18 hp
  have e91 : PT 91 = P_adE := pe91_18 hp
  have e93 : PT 93 = P_nkd := pe93_18 hp
  have e150 : PT 150 = P_ar2 := pe150_18 hp
  have e212 : PT 212 = P_lnX := pe212_18 hp
  simp only [hF0, hFp_89, hFp_91, hFp_93, hFp_150, hFp_212, e89, e91, e93, e150, e212, P_bg, P_adE, P_nkd, P_ar2, P_lnX, den_s, den_c, Int.add_zero, List.map_cons, List.map_nil, g2.eq, g3.eq, g4.eq, g5.eq, g6.eq, g9.eq, g11.eq, g14.eq, g15.eq, g16.eq, h7, h8, h10, h11, h12, h13, h15, h16, h19, h20, h21, h23, h24, h25, h26, h27, h58, h59, h60, h61, h62, h63] at f0 f1 f2 f3 f4 ⊢
  have hy := yX_by (f4).2 f3 f2
  have hk := f1
  intro e
  subst e
  first
    | exact ⟨_, _, _, hy, Or.inl ⟨by first | rfl | trivial, by rw [show nkdF _ _ = _ from hk.symm]; omega⟩⟩
    | exact ⟨_, _, _, hy, Or.inr ⟨by first | rfl | trivial, by rw [show nkdF _ _ = _ from hk.symm]; omega⟩⟩)
set_option maxRecDepth 1000000 in
theorem k_lnNaked {PT : PTy} (hp : HP18 PT) : wfX c_lnNaked = true ∧ xcOk PT c_lnNaked := xctr (xl (k_begin14 hp.1.1.1.1.1.1.1.1.1.1.1.1.1.1) (xl (k_advance14 hp.1.1.1.1.1.1.1.1.1.1.1.1.1.1) (xl (k_nakedBits14 hp.1.1.1.1.1.1.1.1.1.1.1.1.1.1) (xl0)))) c_lnNaked 38 mX6_leavesNobodyNaked rfl h_lnNaked (by decide +kernel) (by decide +kernel) (by decide) (vcs_by [w_lnNaked_0_0, w_lnNaked_0_1, w_lnNaked_0_2] (by decide +kernel) (vc (v_lnNaked_0_0 hp) (vc (v_lnNaked_0_1 hp) (vc (v_lnNaked_0_2 hp) vn)))) fmn
def c_toHush : XC := (90, 4, (bT), [.inr (.inl 0)], (gX 999), [], [((bT ++ [((-2147483648), 2147483647), (0, 49), (0, 49), ((-2147483648), 2147483647)]), some (.inl (some 14, 0)), (hst (gX 14) [(5, .inr (.inr (.inr (0, [.inr (.inl 6), .inr (.inl 9), .inr (.inl 14), .inr (.inl 18), .inr (.inl 22), .inr (.inl 26), .inr (.inl 27), .inr (.inl 28), .inr (.inl 29), .inr (.inl 30), .inl (some 15, 0), .inl (some 16, 0), .inl (none, 0), .inl (some 17, 0), .inr (.inl 14)]))))]), (ansT 58 [(26, 58), (27, 59), (28, 60), (29, 61), (30, 62)]), 63, [(216, [(some 14, 0), (some 2, 0), (some 3, 0), (some 4, 0), (some 5, 0), (some 6, 0)], [7, 8, 10, 11, 12, 13, 15, 16, 19, 20, 21, 23, 24, 25])])])
def h_toHush : List XH := [(23, (bT ++ [(0, 6), (0, 49), (0, 49), ((-2147483648), 2147483647)]), [some (.inr (.inl 0)), some (.inl (some 14, 0)), none], (hst (gX 14) [(5, .inr (.inr (.inr (0, [.inr (.inl 6), .inr (.inl 9), .inr (.inl 14), .inr (.inl 18), .inr (.inl 22), .inr (.inl 26), .inr (.inl 27), .inr (.inl 28), .inr (.inl 29), .inr (.inl 30), .inl (some 15, 0), .inl (some 16, 0), .inl (none, 0), .inl (some 17, 0), .inr (.inl 14)]))))]), (ansT 58 [(26, 58), (27, 59), (28, 60), (29, 61), (30, 62)]), 63, [(150, [(some 15, 0), (some 2, 0), (some 3, 0), (some 4, 0), (some 5, 0), (some 6, 0)], [58, 59, 7, 8, 10, 11, 12, 13, 15, 16, 19, 20, 21, 23, 24, 25]), (213, [(some 14, 0), (some 2, 0), (some 3, 0), (some 4, 0), (some 5, 0), (some 6, 0)], [7, 8, 10, 11, 12, 13, 15, 16, 19, 20, 21, 23, 24, 25]), (3, [(some 5, 0), (some 14, 0)], []), (0, [(none, 0), (none, 0)], [])], [(true, (none, 1)), (true, (some 14, 0)), (true, (none, 0)), (true, (none, 0))]),
  (56, (bT ++ [(0, 6), (0, 49), (0, 49), ((-2147483648), 2147483647)]), [some (.inr (.inl 0)), some (.inl (some 14, 0)), none], (hst (gX 14) [(5, .inr (.inr (.inr (0, [.inr (.inl 6), .inr (.inl 9), .inr (.inl 14), .inr (.inl 18), .inr (.inl 22), .inr (.inl 26), .inr (.inl 27), .inr (.inl 28), .inr (.inl 29), .inr (.inl 30), .inl (some 15, 0), .inl (some 16, 0), .inl (none, 0), .inl (some 17, 0), .inr (.inl 14)]))))]), (ansT 58 [(26, 58), (27, 59), (28, 60), (29, 61), (30, 62)]), 63, [(150, [(some 15, 0), (some 2, 0), (some 3, 0), (some 4, 0), (some 5, 0), (some 6, 0)], [58, 59, 7, 8, 10, 11, 12, 13, 15, 16, 19, 20, 21, 23, 24, 25]), (215, [(some 14, 0), (some 2, 0), (some 3, 0), (some 4, 0), (some 5, 0), (some 6, 0)], [7, 8, 10, 11, 12, 13, 15, 16, 19, 20, 21, 23, 24, 25]), (3, [(some 5, 0), (some 14, 0)], []), (0, [(none, 0), (none, 0)], [])], [(true, (none, 2)), (true, (some 14, 0)), (true, (none, 0)), (true, (none, 0))]),
  (71, ([(0, 23), (0, 49), (0, 8), (0, 10), (0, 8), (1, 6), (0, 6), (0, 8), (0, 9), (0, 49), (0, 49), ((-2147483648), 2147483647), ((-2147483648), 2147483647), (0, 5), (0, 5), (1, 6), (0, 49), (0, 49), ((-2147483648), 2147483647)]), [some (.inr (.inl 0)), some (.inl (some 14, 0)), some (.inl (some 15, 0))], (hst (gX 14) [(5, .inr (.inr (.inr (0, [.inr (.inl 6), .inr (.inl 9), .inr (.inl 14), .inr (.inl 18), .inr (.inl 22), .inr (.inl 26), .inr (.inl 27), .inr (.inl 28), .inr (.inl 29), .inr (.inl 30), .inl (some 16, 0), .inl (some 17, 0), .inl (none, 0), .inl (some 18, 0), .inr (.inl 14)]))))]), (ansT 58 [(26, 58), (27, 59), (28, 60), (29, 61), (30, 62)]), 63, [(150, [(some 16, 0), (some 2, 0), (some 3, 0), (some 4, 0), (some 5, 0), (some 6, 0)], [58, 59, 7, 8, 10, 11, 12, 13, 15, 16, 19, 20, 21, 23, 24, 25]), (214, [(some 14, 0), (some 15, 0), (some 2, 0), (some 3, 0), (some 4, 0), (some 5, 0), (some 6, 0)], [7, 8, 10, 11, 12, 13, 15, 16, 19, 20, 21, 23, 24, 25]), (3, [(some 5, 0), (some 15, 0)], []), (2, [(some 14, 0), (some 15, 0)], []), (2, [(some 14, 0), (some 5, 0)], []), (0, [(none, 0), (none, 0)], [])], [(true, (none, 2)), (true, (some 14, 0)), (true, (none, 1)), (true, (some 15, 0))])]
def w_toHush_0_0 : VC := ((bT ++ [(0, 49)]), [(86, [(some 2, 0), (some 3, 0), (some 4, 0), (some 5, 0), (some 6, 0), (some 14, 0)], [58, 59, 10, 12, 13, 15, 16, 19, 20, 23, 24])], (150, [(some 14, 0), (some 2, 0), (some 3, 0), (some 4, 0), (some 5, 0), (some 6, 0)], [58, 59, 7, 8, 10, 11, 12, 13, 15, 16, 19, 20, 21, 23, 24, 25]))
theorem pe86_18 {PT : PTy} (hp : HP18 PT) : PT 86 = P_arr := hp.1.1.1.1.1.1.1.1.1.1.1.1.1.1.1.2.2.2.2.2.2.2.1
set_option maxRecDepth 20000 in
theorem v_toHush_0_0 {PT : PTy} (hp : HP18 PT) : vcOk PT w_toHush_0_0 := vc_in [(2, 0, 8), (3, 0, 10), (4, 0, 8), (5, 0, 6), (6, 0, 6), (14, 0, 49)] (by decide +kernel) (fun ρ α => by
  intro b2 b3 b4 b5 b6 b14 f0 tt
  have e86 : PT 86 = P_arr := pe86_18 hp
  have e150 : PT 150 = P_ar2 := pe150_18 hp
  simp only [hFp_86, hFp_150, e86, e150, P_arr, P_ar2, den_s, den_c, Int.add_zero, List.map_cons, List.map_nil] at f0 ⊢
  exact f0)
def w_toHush_0_1 : VC := ((bT ++ [(0, 49), (0, 0), (0, 49)]), [(0, [(some 15, 0), (none, 0)], []), (212, [(some 15, 0), (none, 0), (some 2, 0), (some 3, 0), (some 4, 0), (some 5, 0), (some 6, 0), (none, 0)], [7, 8, 10, 11, 12, 13, 15, 16, 19, 20, 21, 23, 24, 25]), (86, [(some 2, 0), (some 3, 0), (some 4, 0), (some 5, 0), (some 6, 0), (some 14, 0)], [58, 59, 10, 12, 13, 15, 16, 19, 20, 23, 24])], (150, [(some 14, 0), (some 2, 0), (some 3, 0), (some 4, 0), (some 5, 0), (some 6, 0)], [58, 59, 7, 8, 10, 11, 12, 13, 15, 16, 19, 20, 21, 23, 24, 25]))
set_option maxRecDepth 20000 in
theorem v_toHush_0_1 {PT : PTy} (hp : HP18 PT) : vcOk PT w_toHush_0_1 := vc_in [(2, 0, 8), (3, 0, 10), (4, 0, 8), (5, 0, 6), (6, 0, 6), (14, 0, 49), (15, 0, 0)] (by decide +kernel) (fun ρ α => by
  intro b2 b3 b4 b5 b6 b14 b15 f0 f1 f2 tt
  have e86 : PT 86 = P_arr := pe86_18 hp
  have e150 : PT 150 = P_ar2 := pe150_18 hp
  have e212 : PT 212 = P_lnX := pe212_18 hp
  simp only [hF0, hFp_86, hFp_150, hFp_212, e86, e150, e212, P_arr, P_ar2, P_lnX, den_s, den_c, Int.add_zero, List.map_cons, List.map_nil] at f0 f1 f2 ⊢
  exact f2)
def w_toHush_0_2 : VC := ((bT ++ [(0, 49), (0, 0), (0, 49)]), [(0, [(some 15, 0), (none, 0)], []), (212, [(some 15, 0), (none, 0), (some 2, 0), (some 3, 0), (some 4, 0), (some 5, 0), (some 6, 0), (none, 0)], [7, 8, 10, 11, 12, 13, 15, 16, 19, 20, 21, 23, 24, 25]), (86, [(some 2, 0), (some 3, 0), (some 4, 0), (some 5, 0), (some 6, 0), (some 14, 0)], [58, 59, 10, 12, 13, 15, 16, 19, 20, 23, 24])], (213, [(none, 0), (some 2, 0), (some 3, 0), (some 4, 0), (some 5, 0), (some 6, 0)], [7, 8, 10, 11, 12, 13, 15, 16, 19, 20, 21, 23, 24, 25]))
theorem pe213_18 {PT : PTy} (hp : HP18 PT) : PT 213 = P_hu1 := hp.2.2.1
set_option maxRecDepth 20000 in
theorem v_toHush_0_2 {PT : PTy} (hp : HP18 PT) : vcOk PT w_toHush_0_2 := vc_iv [(2, 0, 8), (3, 0, 10), (4, 0, 8), (5, 0, 6), (6, 0, 6), (14, 0, 49), (15, 0, 0)] [7, 8, 10, 11, 12, 13, 15, 16, 19, 20, 21, 23, 24, 25, 58, 59] (by decide +kernel) (fun ρ α => by
  intro r2 g2 b2 r3 g3 b3 r4 g4 b4 r5 g5 b5 r6 g6 b6 r14 g14 b14 r15 g15 b15 a7 h7 a8 h8 a10 h10 a11 h11 a12 h12 a13 h13 a15 h15 a16 h16 a19 h19 a20 h20 a21 h21 a23 h23 a24 h24 a25 h25 a58 h58 a59 h59 f0 f1 f2 tt
  have e86 : PT 86 = P_arr := pe86_18 hp
  have e212 : PT 212 = P_lnX := pe212_18 hp
  have e213 : PT 213 = P_hu1 := pe213_18 hp
  simp only [hF0, hFp_86, hFp_212, hFp_213, e86, e212, e213, P_arr, P_lnX, P_hu1, den_s, den_c, Int.add_zero, List.map_cons, List.map_nil, g2.eq, g3.eq, g4.eq, g5.eq, g6.eq, g14.eq, g15.eq, h7, h8, h10, h11, h12, h13, h15, h16, h19, h20, h21, h23, h24, h25, h58, h59] at f0 f1 f2 ⊢
  have h0 : hqX r2 r3 r4 r5 r6 a7 a8 a10 a11 a12 a13 a15 a16 a19 a20 a21 a23 a24 a25 0 r15 := by
    first | exact f1 rfl | exact f1 trivial | exact f1
  rw [show r15 = 0 by omega] at h0
  exact ⟨h0, fun j h1 h2 => by exfalso; omega⟩)
def w_toHush_0_3 : VC := ((bT ++ [(0, 49), (0, 0), (0, 49)]), [(0, [(some 15, 0), (none, 0)], []), (212, [(some 15, 0), (none, 0), (some 2, 0), (some 3, 0), (some 4, 0), (some 5, 0), (some 6, 0), (none, 0)], [7, 8, 10, 11, 12, 13, 15, 16, 19, 20, 21, 23, 24, 25]), (86, [(some 2, 0), (some 3, 0), (some 4, 0), (some 5, 0), (some 6, 0), (some 14, 0)], [58, 59, 10, 12, 13, 15, 16, 19, 20, 23, 24])], (3, [(some 5, 0), (none, 0)], []))
set_option maxRecDepth 20000 in
theorem v_toHush_0_3 {PT : PTy} (hp : HP18 PT) : vcOk PT w_toHush_0_3 := vc_iv [(2, 0, 8), (3, 0, 10), (4, 0, 8), (5, 0, 6), (6, 0, 6), (14, 0, 49), (15, 0, 0)] [7, 8, 10, 11, 12, 13, 15, 16, 19, 20, 21, 23, 24, 25, 58, 59] (by decide +kernel) (fun ρ α => by
  intro r2 g2 b2 r3 g3 b3 r4 g4 b4 r5 g5 b5 r6 g6 b6 r14 g14 b14 r15 g15 b15 a7 h7 a8 h8 a10 h10 a11 h11 a12 h12 a13 h13 a15 h15 a16 h16 a19 h19 a20 h20 a21 h21 a23 h23 a24 h24 a25 h25 a58 h58 a59 h59 f0 f1 f2 tt
  have e86 : PT 86 = P_arr := pe86_18 hp
  have e212 : PT 212 = P_lnX := pe212_18 hp
  simp only [hF0, hF3, hFp_86, hFp_212, e86, e212, P_arr, P_lnX, den_s, den_c, Int.add_zero, List.map_cons, List.map_nil, g2.eq, g3.eq, g4.eq, g5.eq, g6.eq, g14.eq, g15.eq, h7, h8, h10, h11, h12, h13, h15, h16, h19, h20, h21, h23, h24, h25, h58, h59] at f0 f1 f2 ⊢
  omega)
def w_toHush_0_4 : VC := ((bT ++ [(0, 49), (0, 0), (0, 49)]), [(0, [(some 15, 0), (none, 0)], []), (212, [(some 15, 0), (none, 0), (some 2, 0), (some 3, 0), (some 4, 0), (some 5, 0), (some 6, 0), (none, 0)], [7, 8, 10, 11, 12, 13, 15, 16, 19, 20, 21, 23, 24, 25]), (86, [(some 2, 0), (some 3, 0), (some 4, 0), (some 5, 0), (some 6, 0), (some 14, 0)], [58, 59, 10, 12, 13, 15, 16, 19, 20, 23, 24])], (0, [(none, 0), (none, 0)], []))
theorem v_toHush_0_4 {PT : PTy} (_ : HP18 PT) : vcOk PT w_toHush_0_4 := vc_of (fun ρ α _ _ => rfl)
def w_toHush_0_5 : VC := ((bT ++ [(0, 49), (1, 1), (0, 49)]), [(1, [(some 15, 0), (none, 0)], []), (212, [(some 15, 0), (none, 0), (some 2, 0), (some 3, 0), (some 4, 0), (some 5, 0), (some 6, 0), (none, 0)], [7, 8, 10, 11, 12, 13, 15, 16, 19, 20, 21, 23, 24, 25]), (86, [(some 2, 0), (some 3, 0), (some 4, 0), (some 5, 0), (some 6, 0), (some 14, 0)], [58, 59, 10, 12, 13, 15, 16, 19, 20, 23, 24])], (216, [(none, 0), (some 2, 0), (some 3, 0), (some 4, 0), (some 5, 0), (some 6, 0)], [7, 8, 10, 11, 12, 13, 15, 16, 19, 20, 21, 23, 24, 25]))
theorem pe216_18 {PT : PTy} (hp : HP18 PT) : PT 216 = P_hsX := hp.2.2.2.2.2.1
set_option maxRecDepth 20000 in
theorem v_toHush_0_5 {PT : PTy} (hp : HP18 PT) : vcOk PT w_toHush_0_5 := vc_iv [(2, 0, 8), (3, 0, 10), (4, 0, 8), (5, 0, 6), (6, 0, 6), (14, 0, 49), (15, 1, 1)] [7, 8, 10, 11, 12, 13, 15, 16, 19, 20, 21, 23, 24, 25, 58, 59] (by decide +kernel) (fun ρ α => by
  intro r2 g2 b2 r3 g3 b3 r4 g4 b4 r5 g5 b5 r6 g6 b6 r14 g14 b14 r15 g15 b15 a7 h7 a8 h8 a10 h10 a11 h11 a12 h12 a13 h13 a15 h15 a16 h16 a19 h19 a20 h20 a21 h21 a23 h23 a24 h24 a25 h25 a58 h58 a59 h59 f0 f1 f2 tt
  clear f0
  have e86 : PT 86 = P_arr := pe86_18 hp
  have e212 : PT 212 = P_lnX := pe212_18 hp
  have e216 : PT 216 = P_hsX := pe216_18 hp
  simp only [hFp_86, hFp_212, hFp_216, e86, e212, e216, P_arr, P_lnX, P_hsX, den_s, den_c, Int.add_zero, List.map_cons, List.map_nil, g2.eq, g3.eq, g4.eq, g5.eq, g6.eq, g14.eq, g15.eq, h7, h8, h10, h11, h12, h13, h15, h16, h19, h20, h21, h23, h24, h25, h58, h59] at f1 f2 ⊢
  have h0 : hqX r2 r3 r4 r5 r6 a7 a8 a10 a11 a12 a13 a15 a16 a19 a20 a21 a23 a24 a25 0 r15 := by
    first | exact f1 rfl | exact f1 trivial | exact f1
  rw [show r15 = 1 by omega] at h0
  exact ⟨0, 0, 0, Or.inl ⟨by first | rfl | trivial, h0⟩, fun _ => (by first | rfl | trivial), fun q => by exfalso; omega, fun q => by exfalso; omega, fun q => by exfalso; omega⟩)
def w_toHush_1_0 : VC := ((bT ++ [(0, 6), (0, 49), (0, 49), ((-2147483648), 2147483647)]), [(3, [(some 14, 0), (some 5, 0)], []), (150, [(some 15, 0), (some 2, 0), (some 3, 0), (some 4, 0), (some 5, 0), (some 6, 0)], [58, 59, 7, 8, 10, 11, 12, 13, 15, 16, 19, 20, 21, 23, 24, 25]), (213, [(some 14, 0), (some 2, 0), (some 3, 0), (some 4, 0), (some 5, 0), (some 6, 0)], [7, 8, 10, 11, 12, 13, 15, 16, 19, 20, 21, 23, 24, 25]), (3, [(some 5, 0), (some 14, 0)], []), (0, [(none, 0), (none, 0)], [])], (215, [(none, 0), (some 2, 0), (some 3, 0), (some 4, 0), (some 5, 0), (some 6, 0)], [7, 8, 10, 11, 12, 13, 15, 16, 19, 20, 21, 23, 24, 25]))
theorem pe215_18 {PT : PTy} (hp : HP18 PT) : PT 215 = P_hu3 := hp.2.2.2.2.1
set_option maxRecDepth 20000 in
theorem v_toHush_1_0 {PT : PTy} (hp : HP18 PT) : vcOk PT w_toHush_1_0 := vc_iv [(2, 0, 8), (3, 0, 10), (4, 0, 8), (5, 0, 6), (6, 0, 6), (14, 0, 6), (15, 0, 49)] [7, 8, 10, 11, 12, 13, 15, 16, 19, 20, 21, 23, 24, 25, 58, 59] (by decide +kernel) (fun ρ α => by
  intro r2 g2 b2 r3 g3 b3 r4 g4 b4 r5 g5 b5 r6 g6 b6 r14 g14 b14 r15 g15 b15 a7 h7 a8 h8 a10 h10 a11 h11 a12 h12 a13 h13 a15 h15 a16 h16 a19 h19 a20 h20 a21 h21 a23 h23 a24 h24 a25 h25 a58 h58 a59 h59 f0 f1 f2 f3 f4 tt
  clear f4
  have e150 : PT 150 = P_ar2 := pe150_18 hp
  have e213 : PT 213 = P_hu1 := pe213_18 hp
  have e215 : PT 215 = P_hu3 := pe215_18 hp
  simp only [hF3, hFp_150, hFp_213, hFp_215, e150, e213, e215, P_ar2, P_hu1, P_hu3, den_s, den_c, Int.add_zero, List.map_cons, List.map_nil, g2.eq, g3.eq, g4.eq, g5.eq, g6.eq, g14.eq, g15.eq, h7, h8, h10, h11, h12, h13, h15, h16, h19, h20, h21, h23, h24, h25, h58, h59] at f0 f1 f2 f3 ⊢
  have u := f2
  rw [show r14 = r5 by omega] at u
  exact ⟨u, fun j k h1 h2 => by exfalso; omega⟩)
def w_toHush_1_1 : VC := ((bT ++ [(0, 6), (0, 49), (0, 49), ((-2147483648), 2147483647)]), [(3, [(some 14, 0), (some 5, 0)], []), (150, [(some 15, 0), (some 2, 0), (some 3, 0), (some 4, 0), (some 5, 0), (some 6, 0)], [58, 59, 7, 8, 10, 11, 12, 13, 15, 16, 19, 20, 21, 23, 24, 25]), (213, [(some 14, 0), (some 2, 0), (some 3, 0), (some 4, 0), (some 5, 0), (some 6, 0)], [7, 8, 10, 11, 12, 13, 15, 16, 19, 20, 21, 23, 24, 25]), (3, [(some 5, 0), (some 14, 0)], []), (0, [(none, 0), (none, 0)], [])], (3, [(some 5, 0), (none, 0)], []))
set_option maxRecDepth 20000 in
theorem v_toHush_1_1 {PT : PTy} (hp : HP18 PT) : vcOk PT w_toHush_1_1 := vc_iv [(2, 0, 8), (3, 0, 10), (4, 0, 8), (5, 0, 6), (6, 0, 6), (14, 0, 6), (15, 0, 49)] [7, 8, 10, 11, 12, 13, 15, 16, 19, 20, 21, 23, 24, 25, 58, 59] (by decide +kernel) (fun ρ α => by
  intro r2 g2 b2 r3 g3 b3 r4 g4 b4 r5 g5 b5 r6 g6 b6 r14 g14 b14 r15 g15 b15 a7 h7 a8 h8 a10 h10 a11 h11 a12 h12 a13 h13 a15 h15 a16 h16 a19 h19 a20 h20 a21 h21 a23 h23 a24 h24 a25 h25 a58 h58 a59 h59 f0 f1 f2 f3 f4 tt
  clear f4
  have e150 : PT 150 = P_ar2 := pe150_18 hp
  have e213 : PT 213 = P_hu1 := pe213_18 hp
  simp only [hF3, hFp_150, hFp_213, e150, e213, P_ar2, P_hu1, den_s, den_c, Int.add_zero, List.map_cons, List.map_nil, g2.eq, g3.eq, g4.eq, g5.eq, g6.eq, g14.eq, g15.eq, h7, h8, h10, h11, h12, h13, h15, h16, h19, h20, h21, h23, h24, h25, h58, h59] at f0 f1 f2 f3 ⊢
  omega)
def w_toHush_1_2 : VC := (([(0, 23), (0, 49), (0, 8), (0, 10), (0, 8), (1, 6), (0, 6), (0, 8), (0, 9), (0, 49), (0, 49), ((-2147483648), 2147483647), ((-2147483648), 2147483647), (0, 5), (0, 5), (0, 49), (0, 49), ((-2147483648), 2147483647), (1, 32), (0, 0), (0, 49)]), [(0, [(some 19, 0), (none, 0)], []), (212, [(some 19, 0), (some 18, 0), (some 2, 0), (some 3, 0), (some 4, 0), (some 5, 0), (some 6, 0), (none, 0)], [7, 8, 10, 11, 12, 13, 15, 16, 19, 20, 21, 23, 24, 25]), (13, [(some 18, 0), (none, 1), (some 14, 0)], []), (2, [(some 14, 0), (some 5, 0)], []), (150, [(some 15, 0), (some 2, 0), (some 3, 0), (some 4, 0), (some 5, 0), (some 6, 0)], [58, 59, 7, 8, 10, 11, 12, 13, 15, 16, 19, 20, 21, 23, 24, 25]), (213, [(some 14, 0), (some 2, 0), (some 3, 0), (some 4, 0), (some 5, 0), (some 6, 0)], [7, 8, 10, 11, 12, 13, 15, 16, 19, 20, 21, 23, 24, 25]), (3, [(some 5, 0), (some 14, 0)], []), (0, [(none, 0), (none, 0)], [])], (213, [(some 14, 1), (some 2, 0), (some 3, 0), (some 4, 0), (some 5, 0), (some 6, 0)], [7, 8, 10, 11, 12, 13, 15, 16, 19, 20, 21, 23, 24, 25]))
set_option maxRecDepth 20000 in
theorem v_toHush_1_2 {PT : PTy} (hp : HP18 PT) : vcOk PT w_toHush_1_2 := vc_iv [(2, 0, 8), (3, 0, 10), (4, 0, 8), (5, 1, 6), (6, 0, 6), (14, 0, 5), (15, 0, 49), (18, 1, 32), (19, 0, 0)] [7, 8, 10, 11, 12, 13, 15, 16, 19, 20, 21, 23, 24, 25, 58, 59] (by decide +kernel) (fun ρ α => by
  intro r2 g2 b2 r3 g3 b3 r4 g4 b4 r5 g5 b5 r6 g6 b6 r14 g14 b14 r15 g15 b15 r18 g18 b18 r19 g19 b19 a7 h7 a8 h8 a10 h10 a11 h11 a12 h12 a13 h13 a15 h15 a16 h16 a19 h19 a20 h20 a21 h21 a23 h23 a24 h24 a25 h25 a58 h58 a59 h59 f0 f1 f2 f3 f4 f5 f6 f7 tt
  clear f7
  have e150 : PT 150 = P_ar2 := pe150_18 hp
  have e212 : PT 212 = P_lnX := pe212_18 hp
  have e213 : PT 213 = P_hu1 := pe213_18 hp
  simp only [hF0, hF2, hF3, hF13, hFp_150, hFp_212, hFp_213, e150, e212, e213, P_ar2, P_lnX, P_hu1, den_s, den_c, Int.add_zero, List.map_cons, List.map_nil, g2.eq, g3.eq, g4.eq, g5.eq, g6.eq, g14.eq, g15.eq, g18.eq, g19.eq, h7, h8, h10, h11, h12, h13, h15, h16, h19, h20, h21, h23, h24, h25, h58, h59] at f0 f1 f2 f3 f4 f5 f6 ⊢
  subst f2
  have h0 : hqX r2 r3 r4 r5 r6 a7 a8 a10 a11 a12 a13 a15 a16 a19 a20 a21 a23 a24 a25 (mShl 1 r14) r19 := by
    first | exact f1 rfl | exact f1 trivial | exact f1
  rw [show r19 = 0 by omega] at h0
  obtain ⟨u1, u2⟩ := f5
  exact ⟨u1, fun j h1 h2 => by
    by_cases q : j = r14
    · subst q; exact h0
    · exact u2 j h1 (by omega)⟩)
def w_toHush_1_3 : VC := (([(0, 23), (0, 49), (0, 8), (0, 10), (0, 8), (1, 6), (0, 6), (0, 8), (0, 9), (0, 49), (0, 49), ((-2147483648), 2147483647), ((-2147483648), 2147483647), (0, 5), (0, 5), (0, 49), (0, 49), ((-2147483648), 2147483647), (1, 32), (0, 0), (0, 49)]), [(0, [(some 19, 0), (none, 0)], []), (212, [(some 19, 0), (some 18, 0), (some 2, 0), (some 3, 0), (some 4, 0), (some 5, 0), (some 6, 0), (none, 0)], [7, 8, 10, 11, 12, 13, 15, 16, 19, 20, 21, 23, 24, 25]), (13, [(some 18, 0), (none, 1), (some 14, 0)], []), (2, [(some 14, 0), (some 5, 0)], []), (150, [(some 15, 0), (some 2, 0), (some 3, 0), (some 4, 0), (some 5, 0), (some 6, 0)], [58, 59, 7, 8, 10, 11, 12, 13, 15, 16, 19, 20, 21, 23, 24, 25]), (213, [(some 14, 0), (some 2, 0), (some 3, 0), (some 4, 0), (some 5, 0), (some 6, 0)], [7, 8, 10, 11, 12, 13, 15, 16, 19, 20, 21, 23, 24, 25]), (3, [(some 5, 0), (some 14, 0)], []), (0, [(none, 0), (none, 0)], [])], (3, [(some 5, 0), (some 14, 1)], []))
set_option maxRecDepth 20000 in
theorem v_toHush_1_3 {PT : PTy} (hp : HP18 PT) : vcOk PT w_toHush_1_3 := vc_iv [(2, 0, 8), (3, 0, 10), (4, 0, 8), (5, 1, 6), (6, 0, 6), (14, 0, 5), (15, 0, 49), (18, 1, 32), (19, 0, 0)] [7, 8, 10, 11, 12, 13, 15, 16, 19, 20, 21, 23, 24, 25, 58, 59] (by decide +kernel) (fun ρ α => by
  intro r2 g2 b2 r3 g3 b3 r4 g4 b4 r5 g5 b5 r6 g6 b6 r14 g14 b14 r15 g15 b15 r18 g18 b18 r19 g19 b19 a7 h7 a8 h8 a10 h10 a11 h11 a12 h12 a13 h13 a15 h15 a16 h16 a19 h19 a20 h20 a21 h21 a23 h23 a24 h24 a25 h25 a58 h58 a59 h59 f0 f1 f2 f3 f4 f5 f6 f7 tt
  clear f7
  have e150 : PT 150 = P_ar2 := pe150_18 hp
  have e212 : PT 212 = P_lnX := pe212_18 hp
  have e213 : PT 213 = P_hu1 := pe213_18 hp
  simp only [hF0, hF2, hF3, hF13, hFp_150, hFp_212, hFp_213, e150, e212, e213, P_ar2, P_lnX, P_hu1, den_s, den_c, Int.add_zero, List.map_cons, List.map_nil, g2.eq, g3.eq, g4.eq, g5.eq, g6.eq, g14.eq, g15.eq, g18.eq, g19.eq, h7, h8, h10, h11, h12, h13, h15, h16, h19, h20, h21, h23, h24, h25, h58, h59] at f0 f1 f2 f3 f4 f5 f6 ⊢
  subst f2
  omega)
def w_toHush_1_4 : VC := (([(0, 23), (0, 49), (0, 8), (0, 10), (0, 8), (1, 6), (0, 6), (0, 8), (0, 9), (0, 49), (0, 49), ((-2147483648), 2147483647), ((-2147483648), 2147483647), (0, 5), (0, 5), (0, 49), (0, 49), ((-2147483648), 2147483647), (1, 32), (1, 1), (0, 49), (1, 32)]), [(13, [(some 21, 0), (none, 1), (some 14, 0)], []), (1, [(some 19, 0), (none, 0)], []), (212, [(some 19, 0), (some 18, 0), (some 2, 0), (some 3, 0), (some 4, 0), (some 5, 0), (some 6, 0), (none, 0)], [7, 8, 10, 11, 12, 13, 15, 16, 19, 20, 21, 23, 24, 25]), (13, [(some 18, 0), (none, 1), (some 14, 0)], []), (2, [(some 14, 0), (some 5, 0)], []), (150, [(some 15, 0), (some 2, 0), (some 3, 0), (some 4, 0), (some 5, 0), (some 6, 0)], [58, 59, 7, 8, 10, 11, 12, 13, 15, 16, 19, 20, 21, 23, 24, 25]), (213, [(some 14, 0), (some 2, 0), (some 3, 0), (some 4, 0), (some 5, 0), (some 6, 0)], [7, 8, 10, 11, 12, 13, 15, 16, 19, 20, 21, 23, 24, 25]), (3, [(some 5, 0), (some 14, 0)], []), (0, [(none, 0), (none, 0)], [])], (216, [(some 21, 0), (some 2, 0), (some 3, 0), (some 4, 0), (some 5, 0), (some 6, 0)], [7, 8, 10, 11, 12, 13, 15, 16, 19, 20, 21, 23, 24, 25]))
set_option maxRecDepth 20000 in
theorem v_toHush_1_4 {PT : PTy} (hp : HP18 PT) : vcOk PT w_toHush_1_4 := vc_iv [(2, 0, 8), (3, 0, 10), (4, 0, 8), (5, 1, 6), (6, 0, 6), (14, 0, 5), (15, 0, 49), (18, 1, 32), (19, 1, 1), (21, 1, 32)] [7, 8, 10, 11, 12, 13, 15, 16, 19, 20, 21, 23, 24, 25, 58, 59] (by decide +kernel) (fun ρ α => by
  intro r2 g2 b2 r3 g3 b3 r4 g4 b4 r5 g5 b5 r6 g6 b6 r14 g14 b14 r15 g15 b15 r18 g18 b18 r19 g19 b19 r21 g21 b21 a7 h7 a8 h8 a10 h10 a11 h11 a12 h12 a13 h13 a15 h15 a16 h16 a19 h19 a20 h20 a21 h21 a23 h23 a24 h24 a25 h25 a58 h58 a59 h59 f0 f1 f2 f3 f4 f5 f6 f7 f8 tt
  clear f1 f8
  have e150 : PT 150 = P_ar2 := pe150_18 hp
  have e212 : PT 212 = P_lnX := pe212_18 hp
  have e213 : PT 213 = P_hu1 := pe213_18 hp
  have e216 : PT 216 = P_hsX := pe216_18 hp
  simp only [hF2, hF3, hF13, hFp_150, hFp_212, hFp_213, hFp_216, e150, e212, e213, e216, P_ar2, P_lnX, P_hu1, P_hsX, den_s, den_c, Int.add_zero, List.map_cons, List.map_nil, g2.eq, g3.eq, g4.eq, g5.eq, g6.eq, g14.eq, g15.eq, g18.eq, g19.eq, g21.eq, h7, h8, h10, h11, h12, h13, h15, h16, h19, h20, h21, h23, h24, h25, h58, h59] at f0 f2 f3 f4 f5 f6 f7 ⊢
  subst f0
  subst f3
  have h0 : hqX r2 r3 r4 r5 r6 a7 a8 a10 a11 a12 a13 a15 a16 a19 a20 a21 a23 a24 a25 (mShl 1 r14) r19 := by
    first | exact f2 rfl | exact f2 trivial | exact f2
  rw [show r19 = 1 by omega] at h0
  exact ⟨1, r14, 0, Or.inr (Or.inl ⟨by first | rfl | trivial, by omega, by omega, f6, h0⟩), fun q => by exfalso; omega, fun _ => rfl, fun q => by exfalso; omega, fun q => by exfalso; omega⟩)
def w_toHush_2_0 : VC := ((bT ++ [(0, 6), (0, 49), (0, 49), ((-2147483648), 2147483647)]), [(3, [(some 14, 0), (some 5, 0)], []), (150, [(some 15, 0), (some 2, 0), (some 3, 0), (some 4, 0), (some 5, 0), (some 6, 0)], [58, 59, 7, 8, 10, 11, 12, 13, 15, 16, 19, 20, 21, 23, 24, 25]), (215, [(some 14, 0), (some 2, 0), (some 3, 0), (some 4, 0), (some 5, 0), (some 6, 0)], [7, 8, 10, 11, 12, 13, 15, 16, 19, 20, 21, 23, 24, 25]), (3, [(some 5, 0), (some 14, 0)], []), (0, [(none, 0), (none, 0)], [])], (216, [(none, (-1)), (some 2, 0), (some 3, 0), (some 4, 0), (some 5, 0), (some 6, 0)], [7, 8, 10, 11, 12, 13, 15, 16, 19, 20, 21, 23, 24, 25]))
set_option maxRecDepth 20000 in
theorem v_toHush_2_0 {PT : PTy} (hp : HP18 PT) : vcOk PT w_toHush_2_0 := vc_iv [(2, 0, 8), (3, 0, 10), (4, 0, 8), (5, 0, 6), (6, 0, 6), (14, 0, 6), (15, 0, 49)] [7, 8, 10, 11, 12, 13, 15, 16, 19, 20, 21, 23, 24, 25, 58, 59] (by decide +kernel) (fun ρ α => by
  intro r2 g2 b2 r3 g3 b3 r4 g4 b4 r5 g5 b5 r6 g6 b6 r14 g14 b14 r15 g15 b15 a7 h7 a8 h8 a10 h10 a11 h11 a12 h12 a13 h13 a15 h15 a16 h16 a19 h19 a20 h20 a21 h21 a23 h23 a24 h24 a25 h25 a58 h58 a59 h59 f0 f1 f2 f3 f4 tt
  clear f4
  have e150 : PT 150 = P_ar2 := pe150_18 hp
  have e215 : PT 215 = P_hu3 := pe215_18 hp
  have e216 : PT 216 = P_hsX := pe216_18 hp
  simp only [hF3, hFp_150, hFp_215, hFp_216, e150, e215, e216, P_ar2, P_hu3, P_hsX, den_s, den_c, Int.add_zero, List.map_cons, List.map_nil, g2.eq, g3.eq, g4.eq, g5.eq, g6.eq, g14.eq, g15.eq, h7, h8, h10, h11, h12, h13, h15, h16, h19, h20, h21, h23, h24, h25, h58, h59] at f0 f1 f2 f3 ⊢
  have u := f2
  rw [show r14 = r5 by omega] at u
  exact ⟨-1, 0, 0, Or.inr (Or.inr (Or.inr ⟨by first | rfl | trivial, u⟩)), fun q => by exfalso; omega, fun q => by exfalso; omega, fun q => by exfalso; omega, fun _ => (by first | rfl | trivial)⟩)
def w_toHush_2_1 : VC := (([(0, 23), (0, 49), (0, 8), (0, 10), (0, 8), (1, 6), (0, 6), (0, 8), (0, 9), (0, 49), (0, 49), ((-2147483648), 2147483647), ((-2147483648), 2147483647), (0, 5), (0, 5), (0, 49), (0, 49), ((-2147483648), 2147483647)]), [(2, [(some 14, 0), (some 5, 0)], []), (150, [(some 15, 0), (some 2, 0), (some 3, 0), (some 4, 0), (some 5, 0), (some 6, 0)], [58, 59, 7, 8, 10, 11, 12, 13, 15, 16, 19, 20, 21, 23, 24, 25]), (215, [(some 14, 0), (some 2, 0), (some 3, 0), (some 4, 0), (some 5, 0), (some 6, 0)], [7, 8, 10, 11, 12, 13, 15, 16, 19, 20, 21, 23, 24, 25]), (3, [(some 5, 0), (some 14, 0)], []), (0, [(none, 0), (none, 0)], [])], (214, [(some 14, 0), (some 14, 1), (some 2, 0), (some 3, 0), (some 4, 0), (some 5, 0), (some 6, 0)], [7, 8, 10, 11, 12, 13, 15, 16, 19, 20, 21, 23, 24, 25]))
theorem pe214_18 {PT : PTy} (hp : HP18 PT) : PT 214 = P_hu2 := hp.2.2.2.1
set_option maxRecDepth 20000 in
theorem v_toHush_2_1 {PT : PTy} (hp : HP18 PT) : vcOk PT w_toHush_2_1 := vc_iv [(2, 0, 8), (3, 0, 10), (4, 0, 8), (5, 1, 6), (6, 0, 6), (14, 0, 5), (15, 0, 49)] [7, 8, 10, 11, 12, 13, 15, 16, 19, 20, 21, 23, 24, 25, 58, 59] (by decide +kernel) (fun ρ α => by
  intro r2 g2 b2 r3 g3 b3 r4 g4 b4 r5 g5 b5 r6 g6 b6 r14 g14 b14 r15 g15 b15 a7 h7 a8 h8 a10 h10 a11 h11 a12 h12 a13 h13 a15 h15 a16 h16 a19 h19 a20 h20 a21 h21 a23 h23 a24 h24 a25 h25 a58 h58 a59 h59 f0 f1 f2 f3 f4 tt
  clear f4
  have e150 : PT 150 = P_ar2 := pe150_18 hp
  have e214 : PT 214 = P_hu2 := pe214_18 hp
  have e215 : PT 215 = P_hu3 := pe215_18 hp
  simp only [hF2, hF3, hFp_150, hFp_214, hFp_215, e150, e214, e215, P_ar2, P_hu2, P_hu3, den_s, den_c, Int.add_zero, List.map_cons, List.map_nil, g2.eq, g3.eq, g4.eq, g5.eq, g6.eq, g14.eq, g15.eq, h7, h8, h10, h11, h12, h13, h15, h16, h19, h20, h21, h23, h24, h25, h58, h59] at f0 f1 f2 f3 ⊢
  obtain ⟨u1, u2⟩ := f2
  exact ⟨u1, u2, fun k h1 h2 => by exfalso; omega⟩)
def w_toHush_2_2 : VC := (([(0, 23), (0, 49), (0, 8), (0, 10), (0, 8), (1, 6), (0, 6), (0, 8), (0, 9), (0, 49), (0, 49), ((-2147483648), 2147483647), ((-2147483648), 2147483647), (0, 5), (0, 5), (0, 49), (0, 49), ((-2147483648), 2147483647)]), [(2, [(some 14, 0), (some 5, 0)], []), (150, [(some 15, 0), (some 2, 0), (some 3, 0), (some 4, 0), (some 5, 0), (some 6, 0)], [58, 59, 7, 8, 10, 11, 12, 13, 15, 16, 19, 20, 21, 23, 24, 25]), (215, [(some 14, 0), (some 2, 0), (some 3, 0), (some 4, 0), (some 5, 0), (some 6, 0)], [7, 8, 10, 11, 12, 13, 15, 16, 19, 20, 21, 23, 24, 25]), (3, [(some 5, 0), (some 14, 0)], []), (0, [(none, 0), (none, 0)], [])], (3, [(some 5, 0), (some 14, 1)], []))
set_option maxRecDepth 20000 in
theorem v_toHush_2_2 {PT : PTy} (hp : HP18 PT) : vcOk PT w_toHush_2_2 := vc_iv [(2, 0, 8), (3, 0, 10), (4, 0, 8), (5, 1, 6), (6, 0, 6), (14, 0, 5), (15, 0, 49)] [7, 8, 10, 11, 12, 13, 15, 16, 19, 20, 21, 23, 24, 25, 58, 59] (by decide +kernel) (fun ρ α => by
  intro r2 g2 b2 r3 g3 b3 r4 g4 b4 r5 g5 b5 r6 g6 b6 r14 g14 b14 r15 g15 b15 a7 h7 a8 h8 a10 h10 a11 h11 a12 h12 a13 h13 a15 h15 a16 h16 a19 h19 a20 h20 a21 h21 a23 h23 a24 h24 a25 h25 a58 h58 a59 h59 f0 f1 f2 f3 f4 tt
  clear f4
  have e150 : PT 150 = P_ar2 := pe150_18 hp
  have e215 : PT 215 = P_hu3 := pe215_18 hp
  simp only [hF2, hF3, hFp_150, hFp_215, e150, e215, P_ar2, P_hu3, den_s, den_c, Int.add_zero, List.map_cons, List.map_nil, g2.eq, g3.eq, g4.eq, g5.eq, g6.eq, g14.eq, g15.eq, h7, h8, h10, h11, h12, h13, h15, h16, h19, h20, h21, h23, h24, h25, h58, h59] at f0 f1 f2 f3 ⊢
  omega)
def w_toHush_2_3 : VC := (([(0, 23), (0, 49), (0, 8), (0, 10), (0, 8), (1, 6), (0, 6), (0, 8), (0, 9), (0, 49), (0, 49), ((-2147483648), 2147483647), ((-2147483648), 2147483647), (0, 5), (0, 5), (0, 49), (0, 49), ((-2147483648), 2147483647)]), [(2, [(some 14, 0), (some 5, 0)], []), (150, [(some 15, 0), (some 2, 0), (some 3, 0), (some 4, 0), (some 5, 0), (some 6, 0)], [58, 59, 7, 8, 10, 11, 12, 13, 15, 16, 19, 20, 21, 23, 24, 25]), (215, [(some 14, 0), (some 2, 0), (some 3, 0), (some 4, 0), (some 5, 0), (some 6, 0)], [7, 8, 10, 11, 12, 13, 15, 16, 19, 20, 21, 23, 24, 25]), (3, [(some 5, 0), (some 14, 0)], []), (0, [(none, 0), (none, 0)], [])], (2, [(some 14, 0), (some 14, 1)], []))
set_option maxRecDepth 20000 in
theorem v_toHush_2_3 {PT : PTy} (hp : HP18 PT) : vcOk PT w_toHush_2_3 := vc_iv [(2, 0, 8), (3, 0, 10), (4, 0, 8), (5, 1, 6), (6, 0, 6), (14, 0, 5), (15, 0, 49)] [7, 8, 10, 11, 12, 13, 15, 16, 19, 20, 21, 23, 24, 25, 58, 59] (by decide +kernel) (fun ρ α => by
  intro r2 g2 b2 r3 g3 b3 r4 g4 b4 r5 g5 b5 r6 g6 b6 r14 g14 b14 r15 g15 b15 a7 h7 a8 h8 a10 h10 a11 h11 a12 h12 a13 h13 a15 h15 a16 h16 a19 h19 a20 h20 a21 h21 a23 h23 a24 h24 a25 h25 a58 h58 a59 h59 f0 f1 f2 f3 f4 tt
  clear f4
  have e150 : PT 150 = P_ar2 := pe150_18 hp
  have e215 : PT 215 = P_hu3 := pe215_18 hp
  simp only [hF2, hF3, hFp_150, hFp_215, e150, e215, P_ar2, P_hu3, den_s, den_c, Int.add_zero, List.map_cons, List.map_nil, g2.eq, g3.eq, g4.eq, g5.eq, g6.eq, g14.eq, g15.eq, h7, h8, h10, h11, h12, h13, h15, h16, h19, h20, h21, h23, h24, h25, h58, h59] at f0 f1 f2 f3 ⊢
  omega)
def w_toHush_3_0 : VC := (([(0, 23), (0, 49), (0, 8), (0, 10), (0, 8), (1, 6), (0, 6), (0, 8), (0, 9), (0, 49), (0, 49), ((-2147483648), 2147483647), ((-2147483648), 2147483647), (0, 5), (0, 5), (1, 6), (0, 49), (0, 49), ((-2147483648), 2147483647)]), [(3, [(some 15, 0), (some 5, 0)], []), (150, [(some 16, 0), (some 2, 0), (some 3, 0), (some 4, 0), (some 5, 0), (some 6, 0)], [58, 59, 7, 8, 10, 11, 12, 13, 15, 16, 19, 20, 21, 23, 24, 25]), (214, [(some 14, 0), (some 15, 0), (some 2, 0), (some 3, 0), (some 4, 0), (some 5, 0), (some 6, 0)], [7, 8, 10, 11, 12, 13, 15, 16, 19, 20, 21, 23, 24, 25]), (3, [(some 5, 0), (some 15, 0)], []), (2, [(some 14, 0), (some 15, 0)], []), (2, [(some 14, 0), (some 5, 0)], []), (0, [(none, 0), (none, 0)], [])], (215, [(some 14, 1), (some 2, 0), (some 3, 0), (some 4, 0), (some 5, 0), (some 6, 0)], [7, 8, 10, 11, 12, 13, 15, 16, 19, 20, 21, 23, 24, 25]))
set_option maxRecDepth 20000 in
theorem v_toHush_3_0 {PT : PTy} (hp : HP18 PT) : vcOk PT w_toHush_3_0 := vc_iv [(2, 0, 8), (3, 0, 10), (4, 0, 8), (5, 1, 6), (6, 0, 6), (14, 0, 5), (15, 1, 6), (16, 0, 49)] [7, 8, 10, 11, 12, 13, 15, 16, 19, 20, 21, 23, 24, 25, 58, 59] (by decide +kernel) (fun ρ α => by
  intro r2 g2 b2 r3 g3 b3 r4 g4 b4 r5 g5 b5 r6 g6 b6 r14 g14 b14 r15 g15 b15 r16 g16 b16 a7 h7 a8 h8 a10 h10 a11 h11 a12 h12 a13 h13 a15 h15 a16 h16 a19 h19 a20 h20 a21 h21 a23 h23 a24 h24 a25 h25 a58 h58 a59 h59 f0 f1 f2 f3 f4 f5 f6 tt
  clear f6
  have e150 : PT 150 = P_ar2 := pe150_18 hp
  have e214 : PT 214 = P_hu2 := pe214_18 hp
  have e215 : PT 215 = P_hu3 := pe215_18 hp
  simp only [hF2, hF3, hFp_150, hFp_214, hFp_215, e150, e214, e215, P_ar2, P_hu2, P_hu3, den_s, den_c, Int.add_zero, List.map_cons, List.map_nil, g2.eq, g3.eq, g4.eq, g5.eq, g6.eq, g14.eq, g15.eq, g16.eq, h7, h8, h10, h11, h12, h13, h15, h16, h19, h20, h21, h23, h24, h25, h58, h59] at f0 f1 f2 f3 f4 f5 ⊢
  obtain ⟨u1, u2, u3⟩ := f2
  exact ⟨u1, fun j k h1 h2 h3 h4 => by
    by_cases q : j = r14
    · subst q; exact u3 k h3 (by omega)
    · exact u2 j k h1 (by omega) h3 h4⟩)
def w_toHush_3_1 : VC := (([(0, 23), (0, 49), (0, 8), (0, 10), (0, 8), (1, 6), (0, 6), (0, 8), (0, 9), (0, 49), (0, 49), ((-2147483648), 2147483647), ((-2147483648), 2147483647), (0, 5), (0, 5), (1, 6), (0, 49), (0, 49), ((-2147483648), 2147483647)]), [(3, [(some 15, 0), (some 5, 0)], []), (150, [(some 16, 0), (some 2, 0), (some 3, 0), (some 4, 0), (some 5, 0), (some 6, 0)], [58, 59, 7, 8, 10, 11, 12, 13, 15, 16, 19, 20, 21, 23, 24, 25]), (214, [(some 14, 0), (some 15, 0), (some 2, 0), (some 3, 0), (some 4, 0), (some 5, 0), (some 6, 0)], [7, 8, 10, 11, 12, 13, 15, 16, 19, 20, 21, 23, 24, 25]), (3, [(some 5, 0), (some 15, 0)], []), (2, [(some 14, 0), (some 15, 0)], []), (2, [(some 14, 0), (some 5, 0)], []), (0, [(none, 0), (none, 0)], [])], (3, [(some 5, 0), (some 14, 1)], []))
set_option maxRecDepth 20000 in
theorem v_toHush_3_1 {PT : PTy} (hp : HP18 PT) : vcOk PT w_toHush_3_1 := vc_iv [(2, 0, 8), (3, 0, 10), (4, 0, 8), (5, 1, 6), (6, 0, 6), (14, 0, 5), (15, 1, 6), (16, 0, 49)] [7, 8, 10, 11, 12, 13, 15, 16, 19, 20, 21, 23, 24, 25, 58, 59] (by decide +kernel) (fun ρ α => by
  intro r2 g2 b2 r3 g3 b3 r4 g4 b4 r5 g5 b5 r6 g6 b6 r14 g14 b14 r15 g15 b15 r16 g16 b16 a7 h7 a8 h8 a10 h10 a11 h11 a12 h12 a13 h13 a15 h15 a16 h16 a19 h19 a20 h20 a21 h21 a23 h23 a24 h24 a25 h25 a58 h58 a59 h59 f0 f1 f2 f3 f4 f5 f6 tt
  clear f6
  have e150 : PT 150 = P_ar2 := pe150_18 hp
  have e214 : PT 214 = P_hu2 := pe214_18 hp
  simp only [hF2, hF3, hFp_150, hFp_214, e150, e214, P_ar2, P_hu2, den_s, den_c, Int.add_zero, List.map_cons, List.map_nil, g2.eq, g3.eq, g4.eq, g5.eq, g6.eq, g14.eq, g15.eq, g16.eq, h7, h8, h10, h11, h12, h13, h15, h16, h19, h20, h21, h23, h24, h25, h58, h59] at f0 f1 f2 f3 f4 f5 ⊢
  omega)
def w_toHush_3_2 : VC := (([(0, 23), (0, 49), (0, 8), (0, 10), (0, 8), (2, 6), (0, 6), (0, 8), (0, 9), (0, 49), (0, 49), ((-2147483648), 2147483647), ((-2147483648), 2147483647), (0, 5), (0, 5), (1, 5), (0, 49), (0, 49), ((-2147483648), 2147483647), (1, 32), (2, 32), ((-2147483648), 2147483647), (0, 0), (0, 49)]), [(0, [(some 22, 0), (none, 0)], []), (212, [(some 22, 0), (some 21, 0), (some 2, 0), (some 3, 0), (some 4, 0), (some 5, 0), (some 6, 0), (none, 0)], [7, 8, 10, 11, 12, 13, 15, 16, 19, 20, 21, 23, 24, 25]), (11, [(some 21, 0), (some 19, 0), (some 20, 0)], []), (13, [(some 20, 0), (none, 1), (some 15, 0)], []), (13, [(some 19, 0), (none, 1), (some 14, 0)], []), (2, [(some 15, 0), (some 5, 0)], []), (150, [(some 16, 0), (some 2, 0), (some 3, 0), (some 4, 0), (some 5, 0), (some 6, 0)], [58, 59, 7, 8, 10, 11, 12, 13, 15, 16, 19, 20, 21, 23, 24, 25]), (214, [(some 14, 0), (some 15, 0), (some 2, 0), (some 3, 0), (some 4, 0), (some 5, 0), (some 6, 0)], [7, 8, 10, 11, 12, 13, 15, 16, 19, 20, 21, 23, 24, 25]), (3, [(some 5, 0), (some 15, 0)], []), (2, [(some 14, 0), (some 15, 0)], []), (2, [(some 14, 0), (some 5, 0)], []), (0, [(none, 0), (none, 0)], [])], (214, [(some 14, 0), (some 15, 1), (some 2, 0), (some 3, 0), (some 4, 0), (some 5, 0), (some 6, 0)], [7, 8, 10, 11, 12, 13, 15, 16, 19, 20, 21, 23, 24, 25]))
set_option maxRecDepth 20000 in
theorem v_toHush_3_2 {PT : PTy} (hp : HP18 PT) : vcOk PT w_toHush_3_2 := vc_iv [(2, 0, 8), (3, 0, 10), (4, 0, 8), (5, 2, 6), (6, 0, 6), (14, 0, 5), (15, 1, 5), (16, 0, 49), (19, 1, 32), (20, 2, 32), (21, (-2147483648), 2147483647), (22, 0, 0)] [7, 8, 10, 11, 12, 13, 15, 16, 19, 20, 21, 23, 24, 25, 58, 59] (by decide +kernel) (fun ρ α => by
  intro r2 g2 b2 r3 g3 b3 r4 g4 b4 r5 g5 b5 r6 g6 b6 r14 g14 b14 r15 g15 b15 r16 g16 b16 r19 g19 b19 r20 g20 b20 r21 g21 b21 r22 g22 b22 a7 h7 a8 h8 a10 h10 a11 h11 a12 h12 a13 h13 a15 h15 a16 h16 a19 h19 a20 h20 a21 h21 a23 h23 a24 h24 a25 h25 a58 h58 a59 h59 f0 f1 f2 f3 f4 f5 f6 f7 f8 f9 f10 f11 tt
  clear f11
  have e150 : PT 150 = P_ar2 := pe150_18 hp
  have e212 : PT 212 = P_lnX := pe212_18 hp
  have e214 : PT 214 = P_hu2 := pe214_18 hp
  simp only [hF0, hF2, hF3, hF11, hF13, hFp_150, hFp_212, hFp_214, e150, e212, e214, P_ar2, P_lnX, P_hu2, den_s, den_c, Int.add_zero, List.map_cons, List.map_nil, g2.eq, g3.eq, g4.eq, g5.eq, g6.eq, g14.eq, g15.eq, g16.eq, g19.eq, g20.eq, g21.eq, g22.eq, h7, h8, h10, h11, h12, h13, h15, h16, h19, h20, h21, h23, h24, h25, h58, h59] at f0 f1 f2 f3 f4 f5 f6 f7 f8 f9 f10 ⊢
  subst f2
  subst f3
  subst f4
  have h0 : hqX r2 r3 r4 r5 r6 a7 a8 a10 a11 a12 a13 a15 a16 a19 a20 a21 a23 a24 a25 (mOr (mShl 1 r14) (mShl 1 r15)) r22 := by
    first | exact f1 rfl | exact f1 trivial | exact f1
  rw [show r22 = 0 by omega] at h0
  obtain ⟨u1, u2, u3⟩ := f7
  exact ⟨u1, u2, fun k h1 h2 => by
    by_cases q : k = r15
    · subst q; exact h0
    · exact u3 k h1 (by omega)⟩)
def w_toHush_3_3 : VC := (([(0, 23), (0, 49), (0, 8), (0, 10), (0, 8), (2, 6), (0, 6), (0, 8), (0, 9), (0, 49), (0, 49), ((-2147483648), 2147483647), ((-2147483648), 2147483647), (0, 5), (0, 5), (1, 5), (0, 49), (0, 49), ((-2147483648), 2147483647), (1, 32), (2, 32), ((-2147483648), 2147483647), (0, 0), (0, 49)]), [(0, [(some 22, 0), (none, 0)], []), (212, [(some 22, 0), (some 21, 0), (some 2, 0), (some 3, 0), (some 4, 0), (some 5, 0), (some 6, 0), (none, 0)], [7, 8, 10, 11, 12, 13, 15, 16, 19, 20, 21, 23, 24, 25]), (11, [(some 21, 0), (some 19, 0), (some 20, 0)], []), (13, [(some 20, 0), (none, 1), (some 15, 0)], []), (13, [(some 19, 0), (none, 1), (some 14, 0)], []), (2, [(some 15, 0), (some 5, 0)], []), (150, [(some 16, 0), (some 2, 0), (some 3, 0), (some 4, 0), (some 5, 0), (some 6, 0)], [58, 59, 7, 8, 10, 11, 12, 13, 15, 16, 19, 20, 21, 23, 24, 25]), (214, [(some 14, 0), (some 15, 0), (some 2, 0), (some 3, 0), (some 4, 0), (some 5, 0), (some 6, 0)], [7, 8, 10, 11, 12, 13, 15, 16, 19, 20, 21, 23, 24, 25]), (3, [(some 5, 0), (some 15, 0)], []), (2, [(some 14, 0), (some 15, 0)], []), (2, [(some 14, 0), (some 5, 0)], []), (0, [(none, 0), (none, 0)], [])], (3, [(some 5, 0), (some 15, 1)], []))
set_option maxRecDepth 20000 in
theorem v_toHush_3_3 {PT : PTy} (hp : HP18 PT) : vcOk PT w_toHush_3_3 := vc_iv [(2, 0, 8), (3, 0, 10), (4, 0, 8), (5, 2, 6), (6, 0, 6), (14, 0, 5), (15, 1, 5), (16, 0, 49), (19, 1, 32), (20, 2, 32), (21, (-2147483648), 2147483647), (22, 0, 0)] [7, 8, 10, 11, 12, 13, 15, 16, 19, 20, 21, 23, 24, 25, 58, 59] (by decide +kernel) (fun ρ α => by
  intro r2 g2 b2 r3 g3 b3 r4 g4 b4 r5 g5 b5 r6 g6 b6 r14 g14 b14 r15 g15 b15 r16 g16 b16 r19 g19 b19 r20 g20 b20 r21 g21 b21 r22 g22 b22 a7 h7 a8 h8 a10 h10 a11 h11 a12 h12 a13 h13 a15 h15 a16 h16 a19 h19 a20 h20 a21 h21 a23 h23 a24 h24 a25 h25 a58 h58 a59 h59 f0 f1 f2 f3 f4 f5 f6 f7 f8 f9 f10 f11 tt
  clear f11
  have e150 : PT 150 = P_ar2 := pe150_18 hp
  have e212 : PT 212 = P_lnX := pe212_18 hp
  have e214 : PT 214 = P_hu2 := pe214_18 hp
  simp only [hF0, hF2, hF3, hF11, hF13, hFp_150, hFp_212, hFp_214, e150, e212, e214, P_ar2, P_lnX, P_hu2, den_s, den_c, Int.add_zero, List.map_cons, List.map_nil, g2.eq, g3.eq, g4.eq, g5.eq, g6.eq, g14.eq, g15.eq, g16.eq, g19.eq, g20.eq, g21.eq, g22.eq, h7, h8, h10, h11, h12, h13, h15, h16, h19, h20, h21, h23, h24, h25, h58, h59] at f0 f1 f2 f3 f4 f5 f6 f7 f8 f9 f10 ⊢
  subst f2
  subst f3
  subst f4
  omega)
def w_toHush_3_4 : VC := (([(0, 23), (0, 49), (0, 8), (0, 10), (0, 8), (2, 6), (0, 6), (0, 8), (0, 9), (0, 49), (0, 49), ((-2147483648), 2147483647), ((-2147483648), 2147483647), (0, 5), (0, 5), (1, 5), (0, 49), (0, 49), ((-2147483648), 2147483647), (1, 32), (2, 32), ((-2147483648), 2147483647), (0, 0), (0, 49)]), [(0, [(some 22, 0), (none, 0)], []), (212, [(some 22, 0), (some 21, 0), (some 2, 0), (some 3, 0), (some 4, 0), (some 5, 0), (some 6, 0), (none, 0)], [7, 8, 10, 11, 12, 13, 15, 16, 19, 20, 21, 23, 24, 25]), (11, [(some 21, 0), (some 19, 0), (some 20, 0)], []), (13, [(some 20, 0), (none, 1), (some 15, 0)], []), (13, [(some 19, 0), (none, 1), (some 14, 0)], []), (2, [(some 15, 0), (some 5, 0)], []), (150, [(some 16, 0), (some 2, 0), (some 3, 0), (some 4, 0), (some 5, 0), (some 6, 0)], [58, 59, 7, 8, 10, 11, 12, 13, 15, 16, 19, 20, 21, 23, 24, 25]), (214, [(some 14, 0), (some 15, 0), (some 2, 0), (some 3, 0), (some 4, 0), (some 5, 0), (some 6, 0)], [7, 8, 10, 11, 12, 13, 15, 16, 19, 20, 21, 23, 24, 25]), (3, [(some 5, 0), (some 15, 0)], []), (2, [(some 14, 0), (some 15, 0)], []), (2, [(some 14, 0), (some 5, 0)], []), (0, [(none, 0), (none, 0)], [])], (2, [(some 14, 0), (some 15, 1)], []))
set_option maxRecDepth 20000 in
theorem v_toHush_3_4 {PT : PTy} (hp : HP18 PT) : vcOk PT w_toHush_3_4 := vc_iv [(2, 0, 8), (3, 0, 10), (4, 0, 8), (5, 2, 6), (6, 0, 6), (14, 0, 5), (15, 1, 5), (16, 0, 49), (19, 1, 32), (20, 2, 32), (21, (-2147483648), 2147483647), (22, 0, 0)] [7, 8, 10, 11, 12, 13, 15, 16, 19, 20, 21, 23, 24, 25, 58, 59] (by decide +kernel) (fun ρ α => by
  intro r2 g2 b2 r3 g3 b3 r4 g4 b4 r5 g5 b5 r6 g6 b6 r14 g14 b14 r15 g15 b15 r16 g16 b16 r19 g19 b19 r20 g20 b20 r21 g21 b21 r22 g22 b22 a7 h7 a8 h8 a10 h10 a11 h11 a12 h12 a13 h13 a15 h15 a16 h16 a19 h19 a20 h20 a21 h21 a23 h23 a24 h24 a25 h25 a58 h58 a59 h59 f0 f1 f2 f3 f4 f5 f6 f7 f8 f9 f10 f11 tt
  clear f11
  have e150 : PT 150 = P_ar2 := pe150_18 hp
  have e212 : PT 212 = P_lnX := pe212_18 hp
  have e214 : PT 214 = P_hu2 := pe214_18 hp
  simp only [hF0, hF2, hF3, hF11, hF13, hFp_150, hFp_212, hFp_214, e150, e212, e214, P_ar2, P_lnX, P_hu2, den_s, den_c, Int.add_zero, List.map_cons, List.map_nil, g2.eq, g3.eq, g4.eq, g5.eq, g6.eq, g14.eq, g15.eq, g16.eq, g19.eq, g20.eq, g21.eq, g22.eq, h7, h8, h10, h11, h12, h13, h15, h16, h19, h20, h21, h23, h24, h25, h58, h59] at f0 f1 f2 f3 f4 f5 f6 f7 f8 f9 f10 ⊢
  subst f2
  subst f3
  subst f4
  omega)
def w_toHush_3_5 : VC := (([(0, 23), (0, 49), (0, 8), (0, 10), (0, 8), (2, 6), (0, 6), (0, 8), (0, 9), (0, 49), (0, 49), ((-2147483648), 2147483647), ((-2147483648), 2147483647), (0, 5), (0, 5), (1, 5), (0, 49), (0, 49), ((-2147483648), 2147483647), (1, 32), (2, 32), ((-2147483648), 2147483647), (1, 1), (0, 49), (1, 32), (2, 32), ((-2147483648), 2147483647)]), [(11, [(some 26, 0), (some 24, 0), (some 25, 0)], []), (13, [(some 25, 0), (none, 1), (some 15, 0)], []), (13, [(some 24, 0), (none, 1), (some 14, 0)], []), (1, [(some 22, 0), (none, 0)], []), (212, [(some 22, 0), (some 21, 0), (some 2, 0), (some 3, 0), (some 4, 0), (some 5, 0), (some 6, 0), (none, 0)], [7, 8, 10, 11, 12, 13, 15, 16, 19, 20, 21, 23, 24, 25]), (11, [(some 21, 0), (some 19, 0), (some 20, 0)], []), (13, [(some 20, 0), (none, 1), (some 15, 0)], []), (13, [(some 19, 0), (none, 1), (some 14, 0)], []), (2, [(some 15, 0), (some 5, 0)], []), (150, [(some 16, 0), (some 2, 0), (some 3, 0), (some 4, 0), (some 5, 0), (some 6, 0)], [58, 59, 7, 8, 10, 11, 12, 13, 15, 16, 19, 20, 21, 23, 24, 25]), (214, [(some 14, 0), (some 15, 0), (some 2, 0), (some 3, 0), (some 4, 0), (some 5, 0), (some 6, 0)], [7, 8, 10, 11, 12, 13, 15, 16, 19, 20, 21, 23, 24, 25]), (3, [(some 5, 0), (some 15, 0)], []), (2, [(some 14, 0), (some 15, 0)], []), (2, [(some 14, 0), (some 5, 0)], []), (0, [(none, 0), (none, 0)], [])], (216, [(some 26, 0), (some 2, 0), (some 3, 0), (some 4, 0), (some 5, 0), (some 6, 0)], [7, 8, 10, 11, 12, 13, 15, 16, 19, 20, 21, 23, 24, 25]))
set_option maxRecDepth 20000 in
theorem v_toHush_3_5 {PT : PTy} (hp : HP18 PT) : vcOk PT w_toHush_3_5 := vc_iv [(2, 0, 8), (3, 0, 10), (4, 0, 8), (5, 2, 6), (6, 0, 6), (14, 0, 5), (15, 1, 5), (16, 0, 49), (19, 1, 32), (20, 2, 32), (21, (-2147483648), 2147483647), (22, 1, 1), (24, 1, 32), (25, 2, 32), (26, (-2147483648), 2147483647)] [7, 8, 10, 11, 12, 13, 15, 16, 19, 20, 21, 23, 24, 25, 58, 59] (by decide +kernel) (fun ρ α => by
  intro r2 g2 b2 r3 g3 b3 r4 g4 b4 r5 g5 b5 r6 g6 b6 r14 g14 b14 r15 g15 b15 r16 g16 b16 r19 g19 b19 r20 g20 b20 r21 g21 b21 r22 g22 b22 r24 g24 b24 r25 g25 b25 r26 g26 b26 a7 h7 a8 h8 a10 h10 a11 h11 a12 h12 a13 h13 a15 h15 a16 h16 a19 h19 a20 h20 a21 h21 a23 h23 a24 h24 a25 h25 a58 h58 a59 h59 f0 f1 f2 f3 f4 f5 f6 f7 f8 f9 f10 f11 f12 f13 f14 tt
  clear f3 f14
  have e150 : PT 150 = P_ar2 := pe150_18 hp
  have e212 : PT 212 = P_lnX := pe212_18 hp
  have e214 : PT 214 = P_hu2 := pe214_18 hp
  have e216 : PT 216 = P_hsX := pe216_18 hp
  simp only [hF2, hF3, hF11, hF13, hFp_150, hFp_212, hFp_214, hFp_216, e150, e212, e214, e216, P_ar2, P_lnX, P_hu2, P_hsX, den_s, den_c, Int.add_zero, List.map_cons, List.map_nil, g2.eq, g3.eq, g4.eq, g5.eq, g6.eq, g14.eq, g15.eq, g16.eq, g19.eq, g20.eq, g21.eq, g22.eq, g24.eq, g25.eq, g26.eq, h7, h8, h10, h11, h12, h13, h15, h16, h19, h20, h21, h23, h24, h25, h58, h59] at f0 f1 f2 f4 f5 f6 f7 f8 f9 f10 f11 f12 f13 ⊢
  subst f0
  subst f1
  subst f2
  subst f5
  subst f6
  subst f7
  have h0 : hqX r2 r3 r4 r5 r6 a7 a8 a10 a11 a12 a13 a15 a16 a19 a20 a21 a23 a24 a25 (mOr (mShl 1 r14) (mShl 1 r15)) r22 := by
    first | exact f4 rfl | exact f4 trivial | exact f4
  rw [show r22 = 1 by omega] at h0
  exact ⟨2, r14, r15, Or.inr (Or.inr (Or.inl ⟨by first | rfl | trivial, by omega, by omega, by omega, f10, h0⟩)), fun q => by exfalso; omega, fun q => by exfalso; omega, fun _ => rfl, fun q => by exfalso; omega⟩)
set_option maxRecDepth 1000000 in
theorem k_toHush {PT : PTy} (hp : HP18 PT) : wfX c_toHush = true ∧ xcOk PT c_toHush := xctr (xl (k_arrange14 hp.1.1.1.1.1.1.1.1.1.1.1.1.1.1.1) (xl (k_lnNaked hp) (xl0))) c_toHush 43 mX6_liesToHush rfl h_toHush (by decide +kernel) (by decide +kernel) (by decide) (vcs_by [w_toHush_0_0, w_toHush_0_1, w_toHush_0_2, w_toHush_0_3, w_toHush_0_4, w_toHush_0_5] (by decide +kernel) (vc (v_toHush_0_0 hp) (vc (v_toHush_0_1 hp) (vc (v_toHush_0_2 hp) (vc (v_toHush_0_3 hp) (vc (v_toHush_0_4 hp) (vc (v_toHush_0_5 hp) vn))))))) (fmc (vcs_by [w_toHush_1_0, w_toHush_1_1, w_toHush_1_2, w_toHush_1_3, w_toHush_1_4] (by decide +kernel) (vc (v_toHush_1_0 hp) (vc (v_toHush_1_1 hp) (vc (v_toHush_1_2 hp) (vc (v_toHush_1_3 hp) (vc (v_toHush_1_4 hp) vn)))))) (fmc (vcs_by [w_toHush_2_0, w_toHush_2_1, w_toHush_2_2, w_toHush_2_3] (by decide +kernel) (vc (v_toHush_2_0 hp) (vc (v_toHush_2_1 hp) (vc (v_toHush_2_2 hp) (vc (v_toHush_2_3 hp) vn))))) (fmc (vcs_by [w_toHush_3_0, w_toHush_3_1, w_toHush_3_2, w_toHush_3_3, w_toHush_3_4, w_toHush_3_5] (by decide +kernel) (vc (v_toHush_3_0 hp) (vc (v_toHush_3_1 hp) (vc (v_toHush_3_2 hp) (vc (v_toHush_3_3 hp) (vc (v_toHush_3_4 hp) (vc (v_toHush_3_5 hp) vn))))))) fmn)))
def c_xo_hush : XC := (64, 5, (bT ++ [((-2147483648), 2147483647)]), [.inr (.inl 0), .inl (some 14, 0)], (gX 999), [], [((bT ++ [((-2147483648), 2147483647), ((-2147483648), 2147483647), (0, 49), (0, 49), ((-2147483648), 2147483647), ((-2147483648), 2147483647)]), some (.inl (some 15, 0)), (hst (gX 999) [(5, .inr (.inr (.inr (0, [.inr (.inl 6), .inr (.inl 9), .inr (.inl 14), .inr (.inl 18), .inr (.inl 22), .inr (.inl 26), .inr (.inl 27), .inr (.inl 28), .inr (.inl 29), .inr (.inl 30), .inl (some 16, 0), .inl (some 17, 0), .inl (some 18, 0), .inl (some 19, 0), .inr (.inl 999)]))))]), (ansT 58 [(26, 58), (27, 59), (28, 60), (29, 61), (30, 62)]), 63, [(223, [(some 15, 0), (some 14, 0), (some 2, 0), (some 3, 0), (some 4, 0), (some 5, 0), (some 6, 0)], [7, 8, 10, 11, 12, 13, 15, 16, 19, 20, 21, 23, 24, 25])])])
def h_xo_hush : List XH := []
def w_xo_hush_0_0 : VC := ((bT ++ [((-2147483648), (-2))]), [(2, [(some 14, 0), (none, (-1))], [])], (223, [(none, (-2)), (some 14, 0), (some 2, 0), (some 3, 0), (some 4, 0), (some 5, 0), (some 6, 0)], [7, 8, 10, 11, 12, 13, 15, 16, 19, 20, 21, 23, 24, 25]))
theorem pe223_18 {PT : PTy} (hp : HP18 PT) : PT 223 = P_ohX := hp.2.2.2.2.2.2.2.2.2.2.2.2.1
set_option maxRecDepth 20000 in
theorem v_xo_hush_0_0 {PT : PTy} (hp : HP18 PT) : vcOk PT w_xo_hush_0_0 := vc_iv [(2, 0, 8), (3, 0, 10), (4, 0, 8), (5, 0, 6), (6, 0, 6), (14, (-2147483648), (-2))] [7, 8, 10, 11, 12, 13, 15, 16, 19, 20, 21, 23, 24, 25] (by decide +kernel) (fun ρ α => by
  intro r2 g2 b2 r3 g3 b3 r4 g4 b4 r5 g5 b5 r6 g6 b6 r14 g14 b14 a7 h7 a8 h8 a10 h10 a11 h11 a12 h12 a13 h13 a15 h15 a16 h16 a19 h19 a20 h20 a21 h21 a23 h23 a24 h24 a25 h25 f0 tt
  clear f0
  have e223 : PT 223 = P_ohX := pe223_18 hp
  simp only [hFp_223, e223, P_ohX, den_s, den_c, Int.add_zero, List.map_cons, List.map_nil, g2.eq, g3.eq, g4.eq, g5.eq, g6.eq, g14.eq, h7, h8, h10, h11, h12, h13, h15, h16, h19, h20, h21, h23, h24, h25] at ⊢
  exact ⟨fun _ => (by first | rfl | trivial), fun h => by exfalso; omega⟩)
def w_xo_hush_0_1 : VC := ((bT ++ [(1, 1), ((-2147483648), 2147483647), (0, 49), (0, 49), ((-2147483648), 2147483647), (1, 2147483647), ((-2147483648), 2147483647), ((-2147483648), 2147483647), ((-2147483648), 2147483647), ((-2147483648), 2147483647), (1, 4), ((-2147483648), 2147483647), ((-2147483648), 2147483647)]), [(16, [(some 26, 0), (none, 1), (some 25, 0)], []), (15, [(some 25, 0), (some 24, 0), (none, 1)], []), (3, [(none, 4), (some 24, 0)], []), (3, [(none, 16), (some 24, 0)], []), (3, [(none, 256), (some 24, 0)], []), (3, [(none, 65536), (some 24, 0)], []), (2, [(none, 0), (some 24, 0)], []), (10, [(some 24, 0), (some 22, 0), (some 23, 0)], []), (29, [(some 23, 0), (some 21, 0), (none, 1)], []), (12, [(some 22, 0), (some 21, 0), (none, (-1))], []), (10, [(some 21, 0), (some 15, 0), (some 20, 0)], []), (29, [(some 20, 0), (some 15, 0), (none, 1)], []), (1, [(some 14, 0), (none, 0)], []), (2, [(some 14, 0), (some 19, 0)], []), (1, [(some 14, 0), (none, (-1))], []), (160, [(some 19, 0), (some 15, 0)], []), (1, [(some 15, 0), (none, (-1))], []), (216, [(some 15, 0), (some 2, 0), (some 3, 0), (some 4, 0), (some 5, 0), (some 6, 0)], [7, 8, 10, 11, 12, 13, 15, 16, 19, 20, 21, 23, 24, 25]), (3, [(none, 1), (some 14, 0)], []), (3, [(some 14, 0), (none, (-1))], [])], (223, [(some 26, 0), (some 14, 0), (some 2, 0), (some 3, 0), (some 4, 0), (some 5, 0), (some 6, 0)], [7, 8, 10, 11, 12, 13, 15, 16, 19, 20, 21, 23, 24, 25]))
theorem pe160_18 {PT : PTy} (hp : HP18 PT) : PT 160 = P_bc := hp.1.1.1.1.1.1.1.2.2.2.2.2.2.2.2.2.2.2.2.2.2.1
set_option maxRecDepth 20000 in
theorem v_xo_hush_0_1 {PT : PTy} (hp : HP18 PT) : vcOk PT w_xo_hush_0_1 := vc_iv [(2, 0, 8), (3, 0, 10), (4, 0, 8), (5, 0, 6), (6, 0, 6), (14, 1, 1), (15, (-2147483648), 2147483647), (19, 1, 2147483647), (20, (-2147483648), 2147483647), (21, (-2147483648), 2147483647), (22, (-2147483648), 2147483647), (23, (-2147483648), 2147483647), (24, 1, 4), (25, (-2147483648), 2147483647), (26, (-2147483648), 2147483647)] [7, 8, 10, 11, 12, 13, 15, 16, 19, 20, 21, 23, 24, 25] (by decide +kernel) (fun ρ α => by
  intro r2 g2 b2 r3 g3 b3 r4 g4 b4 r5 g5 b5 r6 g6 b6 r14 g14 b14 r15 g15 b15 r19 g19 b19 r20 g20 b20 r21 g21 b21 r22 g22 b22 r23 g23 b23 r24 g24 b24 r25 g25 b25 r26 g26 b26 a7 h7 a8 h8 a10 h10 a11 h11 a12 h12 a13 h13 a15 h15 a16 h16 a19 h19 a20 h20 a21 h21 a23 h23 a24 h24 a25 h25 f0 f1 f2 f3 f4 f5 f6 f7 f8 f9 f10 f11 f12 f13 f14 f15 f16 f17 f18 f19 tt
  clear f2 f3 f4 f5 f6 f12 f14 f18 f19
  have e160 : PT 160 = P_bc := pe160_18 hp
  have e216 : PT 216 = P_hsX := pe216_18 hp
  have e223 : PT 223 = P_ohX := pe223_18 hp
  simp only [hF1, hF2, hF10, hF12, hF15, hF16, hF29, hFp_160, hFp_216, hFp_223, e160, e216, e223, P_bc, P_hsX, P_ohX, den_s, den_c, Int.add_zero, List.map_cons, List.map_nil, g2.eq, g3.eq, g4.eq, g5.eq, g6.eq, g14.eq, g15.eq, g19.eq, g20.eq, g21.eq, g22.eq, g23.eq, g24.eq, g25.eq, g26.eq, h7, h8, h10, h11, h12, h13, h15, h16, h19, h20, h21, h23, h24, h25] at f0 f1 f7 f8 f9 f10 f11 f13 f15 f16 f17 ⊢
  subst f0
  subst f1
  subst f7
  subst f8
  subst f9
  subst f10
  subst f11
  obtain ⟨c, a, b, hR, e0, e1, e2, e3⟩ := f17
  have hV := huV_of (by omega) hR e0 e1 e2 e3
  have hc2 : c ≤ 2 := by rcases hV with w | w | w | w <;> omega
  obtain ⟨m1, m2, m3, m4⟩ := huV_m hV (by omega)
  have hb := f15
  rw [m1] at hb
  first
    | (have hn := m3 (by omega)
       refine ⟨fun h => by exfalso; omega, fun _ => ⟨c, a, b, hR, fun q => by exfalso; omega, fun q1 q2 => by exfalso; omega, fun q1 q2 => ?_, fun q1 q2 => by exfalso; omega⟩⟩
       rw [← hn]
       unfold ntF nt16 nt8 nt4 nt2
       (repeat' split) <;> first | rfl | (exfalso; omega))
    | (have hn := m4 (by omega)
       refine ⟨fun h => by exfalso; omega, fun _ => ⟨c, a, b, hR, fun q => by exfalso; omega, fun q1 q2 => by exfalso; omega, fun q1 q2 => by exfalso; omega, fun q1 q2 => ?_⟩⟩
       rw [← hn]
       unfold ntF nt16 nt8 nt4 nt2
       (repeat' split) <;> first | rfl | (exfalso; omega)))
def w_xo_hush_0_2 : VC := ((bT ++ [(1, 1), ((-2147483648), 2147483647), (0, 49), (0, 49), ((-2147483648), 2147483647), (1, 2147483647), ((-2147483648), 2147483647), ((-2147483648), 2147483647), ((-2147483648), 2147483647), ((-2147483648), 2147483647), (5, 16), ((-2147483648), 2147483647), ((-2147483648), 2147483647), ((-2147483648), 2147483647)]), [(16, [(some 27, 0), (none, 3), (some 26, 0)], []), (15, [(some 26, 0), (some 25, 0), (none, 1)], []), (15, [(some 25, 0), (some 24, 0), (none, 2)], []), (2, [(none, 4), (some 24, 0)], []), (3, [(none, 16), (some 24, 0)], []), (3, [(none, 256), (some 24, 0)], []), (3, [(none, 65536), (some 24, 0)], []), (2, [(none, 0), (some 24, 0)], []), (10, [(some 24, 0), (some 22, 0), (some 23, 0)], []), (29, [(some 23, 0), (some 21, 0), (none, 1)], []), (12, [(some 22, 0), (some 21, 0), (none, (-1))], []), (10, [(some 21, 0), (some 15, 0), (some 20, 0)], []), (29, [(some 20, 0), (some 15, 0), (none, 1)], []), (1, [(some 14, 0), (none, 0)], []), (2, [(some 14, 0), (some 19, 0)], []), (1, [(some 14, 0), (none, (-1))], []), (160, [(some 19, 0), (some 15, 0)], []), (1, [(some 15, 0), (none, (-1))], []), (216, [(some 15, 0), (some 2, 0), (some 3, 0), (some 4, 0), (some 5, 0), (some 6, 0)], [7, 8, 10, 11, 12, 13, 15, 16, 19, 20, 21, 23, 24, 25]), (3, [(none, 1), (some 14, 0)], []), (3, [(some 14, 0), (none, (-1))], [])], (223, [(some 27, 0), (some 14, 0), (some 2, 0), (some 3, 0), (some 4, 0), (some 5, 0), (some 6, 0)], [7, 8, 10, 11, 12, 13, 15, 16, 19, 20, 21, 23, 24, 25]))
set_option maxRecDepth 20000 in
theorem v_xo_hush_0_2 {PT : PTy} (hp : HP18 PT) : vcOk PT w_xo_hush_0_2 := vc_iv [(2, 0, 8), (3, 0, 10), (4, 0, 8), (5, 0, 6), (6, 0, 6), (14, 1, 1), (15, (-2147483648), 2147483647), (19, 1, 2147483647), (20, (-2147483648), 2147483647), (21, (-2147483648), 2147483647), (22, (-2147483648), 2147483647), (23, (-2147483648), 2147483647), (24, 5, 16), (25, (-2147483648), 2147483647), (26, (-2147483648), 2147483647), (27, (-2147483648), 2147483647)] [7, 8, 10, 11, 12, 13, 15, 16, 19, 20, 21, 23, 24, 25] (by decide +kernel) (fun ρ α => by
  intro r2 g2 b2 r3 g3 b3 r4 g4 b4 r5 g5 b5 r6 g6 b6 r14 g14 b14 r15 g15 b15 r19 g19 b19 r20 g20 b20 r21 g21 b21 r22 g22 b22 r23 g23 b23 r24 g24 b24 r25 g25 b25 r26 g26 b26 r27 g27 b27 a7 h7 a8 h8 a10 h10 a11 h11 a12 h12 a13 h13 a15 h15 a16 h16 a19 h19 a20 h20 a21 h21 a23 h23 a24 h24 a25 h25 f0 f1 f2 f3 f4 f5 f6 f7 f8 f9 f10 f11 f12 f13 f14 f15 f16 f17 f18 f19 f20 tt
  clear f3 f4 f5 f6 f7 f13 f15 f19 f20
  have e160 : PT 160 = P_bc := pe160_18 hp
  have e216 : PT 216 = P_hsX := pe216_18 hp
  have e223 : PT 223 = P_ohX := pe223_18 hp
  simp only [hF1, hF2, hF10, hF12, hF15, hF16, hF29, hFp_160, hFp_216, hFp_223, e160, e216, e223, P_bc, P_hsX, P_ohX, den_s, den_c, Int.add_zero, List.map_cons, List.map_nil, g2.eq, g3.eq, g4.eq, g5.eq, g6.eq, g14.eq, g15.eq, g19.eq, g20.eq, g21.eq, g22.eq, g23.eq, g24.eq, g25.eq, g26.eq, g27.eq, h7, h8, h10, h11, h12, h13, h15, h16, h19, h20, h21, h23, h24, h25] at f0 f1 f2 f8 f9 f10 f11 f12 f14 f16 f17 f18 ⊢
  subst f0
  subst f1
  subst f2
  subst f8
  subst f9
  subst f10
  subst f11
  subst f12
  obtain ⟨c, a, b, hR, e0, e1, e2, e3⟩ := f18
  have hV := huV_of (by omega) hR e0 e1 e2 e3
  have hc2 : c ≤ 2 := by rcases hV with w | w | w | w <;> omega
  obtain ⟨m1, m2, m3, m4⟩ := huV_m hV (by omega)
  have hb := f16
  rw [m1] at hb
  first
    | (have hn := m3 (by omega)
       refine ⟨fun h => by exfalso; omega, fun _ => ⟨c, a, b, hR, fun q => by exfalso; omega, fun q1 q2 => by exfalso; omega, fun q1 q2 => ?_, fun q1 q2 => by exfalso; omega⟩⟩
       rw [← hn]
       unfold ntF nt16 nt8 nt4 nt2
       (repeat' split) <;> first | rfl | (exfalso; omega))
    | (have hn := m4 (by omega)
       refine ⟨fun h => by exfalso; omega, fun _ => ⟨c, a, b, hR, fun q => by exfalso; omega, fun q1 q2 => by exfalso; omega, fun q1 q2 => by exfalso; omega, fun q1 q2 => ?_⟩⟩
       rw [← hn]
       unfold ntF nt16 nt8 nt4 nt2
       (repeat' split) <;> first | rfl | (exfalso; omega)))
def w_xo_hush_0_3 : VC := ((bT ++ [(1, 1), ((-2147483648), 2147483647), (0, 49), (0, 49), ((-2147483648), 2147483647), (1, 2147483647), ((-2147483648), 2147483647), ((-2147483648), 2147483647), ((-2147483648), 2147483647), ((-2147483648), 2147483647), (17, 256), ((-2147483648), 4), ((-2147483648), 2147483647), ((-2147483648), 2147483647)]), [(16, [(some 27, 0), (none, 5), (some 26, 0)], []), (15, [(some 26, 0), (some 25, 0), (none, 1)], []), (3, [(none, 4), (some 25, 0)], []), (15, [(some 25, 0), (some 24, 0), (none, 4)], []), (2, [(none, 16), (some 24, 0)], []), (3, [(none, 256), (some 24, 0)], []), (3, [(none, 65536), (some 24, 0)], []), (2, [(none, 0), (some 24, 0)], []), (10, [(some 24, 0), (some 22, 0), (some 23, 0)], []), (29, [(some 23, 0), (some 21, 0), (none, 1)], []), (12, [(some 22, 0), (some 21, 0), (none, (-1))], []), (10, [(some 21, 0), (some 15, 0), (some 20, 0)], []), (29, [(some 20, 0), (some 15, 0), (none, 1)], []), (1, [(some 14, 0), (none, 0)], []), (2, [(some 14, 0), (some 19, 0)], []), (1, [(some 14, 0), (none, (-1))], []), (160, [(some 19, 0), (some 15, 0)], []), (1, [(some 15, 0), (none, (-1))], []), (216, [(some 15, 0), (some 2, 0), (some 3, 0), (some 4, 0), (some 5, 0), (some 6, 0)], [7, 8, 10, 11, 12, 13, 15, 16, 19, 20, 21, 23, 24, 25]), (3, [(none, 1), (some 14, 0)], []), (3, [(some 14, 0), (none, (-1))], [])], (223, [(some 27, 0), (some 14, 0), (some 2, 0), (some 3, 0), (some 4, 0), (some 5, 0), (some 6, 0)], [7, 8, 10, 11, 12, 13, 15, 16, 19, 20, 21, 23, 24, 25]))
set_option maxRecDepth 20000 in
theorem v_xo_hush_0_3 {PT : PTy} (hp : HP18 PT) : vcOk PT w_xo_hush_0_3 := vc_iv [(2, 0, 8), (3, 0, 10), (4, 0, 8), (5, 0, 6), (6, 0, 6), (14, 1, 1), (15, (-2147483648), 2147483647), (19, 1, 2147483647), (20, (-2147483648), 2147483647), (21, (-2147483648), 2147483647), (22, (-2147483648), 2147483647), (23, (-2147483648), 2147483647), (24, 17, 256), (25, (-2147483648), 4), (26, (-2147483648), 2147483647), (27, (-2147483648), 2147483647)] [7, 8, 10, 11, 12, 13, 15, 16, 19, 20, 21, 23, 24, 25] (by decide +kernel) (fun ρ α => by
  intro r2 g2 b2 r3 g3 b3 r4 g4 b4 r5 g5 b5 r6 g6 b6 r14 g14 b14 r15 g15 b15 r19 g19 b19 r20 g20 b20 r21 g21 b21 r22 g22 b22 r23 g23 b23 r24 g24 b24 r25 g25 b25 r26 g26 b26 r27 g27 b27 a7 h7 a8 h8 a10 h10 a11 h11 a12 h12 a13 h13 a15 h15 a16 h16 a19 h19 a20 h20 a21 h21 a23 h23 a24 h24 a25 h25 f0 f1 f2 f3 f4 f5 f6 f7 f8 f9 f10 f11 f12 f13 f14 f15 f16 f17 f18 f19 f20 tt
  clear f2 f4 f5 f6 f7 f13 f15 f19 f20
  have e160 : PT 160 = P_bc := pe160_18 hp
  have e216 : PT 216 = P_hsX := pe216_18 hp
  have e223 : PT 223 = P_ohX := pe223_18 hp
  simp only [hF1, hF2, hF10, hF12, hF15, hF16, hF29, hFp_160, hFp_216, hFp_223, e160, e216, e223, P_bc, P_hsX, P_ohX, den_s, den_c, Int.add_zero, List.map_cons, List.map_nil, g2.eq, g3.eq, g4.eq, g5.eq, g6.eq, g14.eq, g15.eq, g19.eq, g20.eq, g21.eq, g22.eq, g23.eq, g24.eq, g25.eq, g26.eq, g27.eq, h7, h8, h10, h11, h12, h13, h15, h16, h19, h20, h21, h23, h24, h25] at f0 f1 f3 f8 f9 f10 f11 f12 f14 f16 f17 f18 ⊢
  subst f0
  subst f1
  subst f3
  subst f8
  subst f9
  subst f10
  subst f11
  subst f12
  obtain ⟨c, a, b, hR, e0, e1, e2, e3⟩ := f18
  have hV := huV_of (by omega) hR e0 e1 e2 e3
  have hc2 : c ≤ 2 := by rcases hV with w | w | w | w <;> omega
  obtain ⟨m1, m2, m3, m4⟩ := huV_m hV (by omega)
  have hb := f16
  rw [m1] at hb
  first
    | (have hn := m3 (by omega)
       refine ⟨fun h => by exfalso; omega, fun _ => ⟨c, a, b, hR, fun q => by exfalso; omega, fun q1 q2 => by exfalso; omega, fun q1 q2 => ?_, fun q1 q2 => by exfalso; omega⟩⟩
       rw [← hn]
       unfold ntF nt16 nt8 nt4 nt2
       (repeat' split) <;> first | rfl | (exfalso; omega))
    | (have hn := m4 (by omega)
       refine ⟨fun h => by exfalso; omega, fun _ => ⟨c, a, b, hR, fun q => by exfalso; omega, fun q1 q2 => by exfalso; omega, fun q1 q2 => by exfalso; omega, fun q1 q2 => ?_⟩⟩
       rw [← hn]
       unfold ntF nt16 nt8 nt4 nt2
       (repeat' split) <;> first | rfl | (exfalso; omega)))
def w_xo_hush_0_4 : VC := ((bT ++ [(1, 1), ((-2147483648), 2147483647), (0, 49), (0, 49), ((-2147483648), 2147483647), (1, 2147483647), ((-2147483648), 2147483647), ((-2147483648), 2147483647), ((-2147483648), 2147483647), ((-2147483648), 2147483647), (17, 256), (5, 2147483647), ((-2147483648), 2147483647), ((-2147483648), 2147483647), ((-2147483648), 2147483647)]), [(16, [(some 28, 0), (none, 7), (some 27, 0)], []), (15, [(some 27, 0), (some 26, 0), (none, 1)], []), (15, [(some 26, 0), (some 25, 0), (none, 2)], []), (2, [(none, 4), (some 25, 0)], []), (15, [(some 25, 0), (some 24, 0), (none, 4)], []), (2, [(none, 16), (some 24, 0)], []), (3, [(none, 256), (some 24, 0)], []), (3, [(none, 65536), (some 24, 0)], []), (2, [(none, 0), (some 24, 0)], []), (10, [(some 24, 0), (some 22, 0), (some 23, 0)], []), (29, [(some 23, 0), (some 21, 0), (none, 1)], []), (12, [(some 22, 0), (some 21, 0), (none, (-1))], []), (10, [(some 21, 0), (some 15, 0), (some 20, 0)], []), (29, [(some 20, 0), (some 15, 0), (none, 1)], []), (1, [(some 14, 0), (none, 0)], []), (2, [(some 14, 0), (some 19, 0)], []), (1, [(some 14, 0), (none, (-1))], []), (160, [(some 19, 0), (some 15, 0)], []), (1, [(some 15, 0), (none, (-1))], []), (216, [(some 15, 0), (some 2, 0), (some 3, 0), (some 4, 0), (some 5, 0), (some 6, 0)], [7, 8, 10, 11, 12, 13, 15, 16, 19, 20, 21, 23, 24, 25]), (3, [(none, 1), (some 14, 0)], []), (3, [(some 14, 0), (none, (-1))], [])], (223, [(some 28, 0), (some 14, 0), (some 2, 0), (some 3, 0), (some 4, 0), (some 5, 0), (some 6, 0)], [7, 8, 10, 11, 12, 13, 15, 16, 19, 20, 21, 23, 24, 25]))
set_option maxRecDepth 20000 in
theorem v_xo_hush_0_4 {PT : PTy} (hp : HP18 PT) : vcOk PT w_xo_hush_0_4 := vc_iv [(2, 0, 8), (3, 0, 10), (4, 0, 8), (5, 0, 6), (6, 0, 6), (14, 1, 1), (15, (-2147483648), 2147483647), (19, 1, 2147483647), (20, (-2147483648), 2147483647), (21, (-2147483648), 2147483647), (22, (-2147483648), 2147483647), (23, (-2147483648), 2147483647), (24, 17, 256), (25, 5, 2147483647), (26, (-2147483648), 2147483647), (27, (-2147483648), 2147483647), (28, (-2147483648), 2147483647)] [7, 8, 10, 11, 12, 13, 15, 16, 19, 20, 21, 23, 24, 25] (by decide +kernel) (fun ρ α => by
  intro r2 g2 b2 r3 g3 b3 r4 g4 b4 r5 g5 b5 r6 g6 b6 r14 g14 b14 r15 g15 b15 r19 g19 b19 r20 g20 b20 r21 g21 b21 r22 g22 b22 r23 g23 b23 r24 g24 b24 r25 g25 b25 r26 g26 b26 r27 g27 b27 r28 g28 b28 a7 h7 a8 h8 a10 h10 a11 h11 a12 h12 a13 h13 a15 h15 a16 h16 a19 h19 a20 h20 a21 h21 a23 h23 a24 h24 a25 h25 f0 f1 f2 f3 f4 f5 f6 f7 f8 f9 f10 f11 f12 f13 f14 f15 f16 f17 f18 f19 f20 f21 tt
  clear f3 f5 f6 f7 f8 f14 f16 f20 f21
  have e160 : PT 160 = P_bc := pe160_18 hp
  have e216 : PT 216 = P_hsX := pe216_18 hp
  have e223 : PT 223 = P_ohX := pe223_18 hp
  simp only [hF1, hF2, hF10, hF12, hF15, hF16, hF29, hFp_160, hFp_216, hFp_223, e160, e216, e223, P_bc, P_hsX, P_ohX, den_s, den_c, Int.add_zero, List.map_cons, List.map_nil, g2.eq, g3.eq, g4.eq, g5.eq, g6.eq, g14.eq, g15.eq, g19.eq, g20.eq, g21.eq, g22.eq, g23.eq, g24.eq, g25.eq, g26.eq, g27.eq, g28.eq, h7, h8, h10, h11, h12, h13, h15, h16, h19, h20, h21, h23, h24, h25] at f0 f1 f2 f4 f9 f10 f11 f12 f13 f15 f17 f18 f19 ⊢
  subst f0
  subst f1
  subst f2
  subst f4
  subst f9
  subst f10
  subst f11
  subst f12
  subst f13
  obtain ⟨c, a, b, hR, e0, e1, e2, e3⟩ := f19
  have hV := huV_of (by omega) hR e0 e1 e2 e3
  have hc2 : c ≤ 2 := by rcases hV with w | w | w | w <;> omega
  obtain ⟨m1, m2, m3, m4⟩ := huV_m hV (by omega)
  have hb := f17
  rw [m1] at hb
  first
    | (have hn := m3 (by omega)
       refine ⟨fun h => by exfalso; omega, fun _ => ⟨c, a, b, hR, fun q => by exfalso; omega, fun q1 q2 => by exfalso; omega, fun q1 q2 => ?_, fun q1 q2 => by exfalso; omega⟩⟩
       rw [← hn]
       unfold ntF nt16 nt8 nt4 nt2
       (repeat' split) <;> first | rfl | (exfalso; omega))
    | (have hn := m4 (by omega)
       refine ⟨fun h => by exfalso; omega, fun _ => ⟨c, a, b, hR, fun q => by exfalso; omega, fun q1 q2 => by exfalso; omega, fun q1 q2 => by exfalso; omega, fun q1 q2 => ?_⟩⟩
       rw [← hn]
       unfold ntF nt16 nt8 nt4 nt2
       (repeat' split) <;> first | rfl | (exfalso; omega)))
def w_xo_hush_0_5 : VC := ((bT ++ [(1, 1), ((-2147483648), 2147483647), (0, 49), (0, 49), ((-2147483648), 2147483647), (1, 2147483647), ((-2147483648), 2147483647), ((-2147483648), 2147483647), ((-2147483648), 2147483647), ((-2147483648), 2147483647), (257, 65536), ((-2147483648), 4), ((-2147483648), 2147483647), ((-2147483648), 2147483647)]), [(16, [(some 27, 0), (none, 9), (some 26, 0)], []), (15, [(some 26, 0), (some 25, 0), (none, 1)], []), (3, [(none, 4), (some 25, 0)], []), (3, [(none, 16), (some 25, 0)], []), (15, [(some 25, 0), (some 24, 0), (none, 8)], []), (2, [(none, 256), (some 24, 0)], []), (3, [(none, 65536), (some 24, 0)], []), (2, [(none, 0), (some 24, 0)], []), (10, [(some 24, 0), (some 22, 0), (some 23, 0)], []), (29, [(some 23, 0), (some 21, 0), (none, 1)], []), (12, [(some 22, 0), (some 21, 0), (none, (-1))], []), (10, [(some 21, 0), (some 15, 0), (some 20, 0)], []), (29, [(some 20, 0), (some 15, 0), (none, 1)], []), (1, [(some 14, 0), (none, 0)], []), (2, [(some 14, 0), (some 19, 0)], []), (1, [(some 14, 0), (none, (-1))], []), (160, [(some 19, 0), (some 15, 0)], []), (1, [(some 15, 0), (none, (-1))], []), (216, [(some 15, 0), (some 2, 0), (some 3, 0), (some 4, 0), (some 5, 0), (some 6, 0)], [7, 8, 10, 11, 12, 13, 15, 16, 19, 20, 21, 23, 24, 25]), (3, [(none, 1), (some 14, 0)], []), (3, [(some 14, 0), (none, (-1))], [])], (223, [(some 27, 0), (some 14, 0), (some 2, 0), (some 3, 0), (some 4, 0), (some 5, 0), (some 6, 0)], [7, 8, 10, 11, 12, 13, 15, 16, 19, 20, 21, 23, 24, 25]))
set_option maxRecDepth 20000 in
theorem v_xo_hush_0_5 {PT : PTy} (hp : HP18 PT) : vcOk PT w_xo_hush_0_5 := vc_iv [(2, 0, 8), (3, 0, 10), (4, 0, 8), (5, 0, 6), (6, 0, 6), (14, 1, 1), (15, (-2147483648), 2147483647), (19, 1, 2147483647), (20, (-2147483648), 2147483647), (21, (-2147483648), 2147483647), (22, (-2147483648), 2147483647), (23, (-2147483648), 2147483647), (24, 257, 65536), (25, (-2147483648), 4), (26, (-2147483648), 2147483647), (27, (-2147483648), 2147483647)] [7, 8, 10, 11, 12, 13, 15, 16, 19, 20, 21, 23, 24, 25] (by decide +kernel) (fun ρ α => by
  intro r2 g2 b2 r3 g3 b3 r4 g4 b4 r5 g5 b5 r6 g6 b6 r14 g14 b14 r15 g15 b15 r19 g19 b19 r20 g20 b20 r21 g21 b21 r22 g22 b22 r23 g23 b23 r24 g24 b24 r25 g25 b25 r26 g26 b26 r27 g27 b27 a7 h7 a8 h8 a10 h10 a11 h11 a12 h12 a13 h13 a15 h15 a16 h16 a19 h19 a20 h20 a21 h21 a23 h23 a24 h24 a25 h25 f0 f1 f2 f3 f4 f5 f6 f7 f8 f9 f10 f11 f12 f13 f14 f15 f16 f17 f18 f19 f20 tt
  clear f2 f3 f5 f6 f7 f13 f15 f19 f20
  have e160 : PT 160 = P_bc := pe160_18 hp
  have e216 : PT 216 = P_hsX := pe216_18 hp
  have e223 : PT 223 = P_ohX := pe223_18 hp
  simp only [hF1, hF2, hF10, hF12, hF15, hF16, hF29, hFp_160, hFp_216, hFp_223, e160, e216, e223, P_bc, P_hsX, P_ohX, den_s, den_c, Int.add_zero, List.map_cons, List.map_nil, g2.eq, g3.eq, g4.eq, g5.eq, g6.eq, g14.eq, g15.eq, g19.eq, g20.eq, g21.eq, g22.eq, g23.eq, g24.eq, g25.eq, g26.eq, g27.eq, h7, h8, h10, h11, h12, h13, h15, h16, h19, h20, h21, h23, h24, h25] at f0 f1 f4 f8 f9 f10 f11 f12 f14 f16 f17 f18 ⊢
  subst f0
  subst f1
  subst f4
  subst f8
  subst f9
  subst f10
  subst f11
  subst f12
  obtain ⟨c, a, b, hR, e0, e1, e2, e3⟩ := f18
  have hV := huV_of (by omega) hR e0 e1 e2 e3
  have hc2 : c ≤ 2 := by rcases hV with w | w | w | w <;> omega
  obtain ⟨m1, m2, m3, m4⟩ := huV_m hV (by omega)
  have hb := f16
  rw [m1] at hb
  first
    | (have hn := m3 (by omega)
       refine ⟨fun h => by exfalso; omega, fun _ => ⟨c, a, b, hR, fun q => by exfalso; omega, fun q1 q2 => by exfalso; omega, fun q1 q2 => ?_, fun q1 q2 => by exfalso; omega⟩⟩
       rw [← hn]
       unfold ntF nt16 nt8 nt4 nt2
       (repeat' split) <;> first | rfl | (exfalso; omega))
    | (have hn := m4 (by omega)
       refine ⟨fun h => by exfalso; omega, fun _ => ⟨c, a, b, hR, fun q => by exfalso; omega, fun q1 q2 => by exfalso; omega, fun q1 q2 => by exfalso; omega, fun q1 q2 => ?_⟩⟩
       rw [← hn]
       unfold ntF nt16 nt8 nt4 nt2
       (repeat' split) <;> first | rfl | (exfalso; omega)))
def w_xo_hush_0_6 : VC := ((bT ++ [(1, 1), ((-2147483648), 2147483647), (0, 49), (0, 49), ((-2147483648), 2147483647), (1, 2147483647), ((-2147483648), 2147483647), ((-2147483648), 2147483647), ((-2147483648), 2147483647), ((-2147483648), 2147483647), (257, 65536), (5, 16), ((-2147483648), 2147483647), ((-2147483648), 2147483647), ((-2147483648), 2147483647)]), [(16, [(some 28, 0), (none, 11), (some 27, 0)], []), (15, [(some 27, 0), (some 26, 0), (none, 1)], []), (15, [(some 26, 0), (some 25, 0), (none, 2)], []), (2, [(none, 4), (some 25, 0)], []), (3, [(none, 16), (some 25, 0)], []), (15, [(some 25, 0), (some 24, 0), (none, 8)], []), (2, [(none, 256), (some 24, 0)], []), (3, [(none, 65536), (some 24, 0)], []), (2, [(none, 0), (some 24, 0)], []), (10, [(some 24, 0), (some 22, 0), (some 23, 0)], []), (29, [(some 23, 0), (some 21, 0), (none, 1)], []), (12, [(some 22, 0), (some 21, 0), (none, (-1))], []), (10, [(some 21, 0), (some 15, 0), (some 20, 0)], []), (29, [(some 20, 0), (some 15, 0), (none, 1)], []), (1, [(some 14, 0), (none, 0)], []), (2, [(some 14, 0), (some 19, 0)], []), (1, [(some 14, 0), (none, (-1))], []), (160, [(some 19, 0), (some 15, 0)], []), (1, [(some 15, 0), (none, (-1))], []), (216, [(some 15, 0), (some 2, 0), (some 3, 0), (some 4, 0), (some 5, 0), (some 6, 0)], [7, 8, 10, 11, 12, 13, 15, 16, 19, 20, 21, 23, 24, 25]), (3, [(none, 1), (some 14, 0)], []), (3, [(some 14, 0), (none, (-1))], [])], (223, [(some 28, 0), (some 14, 0), (some 2, 0), (some 3, 0), (some 4, 0), (some 5, 0), (some 6, 0)], [7, 8, 10, 11, 12, 13, 15, 16, 19, 20, 21, 23, 24, 25]))
set_option maxRecDepth 20000 in
theorem v_xo_hush_0_6 {PT : PTy} (hp : HP18 PT) : vcOk PT w_xo_hush_0_6 := vc_iv [(2, 0, 8), (3, 0, 10), (4, 0, 8), (5, 0, 6), (6, 0, 6), (14, 1, 1), (15, (-2147483648), 2147483647), (19, 1, 2147483647), (20, (-2147483648), 2147483647), (21, (-2147483648), 2147483647), (22, (-2147483648), 2147483647), (23, (-2147483648), 2147483647), (24, 257, 65536), (25, 5, 16), (26, (-2147483648), 2147483647), (27, (-2147483648), 2147483647), (28, (-2147483648), 2147483647)] [7, 8, 10, 11, 12, 13, 15, 16, 19, 20, 21, 23, 24, 25] (by decide +kernel) (fun ρ α => by
  intro r2 g2 b2 r3 g3 b3 r4 g4 b4 r5 g5 b5 r6 g6 b6 r14 g14 b14 r15 g15 b15 r19 g19 b19 r20 g20 b20 r21 g21 b21 r22 g22 b22 r23 g23 b23 r24 g24 b24 r25 g25 b25 r26 g26 b26 r27 g27 b27 r28 g28 b28 a7 h7 a8 h8 a10 h10 a11 h11 a12 h12 a13 h13 a15 h15 a16 h16 a19 h19 a20 h20 a21 h21 a23 h23 a24 h24 a25 h25 f0 f1 f2 f3 f4 f5 f6 f7 f8 f9 f10 f11 f12 f13 f14 f15 f16 f17 f18 f19 f20 f21 tt
  clear f3 f4 f6 f7 f8 f14 f16 f20 f21
  have e160 : PT 160 = P_bc := pe160_18 hp
  have e216 : PT 216 = P_hsX := pe216_18 hp
  have e223 : PT 223 = P_ohX := pe223_18 hp
  simp only [hF1, hF2, hF10, hF12, hF15, hF16, hF29, hFp_160, hFp_216, hFp_223, e160, e216, e223, P_bc, P_hsX, P_ohX, den_s, den_c, Int.add_zero, List.map_cons, List.map_nil, g2.eq, g3.eq, g4.eq, g5.eq, g6.eq, g14.eq, g15.eq, g19.eq, g20.eq, g21.eq, g22.eq, g23.eq, g24.eq, g25.eq, g26.eq, g27.eq, g28.eq, h7, h8, h10, h11, h12, h13, h15, h16, h19, h20, h21, h23, h24, h25] at f0 f1 f2 f5 f9 f10 f11 f12 f13 f15 f17 f18 f19 ⊢
  subst f0
  subst f1
  subst f2
  subst f5
  subst f9
  subst f10
  subst f11
  subst f12
  subst f13
  obtain ⟨c, a, b, hR, e0, e1, e2, e3⟩ := f19
  have hV := huV_of (by omega) hR e0 e1 e2 e3
  have hc2 : c ≤ 2 := by rcases hV with w | w | w | w <;> omega
  obtain ⟨m1, m2, m3, m4⟩ := huV_m hV (by omega)
  have hb := f17
  rw [m1] at hb
  first
    | (have hn := m3 (by omega)
       refine ⟨fun h => by exfalso; omega, fun _ => ⟨c, a, b, hR, fun q => by exfalso; omega, fun q1 q2 => by exfalso; omega, fun q1 q2 => ?_, fun q1 q2 => by exfalso; omega⟩⟩
       rw [← hn]
       unfold ntF nt16 nt8 nt4 nt2
       (repeat' split) <;> first | rfl | (exfalso; omega))
    | (have hn := m4 (by omega)
       refine ⟨fun h => by exfalso; omega, fun _ => ⟨c, a, b, hR, fun q => by exfalso; omega, fun q1 q2 => by exfalso; omega, fun q1 q2 => by exfalso; omega, fun q1 q2 => ?_⟩⟩
       rw [← hn]
       unfold ntF nt16 nt8 nt4 nt2
       (repeat' split) <;> first | rfl | (exfalso; omega)))
def w_xo_hush_0_7 : VC := ((bT ++ [(1, 1), ((-2147483648), 2147483647), (0, 49), (0, 49), ((-2147483648), 2147483647), (1, 2147483647), ((-2147483648), 2147483647), ((-2147483648), 2147483647), ((-2147483648), 2147483647), ((-2147483648), 2147483647), (257, 65536), (17, 2147483647), ((-2147483648), 4), ((-2147483648), 2147483647), ((-2147483648), 2147483647)]), [(16, [(some 28, 0), (none, 13), (some 27, 0)], []), (15, [(some 27, 0), (some 26, 0), (none, 1)], []), (3, [(none, 4), (some 26, 0)], []), (15, [(some 26, 0), (some 25, 0), (none, 4)], []), (2, [(none, 16), (some 25, 0)], []), (15, [(some 25, 0), (some 24, 0), (none, 8)], []), (2, [(none, 256), (some 24, 0)], []), (3, [(none, 65536), (some 24, 0)], []), (2, [(none, 0), (some 24, 0)], []), (10, [(some 24, 0), (some 22, 0), (some 23, 0)], []), (29, [(some 23, 0), (some 21, 0), (none, 1)], []), (12, [(some 22, 0), (some 21, 0), (none, (-1))], []), (10, [(some 21, 0), (some 15, 0), (some 20, 0)], []), (29, [(some 20, 0), (some 15, 0), (none, 1)], []), (1, [(some 14, 0), (none, 0)], []), (2, [(some 14, 0), (some 19, 0)], []), (1, [(some 14, 0), (none, (-1))], []), (160, [(some 19, 0), (some 15, 0)], []), (1, [(some 15, 0), (none, (-1))], []), (216, [(some 15, 0), (some 2, 0), (some 3, 0), (some 4, 0), (some 5, 0), (some 6, 0)], [7, 8, 10, 11, 12, 13, 15, 16, 19, 20, 21, 23, 24, 25]), (3, [(none, 1), (some 14, 0)], []), (3, [(some 14, 0), (none, (-1))], [])], (223, [(some 28, 0), (some 14, 0), (some 2, 0), (some 3, 0), (some 4, 0), (some 5, 0), (some 6, 0)], [7, 8, 10, 11, 12, 13, 15, 16, 19, 20, 21, 23, 24, 25]))
set_option maxRecDepth 20000 in
theorem v_xo_hush_0_7 {PT : PTy} (hp : HP18 PT) : vcOk PT w_xo_hush_0_7 := vc_iv [(2, 0, 8), (3, 0, 10), (4, 0, 8), (5, 0, 6), (6, 0, 6), (14, 1, 1), (15, (-2147483648), 2147483647), (19, 1, 2147483647), (20, (-2147483648), 2147483647), (21, (-2147483648), 2147483647), (22, (-2147483648), 2147483647), (23, (-2147483648), 2147483647), (24, 257, 65536), (25, 17, 2147483647), (26, (-2147483648), 4), (27, (-2147483648), 2147483647), (28, (-2147483648), 2147483647)] [7, 8, 10, 11, 12, 13, 15, 16, 19, 20, 21, 23, 24, 25] (by decide +kernel) (fun ρ α => by
  intro r2 g2 b2 r3 g3 b3 r4 g4 b4 r5 g5 b5 r6 g6 b6 r14 g14 b14 r15 g15 b15 r19 g19 b19 r20 g20 b20 r21 g21 b21 r22 g22 b22 r23 g23 b23 r24 g24 b24 r25 g25 b25 r26 g26 b26 r27 g27 b27 r28 g28 b28 a7 h7 a8 h8 a10 h10 a11 h11 a12 h12 a13 h13 a15 h15 a16 h16 a19 h19 a20 h20 a21 h21 a23 h23 a24 h24 a25 h25 f0 f1 f2 f3 f4 f5 f6 f7 f8 f9 f10 f11 f12 f13 f14 f15 f16 f17 f18 f19 f20 f21 tt
  clear f2 f4 f6 f7 f8 f14 f16 f20 f21
  have e160 : PT 160 = P_bc := pe160_18 hp
  have e216 : PT 216 = P_hsX := pe216_18 hp
  have e223 : PT 223 = P_ohX := pe223_18 hp
  simp only [hF1, hF2, hF10, hF12, hF15, hF16, hF29, hFp_160, hFp_216, hFp_223, e160, e216, e223, P_bc, P_hsX, P_ohX, den_s, den_c, Int.add_zero, List.map_cons, List.map_nil, g2.eq, g3.eq, g4.eq, g5.eq, g6.eq, g14.eq, g15.eq, g19.eq, g20.eq, g21.eq, g22.eq, g23.eq, g24.eq, g25.eq, g26.eq, g27.eq, g28.eq, h7, h8, h10, h11, h12, h13, h15, h16, h19, h20, h21, h23, h24, h25] at f0 f1 f3 f5 f9 f10 f11 f12 f13 f15 f17 f18 f19 ⊢
  subst f0
  subst f1
  subst f3
  subst f5
  subst f9
  subst f10
  subst f11
  subst f12
  subst f13
  obtain ⟨c, a, b, hR, e0, e1, e2, e3⟩ := f19
  have hV := huV_of (by omega) hR e0 e1 e2 e3
  have hc2 : c ≤ 2 := by rcases hV with w | w | w | w <;> omega
  obtain ⟨m1, m2, m3, m4⟩ := huV_m hV (by omega)
  have hb := f17
  rw [m1] at hb
  first
    | (have hn := m3 (by omega)
       refine ⟨fun h => by exfalso; omega, fun _ => ⟨c, a, b, hR, fun q => by exfalso; omega, fun q1 q2 => by exfalso; omega, fun q1 q2 => ?_, fun q1 q2 => by exfalso; omega⟩⟩
       rw [← hn]
       unfold ntF nt16 nt8 nt4 nt2
       (repeat' split) <;> first | rfl | (exfalso; omega))
    | (have hn := m4 (by omega)
       refine ⟨fun h => by exfalso; omega, fun _ => ⟨c, a, b, hR, fun q => by exfalso; omega, fun q1 q2 => by exfalso; omega, fun q1 q2 => by exfalso; omega, fun q1 q2 => ?_⟩⟩
       rw [← hn]
       unfold ntF nt16 nt8 nt4 nt2
       (repeat' split) <;> first | rfl | (exfalso; omega)))
def w_xo_hush_0_8 : VC := ((bT ++ [(1, 1), ((-2147483648), 2147483647), (0, 49), (0, 49), ((-2147483648), 2147483647), (1, 2147483647), ((-2147483648), 2147483647), ((-2147483648), 2147483647), ((-2147483648), 2147483647), ((-2147483648), 2147483647), (257, 65536), (17, 2147483647), (5, 2147483647), ((-2147483648), 2147483647), ((-2147483648), 2147483647), ((-2147483648), 2147483647)]), [(16, [(some 29, 0), (none, 15), (some 28, 0)], []), (15, [(some 28, 0), (some 27, 0), (none, 1)], []), (15, [(some 27, 0), (some 26, 0), (none, 2)], []), (2, [(none, 4), (some 26, 0)], []), (15, [(some 26, 0), (some 25, 0), (none, 4)], []), (2, [(none, 16), (some 25, 0)], []), (15, [(some 25, 0), (some 24, 0), (none, 8)], []), (2, [(none, 256), (some 24, 0)], []), (3, [(none, 65536), (some 24, 0)], []), (2, [(none, 0), (some 24, 0)], []), (10, [(some 24, 0), (some 22, 0), (some 23, 0)], []), (29, [(some 23, 0), (some 21, 0), (none, 1)], []), (12, [(some 22, 0), (some 21, 0), (none, (-1))], []), (10, [(some 21, 0), (some 15, 0), (some 20, 0)], []), (29, [(some 20, 0), (some 15, 0), (none, 1)], []), (1, [(some 14, 0), (none, 0)], []), (2, [(some 14, 0), (some 19, 0)], []), (1, [(some 14, 0), (none, (-1))], []), (160, [(some 19, 0), (some 15, 0)], []), (1, [(some 15, 0), (none, (-1))], []), (216, [(some 15, 0), (some 2, 0), (some 3, 0), (some 4, 0), (some 5, 0), (some 6, 0)], [7, 8, 10, 11, 12, 13, 15, 16, 19, 20, 21, 23, 24, 25]), (3, [(none, 1), (some 14, 0)], []), (3, [(some 14, 0), (none, (-1))], [])], (223, [(some 29, 0), (some 14, 0), (some 2, 0), (some 3, 0), (some 4, 0), (some 5, 0), (some 6, 0)], [7, 8, 10, 11, 12, 13, 15, 16, 19, 20, 21, 23, 24, 25]))
set_option maxRecDepth 20000 in
theorem v_xo_hush_0_8 {PT : PTy} (hp : HP18 PT) : vcOk PT w_xo_hush_0_8 := vc_iv [(2, 0, 8), (3, 0, 10), (4, 0, 8), (5, 0, 6), (6, 0, 6), (14, 1, 1), (15, (-2147483648), 2147483647), (19, 1, 2147483647), (20, (-2147483648), 2147483647), (21, (-2147483648), 2147483647), (22, (-2147483648), 2147483647), (23, (-2147483648), 2147483647), (24, 257, 65536), (25, 17, 2147483647), (26, 5, 2147483647), (27, (-2147483648), 2147483647), (28, (-2147483648), 2147483647), (29, (-2147483648), 2147483647)] [7, 8, 10, 11, 12, 13, 15, 16, 19, 20, 21, 23, 24, 25] (by decide +kernel) (fun ρ α => by
  intro r2 g2 b2 r3 g3 b3 r4 g4 b4 r5 g5 b5 r6 g6 b6 r14 g14 b14 r15 g15 b15 r19 g19 b19 r20 g20 b20 r21 g21 b21 r22 g22 b22 r23 g23 b23 r24 g24 b24 r25 g25 b25 r26 g26 b26 r27 g27 b27 r28 g28 b28 r29 g29 b29 a7 h7 a8 h8 a10 h10 a11 h11 a12 h12 a13 h13 a15 h15 a16 h16 a19 h19 a20 h20 a21 h21 a23 h23 a24 h24 a25 h25 f0 f1 f2 f3 f4 f5 f6 f7 f8 f9 f10 f11 f12 f13 f14 f15 f16 f17 f18 f19 f20 f21 f22 tt
  clear f3 f5 f7 f8 f9 f15 f17 f21 f22
  have e160 : PT 160 = P_bc := pe160_18 hp
  have e216 : PT 216 = P_hsX := pe216_18 hp
  have e223 : PT 223 = P_ohX := pe223_18 hp
  simp only [hF1, hF2, hF10, hF12, hF15, hF16, hF29, hFp_160, hFp_216, hFp_223, e160, e216, e223, P_bc, P_hsX, P_ohX, den_s, den_c, Int.add_zero, List.map_cons, List.map_nil, g2.eq, g3.eq, g4.eq, g5.eq, g6.eq, g14.eq, g15.eq, g19.eq, g20.eq, g21.eq, g22.eq, g23.eq, g24.eq, g25.eq, g26.eq, g27.eq, g28.eq, g29.eq, h7, h8, h10, h11, h12, h13, h15, h16, h19, h20, h21, h23, h24, h25] at f0 f1 f2 f4 f6 f10 f11 f12 f13 f14 f16 f18 f19 f20 ⊢
  subst f0
  subst f1
  subst f2
  subst f4
  subst f6
  subst f10
  subst f11
  subst f12
  subst f13
  subst f14
  obtain ⟨c, a, b, hR, e0, e1, e2, e3⟩ := f20
  have hV := huV_of (by omega) hR e0 e1 e2 e3
  have hc2 : c ≤ 2 := by rcases hV with w | w | w | w <;> omega
  obtain ⟨m1, m2, m3, m4⟩ := huV_m hV (by omega)
  have hb := f18
  rw [m1] at hb
  first
    | (have hn := m3 (by omega)
       refine ⟨fun h => by exfalso; omega, fun _ => ⟨c, a, b, hR, fun q => by exfalso; omega, fun q1 q2 => by exfalso; omega, fun q1 q2 => ?_, fun q1 q2 => by exfalso; omega⟩⟩
       rw [← hn]
       unfold ntF nt16 nt8 nt4 nt2
       (repeat' split) <;> first | rfl | (exfalso; omega))
    | (have hn := m4 (by omega)
       refine ⟨fun h => by exfalso; omega, fun _ => ⟨c, a, b, hR, fun q => by exfalso; omega, fun q1 q2 => by exfalso; omega, fun q1 q2 => by exfalso; omega, fun q1 q2 => ?_⟩⟩
       rw [← hn]
       unfold ntF nt16 nt8 nt4 nt2
       (repeat' split) <;> first | rfl | (exfalso; omega)))
def w_xo_hush_0_9 : VC := ((bT ++ [(1, 1), ((-2147483648), 2147483647), (0, 49), (0, 49), ((-2147483648), 2147483647), (1, 2147483647), ((-2147483648), 2147483647), ((-2147483648), 2147483647), ((-2147483648), 2147483647), ((-2147483648), 2147483647), (65537, 2147483647), (0, 4), ((-2147483648), 2147483647), ((-2147483648), 2147483647)]), [(16, [(some 27, 0), (none, 17), (some 26, 0)], []), (15, [(some 26, 0), (some 25, 0), (none, 1)], []), (3, [(none, 4), (some 25, 0)], []), (3, [(none, 16), (some 25, 0)], []), (3, [(none, 256), (some 25, 0)], []), (15, [(some 25, 0), (some 24, 0), (none, 16)], []), (2, [(none, 65536), (some 24, 0)], []), (2, [(none, 0), (some 24, 0)], []), (10, [(some 24, 0), (some 22, 0), (some 23, 0)], []), (29, [(some 23, 0), (some 21, 0), (none, 1)], []), (12, [(some 22, 0), (some 21, 0), (none, (-1))], []), (10, [(some 21, 0), (some 15, 0), (some 20, 0)], []), (29, [(some 20, 0), (some 15, 0), (none, 1)], []), (1, [(some 14, 0), (none, 0)], []), (2, [(some 14, 0), (some 19, 0)], []), (1, [(some 14, 0), (none, (-1))], []), (160, [(some 19, 0), (some 15, 0)], []), (1, [(some 15, 0), (none, (-1))], []), (216, [(some 15, 0), (some 2, 0), (some 3, 0), (some 4, 0), (some 5, 0), (some 6, 0)], [7, 8, 10, 11, 12, 13, 15, 16, 19, 20, 21, 23, 24, 25]), (3, [(none, 1), (some 14, 0)], []), (3, [(some 14, 0), (none, (-1))], [])], (223, [(some 27, 0), (some 14, 0), (some 2, 0), (some 3, 0), (some 4, 0), (some 5, 0), (some 6, 0)], [7, 8, 10, 11, 12, 13, 15, 16, 19, 20, 21, 23, 24, 25]))
set_option maxRecDepth 20000 in
theorem v_xo_hush_0_9 {PT : PTy} (hp : HP18 PT) : vcOk PT w_xo_hush_0_9 := vc_iv [(2, 0, 8), (3, 0, 10), (4, 0, 8), (5, 0, 6), (6, 0, 6), (14, 1, 1), (15, (-2147483648), 2147483647), (19, 1, 2147483647), (20, (-2147483648), 2147483647), (21, (-2147483648), 2147483647), (22, (-2147483648), 2147483647), (23, (-2147483648), 2147483647), (24, 65537, 2147483647), (25, 0, 4), (26, (-2147483648), 2147483647), (27, (-2147483648), 2147483647)] [7, 8, 10, 11, 12, 13, 15, 16, 19, 20, 21, 23, 24, 25] (by decide +kernel) (fun ρ α => by
  intro r2 g2 b2 r3 g3 b3 r4 g4 b4 r5 g5 b5 r6 g6 b6 r14 g14 b14 r15 g15 b15 r19 g19 b19 r20 g20 b20 r21 g21 b21 r22 g22 b22 r23 g23 b23 r24 g24 b24 r25 g25 b25 r26 g26 b26 r27 g27 b27 a7 h7 a8 h8 a10 h10 a11 h11 a12 h12 a13 h13 a15 h15 a16 h16 a19 h19 a20 h20 a21 h21 a23 h23 a24 h24 a25 h25 f0 f1 f2 f3 f4 f5 f6 f7 f8 f9 f10 f11 f12 f13 f14 f15 f16 f17 f18 f19 f20 tt
  clear f2 f3 f4 f6 f7 f13 f15 f19 f20
  have e160 : PT 160 = P_bc := pe160_18 hp
  have e216 : PT 216 = P_hsX := pe216_18 hp
  have e223 : PT 223 = P_ohX := pe223_18 hp
  simp only [hF1, hF2, hF10, hF12, hF15, hF16, hF29, hFp_160, hFp_216, hFp_223, e160, e216, e223, P_bc, P_hsX, P_ohX, den_s, den_c, Int.add_zero, List.map_cons, List.map_nil, g2.eq, g3.eq, g4.eq, g5.eq, g6.eq, g14.eq, g15.eq, g19.eq, g20.eq, g21.eq, g22.eq, g23.eq, g24.eq, g25.eq, g26.eq, g27.eq, h7, h8, h10, h11, h12, h13, h15, h16, h19, h20, h21, h23, h24, h25] at f0 f1 f5 f8 f9 f10 f11 f12 f14 f16 f17 f18 ⊢
  subst f0
  subst f1
  subst f5
  subst f8
  subst f9
  subst f10
  subst f11
  subst f12
  obtain ⟨c, a, b, hR, e0, e1, e2, e3⟩ := f18
  have hV := huV_of (by omega) hR e0 e1 e2 e3
  have hc2 : c ≤ 2 := by rcases hV with w | w | w | w <;> omega
  obtain ⟨m1, m2, m3, m4⟩ := huV_m hV (by omega)
  have hb := f16
  rw [m1] at hb
  first
    | (have hn := m3 (by omega)
       refine ⟨fun h => by exfalso; omega, fun _ => ⟨c, a, b, hR, fun q => by exfalso; omega, fun q1 q2 => by exfalso; omega, fun q1 q2 => ?_, fun q1 q2 => by exfalso; omega⟩⟩
       rw [← hn]
       unfold ntF nt16 nt8 nt4 nt2
       (repeat' split) <;> first | rfl | (exfalso; omega))
    | (have hn := m4 (by omega)
       refine ⟨fun h => by exfalso; omega, fun _ => ⟨c, a, b, hR, fun q => by exfalso; omega, fun q1 q2 => by exfalso; omega, fun q1 q2 => by exfalso; omega, fun q1 q2 => ?_⟩⟩
       rw [← hn]
       unfold ntF nt16 nt8 nt4 nt2
       (repeat' split) <;> first | rfl | (exfalso; omega)))
def w_xo_hush_0_10 : VC := ((bT ++ [(1, 1), ((-2147483648), 2147483647), (0, 49), (0, 49), ((-2147483648), 2147483647), (1, 2147483647), ((-2147483648), 2147483647), ((-2147483648), 2147483647), ((-2147483648), 2147483647), ((-2147483648), 2147483647), (65537, 2147483647), (5, 16), ((-2147483648), 2147483647), ((-2147483648), 2147483647), ((-2147483648), 2147483647)]), [(16, [(some 28, 0), (none, 19), (some 27, 0)], []), (15, [(some 27, 0), (some 26, 0), (none, 1)], []), (15, [(some 26, 0), (some 25, 0), (none, 2)], []), (2, [(none, 4), (some 25, 0)], []), (3, [(none, 16), (some 25, 0)], []), (3, [(none, 256), (some 25, 0)], []), (15, [(some 25, 0), (some 24, 0), (none, 16)], []), (2, [(none, 65536), (some 24, 0)], []), (2, [(none, 0), (some 24, 0)], []), (10, [(some 24, 0), (some 22, 0), (some 23, 0)], []), (29, [(some 23, 0), (some 21, 0), (none, 1)], []), (12, [(some 22, 0), (some 21, 0), (none, (-1))], []), (10, [(some 21, 0), (some 15, 0), (some 20, 0)], []), (29, [(some 20, 0), (some 15, 0), (none, 1)], []), (1, [(some 14, 0), (none, 0)], []), (2, [(some 14, 0), (some 19, 0)], []), (1, [(some 14, 0), (none, (-1))], []), (160, [(some 19, 0), (some 15, 0)], []), (1, [(some 15, 0), (none, (-1))], []), (216, [(some 15, 0), (some 2, 0), (some 3, 0), (some 4, 0), (some 5, 0), (some 6, 0)], [7, 8, 10, 11, 12, 13, 15, 16, 19, 20, 21, 23, 24, 25]), (3, [(none, 1), (some 14, 0)], []), (3, [(some 14, 0), (none, (-1))], [])], (223, [(some 28, 0), (some 14, 0), (some 2, 0), (some 3, 0), (some 4, 0), (some 5, 0), (some 6, 0)], [7, 8, 10, 11, 12, 13, 15, 16, 19, 20, 21, 23, 24, 25]))
set_option maxRecDepth 20000 in
theorem v_xo_hush_0_10 {PT : PTy} (hp : HP18 PT) : vcOk PT w_xo_hush_0_10 := vc_iv [(2, 0, 8), (3, 0, 10), (4, 0, 8), (5, 0, 6), (6, 0, 6), (14, 1, 1), (15, (-2147483648), 2147483647), (19, 1, 2147483647), (20, (-2147483648), 2147483647), (21, (-2147483648), 2147483647), (22, (-2147483648), 2147483647), (23, (-2147483648), 2147483647), (24, 65537, 2147483647), (25, 5, 16), (26, (-2147483648), 2147483647), (27, (-2147483648), 2147483647), (28, (-2147483648), 2147483647)] [7, 8, 10, 11, 12, 13, 15, 16, 19, 20, 21, 23, 24, 25] (by decide +kernel) (fun ρ α => by
  intro r2 g2 b2 r3 g3 b3 r4 g4 b4 r5 g5 b5 r6 g6 b6 r14 g14 b14 r15 g15 b15 r19 g19 b19 r20 g20 b20 r21 g21 b21 r22 g22 b22 r23 g23 b23 r24 g24 b24 r25 g25 b25 r26 g26 b26 r27 g27 b27 r28 g28 b28 a7 h7 a8 h8 a10 h10 a11 h11 a12 h12 a13 h13 a15 h15 a16 h16 a19 h19 a20 h20 a21 h21 a23 h23 a24 h24 a25 h25 f0 f1 f2 f3 f4 f5 f6 f7 f8 f9 f10 f11 f12 f13 f14 f15 f16 f17 f18 f19 f20 f21 tt
  clear f3 f4 f5 f7 f8 f14 f16 f20 f21
  have e160 : PT 160 = P_bc := pe160_18 hp
  have e216 : PT 216 = P_hsX := pe216_18 hp
  have e223 : PT 223 = P_ohX := pe223_18 hp
  simp only [hF1, hF2, hF10, hF12, hF15, hF16, hF29, hFp_160, hFp_216, hFp_223, e160, e216, e223, P_bc, P_hsX, P_ohX, den_s, den_c, Int.add_zero, List.map_cons, List.map_nil, g2.eq, g3.eq, g4.eq, g5.eq, g6.eq, g14.eq, g15.eq, g19.eq, g20.eq, g21.eq, g22.eq, g23.eq, g24.eq, g25.eq, g26.eq, g27.eq, g28.eq, h7, h8, h10, h11, h12, h13, h15, h16, h19, h20, h21, h23, h24, h25] at f0 f1 f2 f6 f9 f10 f11 f12 f13 f15 f17 f18 f19 ⊢
  subst f0
  subst f1
  subst f2
  subst f6
  subst f9
  subst f10
  subst f11
  subst f12
  subst f13
  obtain ⟨c, a, b, hR, e0, e1, e2, e3⟩ := f19
  have hV := huV_of (by omega) hR e0 e1 e2 e3
  have hc2 : c ≤ 2 := by rcases hV with w | w | w | w <;> omega
  obtain ⟨m1, m2, m3, m4⟩ := huV_m hV (by omega)
  have hb := f17
  rw [m1] at hb
  first
    | (have hn := m3 (by omega)
       refine ⟨fun h => by exfalso; omega, fun _ => ⟨c, a, b, hR, fun q => by exfalso; omega, fun q1 q2 => by exfalso; omega, fun q1 q2 => ?_, fun q1 q2 => by exfalso; omega⟩⟩
       rw [← hn]
       unfold ntF nt16 nt8 nt4 nt2
       (repeat' split) <;> first | rfl | (exfalso; omega))
    | (have hn := m4 (by omega)
       refine ⟨fun h => by exfalso; omega, fun _ => ⟨c, a, b, hR, fun q => by exfalso; omega, fun q1 q2 => by exfalso; omega, fun q1 q2 => by exfalso; omega, fun q1 q2 => ?_⟩⟩
       rw [← hn]
       unfold ntF nt16 nt8 nt4 nt2
       (repeat' split) <;> first | rfl | (exfalso; omega)))
def w_xo_hush_0_11 : VC := ((bT ++ [(1, 1), ((-2147483648), 2147483647), (0, 49), (0, 49), ((-2147483648), 2147483647), (1, 2147483647), ((-2147483648), 2147483647), ((-2147483648), 2147483647), ((-2147483648), 2147483647), ((-2147483648), 2147483647), (65537, 2147483647), (17, 256), ((-2147483648), 4), ((-2147483648), 2147483647), ((-2147483648), 2147483647)]), [(16, [(some 28, 0), (none, 21), (some 27, 0)], []), (15, [(some 27, 0), (some 26, 0), (none, 1)], []), (3, [(none, 4), (some 26, 0)], []), (15, [(some 26, 0), (some 25, 0), (none, 4)], []), (2, [(none, 16), (some 25, 0)], []), (3, [(none, 256), (some 25, 0)], []), (15, [(some 25, 0), (some 24, 0), (none, 16)], []), (2, [(none, 65536), (some 24, 0)], []), (2, [(none, 0), (some 24, 0)], []), (10, [(some 24, 0), (some 22, 0), (some 23, 0)], []), (29, [(some 23, 0), (some 21, 0), (none, 1)], []), (12, [(some 22, 0), (some 21, 0), (none, (-1))], []), (10, [(some 21, 0), (some 15, 0), (some 20, 0)], []), (29, [(some 20, 0), (some 15, 0), (none, 1)], []), (1, [(some 14, 0), (none, 0)], []), (2, [(some 14, 0), (some 19, 0)], []), (1, [(some 14, 0), (none, (-1))], []), (160, [(some 19, 0), (some 15, 0)], []), (1, [(some 15, 0), (none, (-1))], []), (216, [(some 15, 0), (some 2, 0), (some 3, 0), (some 4, 0), (some 5, 0), (some 6, 0)], [7, 8, 10, 11, 12, 13, 15, 16, 19, 20, 21, 23, 24, 25]), (3, [(none, 1), (some 14, 0)], []), (3, [(some 14, 0), (none, (-1))], [])], (223, [(some 28, 0), (some 14, 0), (some 2, 0), (some 3, 0), (some 4, 0), (some 5, 0), (some 6, 0)], [7, 8, 10, 11, 12, 13, 15, 16, 19, 20, 21, 23, 24, 25]))
set_option maxRecDepth 20000 in
theorem v_xo_hush_0_11 {PT : PTy} (hp : HP18 PT) : vcOk PT w_xo_hush_0_11 := vc_iv [(2, 0, 8), (3, 0, 10), (4, 0, 8), (5, 0, 6), (6, 0, 6), (14, 1, 1), (15, (-2147483648), 2147483647), (19, 1, 2147483647), (20, (-2147483648), 2147483647), (21, (-2147483648), 2147483647), (22, (-2147483648), 2147483647), (23, (-2147483648), 2147483647), (24, 65537, 2147483647), (25, 17, 256), (26, (-2147483648), 4), (27, (-2147483648), 2147483647), (28, (-2147483648), 2147483647)] [7, 8, 10, 11, 12, 13, 15, 16, 19, 20, 21, 23, 24, 25] (by decide +kernel) (fun ρ α => by
  intro r2 g2 b2 r3 g3 b3 r4 g4 b4 r5 g5 b5 r6 g6 b6 r14 g14 b14 r15 g15 b15 r19 g19 b19 r20 g20 b20 r21 g21 b21 r22 g22 b22 r23 g23 b23 r24 g24 b24 r25 g25 b25 r26 g26 b26 r27 g27 b27 r28 g28 b28 a7 h7 a8 h8 a10 h10 a11 h11 a12 h12 a13 h13 a15 h15 a16 h16 a19 h19 a20 h20 a21 h21 a23 h23 a24 h24 a25 h25 f0 f1 f2 f3 f4 f5 f6 f7 f8 f9 f10 f11 f12 f13 f14 f15 f16 f17 f18 f19 f20 f21 tt
  clear f2 f4 f5 f7 f8 f14 f16 f20 f21
  have e160 : PT 160 = P_bc := pe160_18 hp
  have e216 : PT 216 = P_hsX := pe216_18 hp
  have e223 : PT 223 = P_ohX := pe223_18 hp
  simp only [hF1, hF2, hF10, hF12, hF15, hF16, hF29, hFp_160, hFp_216, hFp_223, e160, e216, e223, P_bc, P_hsX, P_ohX, den_s, den_c, Int.add_zero, List.map_cons, List.map_nil, g2.eq, g3.eq, g4.eq, g5.eq, g6.eq, g14.eq, g15.eq, g19.eq, g20.eq, g21.eq, g22.eq, g23.eq, g24.eq, g25.eq, g26.eq, g27.eq, g28.eq, h7, h8, h10, h11, h12, h13, h15, h16, h19, h20, h21, h23, h24, h25] at f0 f1 f3 f6 f9 f10 f11 f12 f13 f15 f17 f18 f19 ⊢
  subst f0
  subst f1
  subst f3
  subst f6
  subst f9
  subst f10
  subst f11
  subst f12
  subst f13
  obtain ⟨c, a, b, hR, e0, e1, e2, e3⟩ := f19
  have hV := huV_of (by omega) hR e0 e1 e2 e3
  have hc2 : c ≤ 2 := by rcases hV with w | w | w | w <;> omega
  obtain ⟨m1, m2, m3, m4⟩ := huV_m hV (by omega)
  have hb := f17
  rw [m1] at hb
  first
    | (have hn := m3 (by omega)
       refine ⟨fun h => by exfalso; omega, fun _ => ⟨c, a, b, hR, fun q => by exfalso; omega, fun q1 q2 => by exfalso; omega, fun q1 q2 => ?_, fun q1 q2 => by exfalso; omega⟩⟩
       rw [← hn]
       unfold ntF nt16 nt8 nt4 nt2
       (repeat' split) <;> first | rfl | (exfalso; omega))
    | (have hn := m4 (by omega)
       refine ⟨fun h => by exfalso; omega, fun _ => ⟨c, a, b, hR, fun q => by exfalso; omega, fun q1 q2 => by exfalso; omega, fun q1 q2 => by exfalso; omega, fun q1 q2 => ?_⟩⟩
       rw [← hn]
       unfold ntF nt16 nt8 nt4 nt2
       (repeat' split) <;> first | rfl | (exfalso; omega)))
def w_xo_hush_0_12 : VC := ((bT ++ [(1, 1), ((-2147483648), 2147483647), (0, 49), (0, 49), ((-2147483648), 2147483647), (1, 2147483647), ((-2147483648), 2147483647), ((-2147483648), 2147483647), ((-2147483648), 2147483647), ((-2147483648), 2147483647), (65537, 2147483647), (17, 256), (5, 2147483647), ((-2147483648), 2147483647), ((-2147483648), 2147483647), ((-2147483648), 2147483647)]), [(16, [(some 29, 0), (none, 23), (some 28, 0)], []), (15, [(some 28, 0), (some 27, 0), (none, 1)], []), (15, [(some 27, 0), (some 26, 0), (none, 2)], []), (2, [(none, 4), (some 26, 0)], []), (15, [(some 26, 0), (some 25, 0), (none, 4)], []), (2, [(none, 16), (some 25, 0)], []), (3, [(none, 256), (some 25, 0)], []), (15, [(some 25, 0), (some 24, 0), (none, 16)], []), (2, [(none, 65536), (some 24, 0)], []), (2, [(none, 0), (some 24, 0)], []), (10, [(some 24, 0), (some 22, 0), (some 23, 0)], []), (29, [(some 23, 0), (some 21, 0), (none, 1)], []), (12, [(some 22, 0), (some 21, 0), (none, (-1))], []), (10, [(some 21, 0), (some 15, 0), (some 20, 0)], []), (29, [(some 20, 0), (some 15, 0), (none, 1)], []), (1, [(some 14, 0), (none, 0)], []), (2, [(some 14, 0), (some 19, 0)], []), (1, [(some 14, 0), (none, (-1))], []), (160, [(some 19, 0), (some 15, 0)], []), (1, [(some 15, 0), (none, (-1))], []), (216, [(some 15, 0), (some 2, 0), (some 3, 0), (some 4, 0), (some 5, 0), (some 6, 0)], [7, 8, 10, 11, 12, 13, 15, 16, 19, 20, 21, 23, 24, 25]), (3, [(none, 1), (some 14, 0)], []), (3, [(some 14, 0), (none, (-1))], [])], (223, [(some 29, 0), (some 14, 0), (some 2, 0), (some 3, 0), (some 4, 0), (some 5, 0), (some 6, 0)], [7, 8, 10, 11, 12, 13, 15, 16, 19, 20, 21, 23, 24, 25]))
set_option maxRecDepth 20000 in
theorem v_xo_hush_0_12 {PT : PTy} (hp : HP18 PT) : vcOk PT w_xo_hush_0_12 := vc_iv [(2, 0, 8), (3, 0, 10), (4, 0, 8), (5, 0, 6), (6, 0, 6), (14, 1, 1), (15, (-2147483648), 2147483647), (19, 1, 2147483647), (20, (-2147483648), 2147483647), (21, (-2147483648), 2147483647), (22, (-2147483648), 2147483647), (23, (-2147483648), 2147483647), (24, 65537, 2147483647), (25, 17, 256), (26, 5, 2147483647), (27, (-2147483648), 2147483647), (28, (-2147483648), 2147483647), (29, (-2147483648), 2147483647)] [7, 8, 10, 11, 12, 13, 15, 16, 19, 20, 21, 23, 24, 25] (by decide +kernel) (fun ρ α => by
  intro r2 g2 b2 r3 g3 b3 r4 g4 b4 r5 g5 b5 r6 g6 b6 r14 g14 b14 r15 g15 b15 r19 g19 b19 r20 g20 b20 r21 g21 b21 r22 g22 b22 r23 g23 b23 r24 g24 b24 r25 g25 b25 r26 g26 b26 r27 g27 b27 r28 g28 b28 r29 g29 b29 a7 h7 a8 h8 a10 h10 a11 h11 a12 h12 a13 h13 a15 h15 a16 h16 a19 h19 a20 h20 a21 h21 a23 h23 a24 h24 a25 h25 f0 f1 f2 f3 f4 f5 f6 f7 f8 f9 f10 f11 f12 f13 f14 f15 f16 f17 f18 f19 f20 f21 f22 tt
  clear f3 f5 f6 f8 f9 f15 f17 f21 f22
  have e160 : PT 160 = P_bc := pe160_18 hp
  have e216 : PT 216 = P_hsX := pe216_18 hp
  have e223 : PT 223 = P_ohX := pe223_18 hp
  simp only [hF1, hF2, hF10, hF12, hF15, hF16, hF29, hFp_160, hFp_216, hFp_223, e160, e216, e223, P_bc, P_hsX, P_ohX, den_s, den_c, Int.add_zero, List.map_cons, List.map_nil, g2.eq, g3.eq, g4.eq, g5.eq, g6.eq, g14.eq, g15.eq, g19.eq, g20.eq, g21.eq, g22.eq, g23.eq, g24.eq, g25.eq, g26.eq, g27.eq, g28.eq, g29.eq, h7, h8, h10, h11, h12, h13, h15, h16, h19, h20, h21, h23, h24, h25] at f0 f1 f2 f4 f7 f10 f11 f12 f13 f14 f16 f18 f19 f20 ⊢
  subst f0
  subst f1
  subst f2
  subst f4
  subst f7
  subst f10
  subst f11
  subst f12
  subst f13
  subst f14
  obtain ⟨c, a, b, hR, e0, e1, e2, e3⟩ := f20
  have hV := huV_of (by omega) hR e0 e1 e2 e3
  have hc2 : c ≤ 2 := by rcases hV with w | w | w | w <;> omega
  obtain ⟨m1, m2, m3, m4⟩ := huV_m hV (by omega)
  have hb := f18
  rw [m1] at hb
  first
    | (have hn := m3 (by omega)
       refine ⟨fun h => by exfalso; omega, fun _ => ⟨c, a, b, hR, fun q => by exfalso; omega, fun q1 q2 => by exfalso; omega, fun q1 q2 => ?_, fun q1 q2 => by exfalso; omega⟩⟩
       rw [← hn]
       unfold ntF nt16 nt8 nt4 nt2
       (repeat' split) <;> first | rfl | (exfalso; omega))
    | (have hn := m4 (by omega)
       refine ⟨fun h => by exfalso; omega, fun _ => ⟨c, a, b, hR, fun q => by exfalso; omega, fun q1 q2 => by exfalso; omega, fun q1 q2 => by exfalso; omega, fun q1 q2 => ?_⟩⟩
       rw [← hn]
       unfold ntF nt16 nt8 nt4 nt2
       (repeat' split) <;> first | rfl | (exfalso; omega)))
def w_xo_hush_0_13 : VC := ((bT ++ [(1, 1), ((-2147483648), 2147483647), (0, 49), (0, 49), ((-2147483648), 2147483647), (1, 2147483647), ((-2147483648), 2147483647), ((-2147483648), 2147483647), ((-2147483648), 2147483647), ((-2147483648), 2147483647), (65537, 2147483647), (257, 65535), ((-2147483648), 4), ((-2147483648), 2147483647), ((-2147483648), 2147483647)]), [(16, [(some 28, 0), (none, 25), (some 27, 0)], []), (15, [(some 27, 0), (some 26, 0), (none, 1)], []), (3, [(none, 4), (some 26, 0)], []), (3, [(none, 16), (some 26, 0)], []), (15, [(some 26, 0), (some 25, 0), (none, 8)], []), (2, [(none, 256), (some 25, 0)], []), (15, [(some 25, 0), (some 24, 0), (none, 16)], []), (2, [(none, 65536), (some 24, 0)], []), (2, [(none, 0), (some 24, 0)], []), (10, [(some 24, 0), (some 22, 0), (some 23, 0)], []), (29, [(some 23, 0), (some 21, 0), (none, 1)], []), (12, [(some 22, 0), (some 21, 0), (none, (-1))], []), (10, [(some 21, 0), (some 15, 0), (some 20, 0)], []), (29, [(some 20, 0), (some 15, 0), (none, 1)], []), (1, [(some 14, 0), (none, 0)], []), (2, [(some 14, 0), (some 19, 0)], []), (1, [(some 14, 0), (none, (-1))], []), (160, [(some 19, 0), (some 15, 0)], []), (1, [(some 15, 0), (none, (-1))], []), (216, [(some 15, 0), (some 2, 0), (some 3, 0), (some 4, 0), (some 5, 0), (some 6, 0)], [7, 8, 10, 11, 12, 13, 15, 16, 19, 20, 21, 23, 24, 25]), (3, [(none, 1), (some 14, 0)], []), (3, [(some 14, 0), (none, (-1))], [])], (223, [(some 28, 0), (some 14, 0), (some 2, 0), (some 3, 0), (some 4, 0), (some 5, 0), (some 6, 0)], [7, 8, 10, 11, 12, 13, 15, 16, 19, 20, 21, 23, 24, 25]))
set_option maxRecDepth 20000 in
theorem v_xo_hush_0_13 {PT : PTy} (hp : HP18 PT) : vcOk PT w_xo_hush_0_13 := vc_iv [(2, 0, 8), (3, 0, 10), (4, 0, 8), (5, 0, 6), (6, 0, 6), (14, 1, 1), (15, (-2147483648), 2147483647), (19, 1, 2147483647), (20, (-2147483648), 2147483647), (21, (-2147483648), 2147483647), (22, (-2147483648), 2147483647), (23, (-2147483648), 2147483647), (24, 65537, 2147483647), (25, 257, 65535), (26, (-2147483648), 4), (27, (-2147483648), 2147483647), (28, (-2147483648), 2147483647)] [7, 8, 10, 11, 12, 13, 15, 16, 19, 20, 21, 23, 24, 25] (by decide +kernel) (fun ρ α => by
  intro r2 g2 b2 r3 g3 b3 r4 g4 b4 r5 g5 b5 r6 g6 b6 r14 g14 b14 r15 g15 b15 r19 g19 b19 r20 g20 b20 r21 g21 b21 r22 g22 b22 r23 g23 b23 r24 g24 b24 r25 g25 b25 r26 g26 b26 r27 g27 b27 r28 g28 b28 a7 h7 a8 h8 a10 h10 a11 h11 a12 h12 a13 h13 a15 h15 a16 h16 a19 h19 a20 h20 a21 h21 a23 h23 a24 h24 a25 h25 f0 f1 f2 f3 f4 f5 f6 f7 f8 f9 f10 f11 f12 f13 f14 f15 f16 f17 f18 f19 f20 f21 tt
  clear f2 f3 f5 f7 f8 f14 f16 f20 f21
  have e160 : PT 160 = P_bc := pe160_18 hp
  have e216 : PT 216 = P_hsX := pe216_18 hp
  have e223 : PT 223 = P_ohX := pe223_18 hp
  simp only [hF1, hF2, hF10, hF12, hF15, hF16, hF29, hFp_160, hFp_216, hFp_223, e160, e216, e223, P_bc, P_hsX, P_ohX, den_s, den_c, Int.add_zero, List.map_cons, List.map_nil, g2.eq, g3.eq, g4.eq, g5.eq, g6.eq, g14.eq, g15.eq, g19.eq, g20.eq, g21.eq, g22.eq, g23.eq, g24.eq, g25.eq, g26.eq, g27.eq, g28.eq, h7, h8, h10, h11, h12, h13, h15, h16, h19, h20, h21, h23, h24, h25] at f0 f1 f4 f6 f9 f10 f11 f12 f13 f15 f17 f18 f19 ⊢
  subst f0
  subst f1
  subst f4
  subst f6
  subst f9
  subst f10
  subst f11
  subst f12
  subst f13
  obtain ⟨c, a, b, hR, e0, e1, e2, e3⟩ := f19
  have hV := huV_of (by omega) hR e0 e1 e2 e3
  have hc2 : c ≤ 2 := by rcases hV with w | w | w | w <;> omega
  obtain ⟨m1, m2, m3, m4⟩ := huV_m hV (by omega)
  have hb := f17
  rw [m1] at hb
  first
    | (have hn := m3 (by omega)
       refine ⟨fun h => by exfalso; omega, fun _ => ⟨c, a, b, hR, fun q => by exfalso; omega, fun q1 q2 => by exfalso; omega, fun q1 q2 => ?_, fun q1 q2 => by exfalso; omega⟩⟩
       rw [← hn]
       unfold ntF nt16 nt8 nt4 nt2
       (repeat' split) <;> first | rfl | (exfalso; omega))
    | (have hn := m4 (by omega)
       refine ⟨fun h => by exfalso; omega, fun _ => ⟨c, a, b, hR, fun q => by exfalso; omega, fun q1 q2 => by exfalso; omega, fun q1 q2 => by exfalso; omega, fun q1 q2 => ?_⟩⟩
       rw [← hn]
       unfold ntF nt16 nt8 nt4 nt2
       (repeat' split) <;> first | rfl | (exfalso; omega)))
def w_xo_hush_0_14 : VC := ((bT ++ [(1, 1), ((-2147483648), 2147483647), (0, 49), (0, 49), ((-2147483648), 2147483647), (1, 2147483647), ((-2147483648), 2147483647), ((-2147483648), 2147483647), ((-2147483648), 2147483647), ((-2147483648), 2147483647), (65537, 2147483647), (257, 65535), (5, 16), ((-2147483648), 2147483647), ((-2147483648), 2147483647), ((-2147483648), 2147483647)]), [(16, [(some 29, 0), (none, 27), (some 28, 0)], []), (15, [(some 28, 0), (some 27, 0), (none, 1)], []), (15, [(some 27, 0), (some 26, 0), (none, 2)], []), (2, [(none, 4), (some 26, 0)], []), (3, [(none, 16), (some 26, 0)], []), (15, [(some 26, 0), (some 25, 0), (none, 8)], []), (2, [(none, 256), (some 25, 0)], []), (15, [(some 25, 0), (some 24, 0), (none, 16)], []), (2, [(none, 65536), (some 24, 0)], []), (2, [(none, 0), (some 24, 0)], []), (10, [(some 24, 0), (some 22, 0), (some 23, 0)], []), (29, [(some 23, 0), (some 21, 0), (none, 1)], []), (12, [(some 22, 0), (some 21, 0), (none, (-1))], []), (10, [(some 21, 0), (some 15, 0), (some 20, 0)], []), (29, [(some 20, 0), (some 15, 0), (none, 1)], []), (1, [(some 14, 0), (none, 0)], []), (2, [(some 14, 0), (some 19, 0)], []), (1, [(some 14, 0), (none, (-1))], []), (160, [(some 19, 0), (some 15, 0)], []), (1, [(some 15, 0), (none, (-1))], []), (216, [(some 15, 0), (some 2, 0), (some 3, 0), (some 4, 0), (some 5, 0), (some 6, 0)], [7, 8, 10, 11, 12, 13, 15, 16, 19, 20, 21, 23, 24, 25]), (3, [(none, 1), (some 14, 0)], []), (3, [(some 14, 0), (none, (-1))], [])], (223, [(some 29, 0), (some 14, 0), (some 2, 0), (some 3, 0), (some 4, 0), (some 5, 0), (some 6, 0)], [7, 8, 10, 11, 12, 13, 15, 16, 19, 20, 21, 23, 24, 25]))
set_option maxRecDepth 20000 in
theorem v_xo_hush_0_14 {PT : PTy} (hp : HP18 PT) : vcOk PT w_xo_hush_0_14 := vc_iv [(2, 0, 8), (3, 0, 10), (4, 0, 8), (5, 0, 6), (6, 0, 6), (14, 1, 1), (15, (-2147483648), 2147483647), (19, 1, 2147483647), (20, (-2147483648), 2147483647), (21, (-2147483648), 2147483647), (22, (-2147483648), 2147483647), (23, (-2147483648), 2147483647), (24, 65537, 2147483647), (25, 257, 65535), (26, 5, 16), (27, (-2147483648), 2147483647), (28, (-2147483648), 2147483647), (29, (-2147483648), 2147483647)] [7, 8, 10, 11, 12, 13, 15, 16, 19, 20, 21, 23, 24, 25] (by decide +kernel) (fun ρ α => by
  intro r2 g2 b2 r3 g3 b3 r4 g4 b4 r5 g5 b5 r6 g6 b6 r14 g14 b14 r15 g15 b15 r19 g19 b19 r20 g20 b20 r21 g21 b21 r22 g22 b22 r23 g23 b23 r24 g24 b24 r25 g25 b25 r26 g26 b26 r27 g27 b27 r28 g28 b28 r29 g29 b29 a7 h7 a8 h8 a10 h10 a11 h11 a12 h12 a13 h13 a15 h15 a16 h16 a19 h19 a20 h20 a21 h21 a23 h23 a24 h24 a25 h25 f0 f1 f2 f3 f4 f5 f6 f7 f8 f9 f10 f11 f12 f13 f14 f15 f16 f17 f18 f19 f20 f21 f22 tt
  clear f3 f4 f6 f8 f9 f15 f17 f21 f22
  have e160 : PT 160 = P_bc := pe160_18 hp
  have e216 : PT 216 = P_hsX := pe216_18 hp
  have e223 : PT 223 = P_ohX := pe223_18 hp
  simp only [hF1, hF2, hF10, hF12, hF15, hF16, hF29, hFp_160, hFp_216, hFp_223, e160, e216, e223, P_bc, P_hsX, P_ohX, den_s, den_c, Int.add_zero, List.map_cons, List.map_nil, g2.eq, g3.eq, g4.eq, g5.eq, g6.eq, g14.eq, g15.eq, g19.eq, g20.eq, g21.eq, g22.eq, g23.eq, g24.eq, g25.eq, g26.eq, g27.eq, g28.eq, g29.eq, h7, h8, h10, h11, h12, h13, h15, h16, h19, h20, h21, h23, h24, h25] at f0 f1 f2 f5 f7 f10 f11 f12 f13 f14 f16 f18 f19 f20 ⊢
  subst f0
  subst f1
  subst f2
  subst f5
  subst f7
  subst f10
  subst f11
  subst f12
  subst f13
  subst f14
  obtain ⟨c, a, b, hR, e0, e1, e2, e3⟩ := f20
  have hV := huV_of (by omega) hR e0 e1 e2 e3
  have hc2 : c ≤ 2 := by rcases hV with w | w | w | w <;> omega
  obtain ⟨m1, m2, m3, m4⟩ := huV_m hV (by omega)
  have hb := f18
  rw [m1] at hb
  first
    | (have hn := m3 (by omega)
       refine ⟨fun h => by exfalso; omega, fun _ => ⟨c, a, b, hR, fun q => by exfalso; omega, fun q1 q2 => by exfalso; omega, fun q1 q2 => ?_, fun q1 q2 => by exfalso; omega⟩⟩
       rw [← hn]
       unfold ntF nt16 nt8 nt4 nt2
       (repeat' split) <;> first | rfl | (exfalso; omega))
    | (have hn := m4 (by omega)
       refine ⟨fun h => by exfalso; omega, fun _ => ⟨c, a, b, hR, fun q => by exfalso; omega, fun q1 q2 => by exfalso; omega, fun q1 q2 => by exfalso; omega, fun q1 q2 => ?_⟩⟩
       rw [← hn]
       unfold ntF nt16 nt8 nt4 nt2
       (repeat' split) <;> first | rfl | (exfalso; omega)))
def w_xo_hush_0_15 : VC := ((bT ++ [(1, 1), ((-2147483648), 2147483647), (0, 49), (0, 49), ((-2147483648), 2147483647), (1, 2147483647), ((-2147483648), 2147483647), ((-2147483648), 2147483647), ((-2147483648), 2147483647), ((-2147483648), 2147483647), (65537, 2147483647), (257, 65535), (17, 2147483647), ((-2147483648), 4), ((-2147483648), 2147483647), ((-2147483648), 2147483647)]), [(16, [(some 29, 0), (none, 29), (some 28, 0)], []), (15, [(some 28, 0), (some 27, 0), (none, 1)], []), (3, [(none, 4), (some 27, 0)], []), (15, [(some 27, 0), (some 26, 0), (none, 4)], []), (2, [(none, 16), (some 26, 0)], []), (15, [(some 26, 0), (some 25, 0), (none, 8)], []), (2, [(none, 256), (some 25, 0)], []), (15, [(some 25, 0), (some 24, 0), (none, 16)], []), (2, [(none, 65536), (some 24, 0)], []), (2, [(none, 0), (some 24, 0)], []), (10, [(some 24, 0), (some 22, 0), (some 23, 0)], []), (29, [(some 23, 0), (some 21, 0), (none, 1)], []), (12, [(some 22, 0), (some 21, 0), (none, (-1))], []), (10, [(some 21, 0), (some 15, 0), (some 20, 0)], []), (29, [(some 20, 0), (some 15, 0), (none, 1)], []), (1, [(some 14, 0), (none, 0)], []), (2, [(some 14, 0), (some 19, 0)], []), (1, [(some 14, 0), (none, (-1))], []), (160, [(some 19, 0), (some 15, 0)], []), (1, [(some 15, 0), (none, (-1))], []), (216, [(some 15, 0), (some 2, 0), (some 3, 0), (some 4, 0), (some 5, 0), (some 6, 0)], [7, 8, 10, 11, 12, 13, 15, 16, 19, 20, 21, 23, 24, 25]), (3, [(none, 1), (some 14, 0)], []), (3, [(some 14, 0), (none, (-1))], [])], (223, [(some 29, 0), (some 14, 0), (some 2, 0), (some 3, 0), (some 4, 0), (some 5, 0), (some 6, 0)], [7, 8, 10, 11, 12, 13, 15, 16, 19, 20, 21, 23, 24, 25]))
set_option maxRecDepth 20000 in
theorem v_xo_hush_0_15 {PT : PTy} (hp : HP18 PT) : vcOk PT w_xo_hush_0_15 := vc_iv [(2, 0, 8), (3, 0, 10), (4, 0, 8), (5, 0, 6), (6, 0, 6), (14, 1, 1), (15, (-2147483648), 2147483647), (19, 1, 2147483647), (20, (-2147483648), 2147483647), (21, (-2147483648), 2147483647), (22, (-2147483648), 2147483647), (23, (-2147483648), 2147483647), (24, 65537, 2147483647), (25, 257, 65535), (26, 17, 2147483647), (27, (-2147483648), 4), (28, (-2147483648), 2147483647), (29, (-2147483648), 2147483647)] [7, 8, 10, 11, 12, 13, 15, 16, 19, 20, 21, 23, 24, 25] (by decide +kernel) (fun ρ α => by
  intro r2 g2 b2 r3 g3 b3 r4 g4 b4 r5 g5 b5 r6 g6 b6 r14 g14 b14 r15 g15 b15 r19 g19 b19 r20 g20 b20 r21 g21 b21 r22 g22 b22 r23 g23 b23 r24 g24 b24 r25 g25 b25 r26 g26 b26 r27 g27 b27 r28 g28 b28 r29 g29 b29 a7 h7 a8 h8 a10 h10 a11 h11 a12 h12 a13 h13 a15 h15 a16 h16 a19 h19 a20 h20 a21 h21 a23 h23 a24 h24 a25 h25 f0 f1 f2 f3 f4 f5 f6 f7 f8 f9 f10 f11 f12 f13 f14 f15 f16 f17 f18 f19 f20 f21 f22 tt
  clear f2 f4 f6 f8 f9 f15 f17 f21 f22
  have e160 : PT 160 = P_bc := pe160_18 hp
  have e216 : PT 216 = P_hsX := pe216_18 hp
  have e223 : PT 223 = P_ohX := pe223_18 hp
  simp only [hF1, hF2, hF10, hF12, hF15, hF16, hF29, hFp_160, hFp_216, hFp_223, e160, e216, e223, P_bc, P_hsX, P_ohX, den_s, den_c, Int.add_zero, List.map_cons, List.map_nil, g2.eq, g3.eq, g4.eq, g5.eq, g6.eq, g14.eq, g15.eq, g19.eq, g20.eq, g21.eq, g22.eq, g23.eq, g24.eq, g25.eq, g26.eq, g27.eq, g28.eq, g29.eq, h7, h8, h10, h11, h12, h13, h15, h16, h19, h20, h21, h23, h24, h25] at f0 f1 f3 f5 f7 f10 f11 f12 f13 f14 f16 f18 f19 f20 ⊢
  subst f0
  subst f1
  subst f3
  subst f5
  subst f7
  subst f10
  subst f11
  subst f12
  subst f13
  subst f14
  obtain ⟨c, a, b, hR, e0, e1, e2, e3⟩ := f20
  have hV := huV_of (by omega) hR e0 e1 e2 e3
  have hc2 : c ≤ 2 := by rcases hV with w | w | w | w <;> omega
  obtain ⟨m1, m2, m3, m4⟩ := huV_m hV (by omega)
  have hb := f18
  rw [m1] at hb
  first
    | (have hn := m3 (by omega)
       refine ⟨fun h => by exfalso; omega, fun _ => ⟨c, a, b, hR, fun q => by exfalso; omega, fun q1 q2 => by exfalso; omega, fun q1 q2 => ?_, fun q1 q2 => by exfalso; omega⟩⟩
       rw [← hn]
       unfold ntF nt16 nt8 nt4 nt2
       (repeat' split) <;> first | rfl | (exfalso; omega))
    | (have hn := m4 (by omega)
       refine ⟨fun h => by exfalso; omega, fun _ => ⟨c, a, b, hR, fun q => by exfalso; omega, fun q1 q2 => by exfalso; omega, fun q1 q2 => by exfalso; omega, fun q1 q2 => ?_⟩⟩
       rw [← hn]
       unfold ntF nt16 nt8 nt4 nt2
       (repeat' split) <;> first | rfl | (exfalso; omega)))
def w_xo_hush_0_16 : VC := ((bT ++ [(1, 1), ((-2147483648), 2147483647), (0, 49), (0, 49), ((-2147483648), 2147483647), (1, 2147483647), ((-2147483648), 2147483647), ((-2147483648), 2147483647), ((-2147483648), 2147483647), ((-2147483648), 2147483647), (65537, 2147483647), (257, 65535), (17, 2147483647), (5, 2147483647), ((-2147483648), 2147483647), ((-2147483648), 2147483647), ((-2147483648), 2147483647)]), [(16, [(some 30, 0), (none, 31), (some 29, 0)], []), (15, [(some 29, 0), (some 28, 0), (none, 1)], []), (15, [(some 28, 0), (some 27, 0), (none, 2)], []), (2, [(none, 4), (some 27, 0)], []), (15, [(some 27, 0), (some 26, 0), (none, 4)], []), (2, [(none, 16), (some 26, 0)], []), (15, [(some 26, 0), (some 25, 0), (none, 8)], []), (2, [(none, 256), (some 25, 0)], []), (15, [(some 25, 0), (some 24, 0), (none, 16)], []), (2, [(none, 65536), (some 24, 0)], []), (2, [(none, 0), (some 24, 0)], []), (10, [(some 24, 0), (some 22, 0), (some 23, 0)], []), (29, [(some 23, 0), (some 21, 0), (none, 1)], []), (12, [(some 22, 0), (some 21, 0), (none, (-1))], []), (10, [(some 21, 0), (some 15, 0), (some 20, 0)], []), (29, [(some 20, 0), (some 15, 0), (none, 1)], []), (1, [(some 14, 0), (none, 0)], []), (2, [(some 14, 0), (some 19, 0)], []), (1, [(some 14, 0), (none, (-1))], []), (160, [(some 19, 0), (some 15, 0)], []), (1, [(some 15, 0), (none, (-1))], []), (216, [(some 15, 0), (some 2, 0), (some 3, 0), (some 4, 0), (some 5, 0), (some 6, 0)], [7, 8, 10, 11, 12, 13, 15, 16, 19, 20, 21, 23, 24, 25]), (3, [(none, 1), (some 14, 0)], []), (3, [(some 14, 0), (none, (-1))], [])], (223, [(some 30, 0), (some 14, 0), (some 2, 0), (some 3, 0), (some 4, 0), (some 5, 0), (some 6, 0)], [7, 8, 10, 11, 12, 13, 15, 16, 19, 20, 21, 23, 24, 25]))
set_option maxRecDepth 20000 in
theorem v_xo_hush_0_16 {PT : PTy} (hp : HP18 PT) : vcOk PT w_xo_hush_0_16 := vc_iv [(2, 0, 8), (3, 0, 10), (4, 0, 8), (5, 0, 6), (6, 0, 6), (14, 1, 1), (15, (-2147483648), 2147483647), (19, 1, 2147483647), (20, (-2147483648), 2147483647), (21, (-2147483648), 2147483647), (22, (-2147483648), 2147483647), (23, (-2147483648), 2147483647), (24, 65537, 2147483647), (25, 257, 65535), (26, 17, 2147483647), (27, 5, 2147483647), (28, (-2147483648), 2147483647), (29, (-2147483648), 2147483647), (30, (-2147483648), 2147483647)] [7, 8, 10, 11, 12, 13, 15, 16, 19, 20, 21, 23, 24, 25] (by decide +kernel) (fun ρ α => by
  intro r2 g2 b2 r3 g3 b3 r4 g4 b4 r5 g5 b5 r6 g6 b6 r14 g14 b14 r15 g15 b15 r19 g19 b19 r20 g20 b20 r21 g21 b21 r22 g22 b22 r23 g23 b23 r24 g24 b24 r25 g25 b25 r26 g26 b26 r27 g27 b27 r28 g28 b28 r29 g29 b29 r30 g30 b30 a7 h7 a8 h8 a10 h10 a11 h11 a12 h12 a13 h13 a15 h15 a16 h16 a19 h19 a20 h20 a21 h21 a23 h23 a24 h24 a25 h25 f0 f1 f2 f3 f4 f5 f6 f7 f8 f9 f10 f11 f12 f13 f14 f15 f16 f17 f18 f19 f20 f21 f22 f23 tt
  clear f3 f5 f7 f9 f10 f16 f18 f22 f23
  have e160 : PT 160 = P_bc := pe160_18 hp
  have e216 : PT 216 = P_hsX := pe216_18 hp
  have e223 : PT 223 = P_ohX := pe223_18 hp
  simp only [hF1, hF2, hF10, hF12, hF15, hF16, hF29, hFp_160, hFp_216, hFp_223, e160, e216, e223, P_bc, P_hsX, P_ohX, den_s, den_c, Int.add_zero, List.map_cons, List.map_nil, g2.eq, g3.eq, g4.eq, g5.eq, g6.eq, g14.eq, g15.eq, g19.eq, g20.eq, g21.eq, g22.eq, g23.eq, g24.eq, g25.eq, g26.eq, g27.eq, g28.eq, g29.eq, g30.eq, h7, h8, h10, h11, h12, h13, h15, h16, h19, h20, h21, h23, h24, h25] at f0 f1 f2 f4 f6 f8 f11 f12 f13 f14 f15 f17 f19 f20 f21 ⊢
  subst f0
  subst f1
  subst f2
  subst f4
  subst f6
  subst f8
  subst f11
  subst f12
  subst f13
  subst f14
  subst f15
  obtain ⟨c, a, b, hR, e0, e1, e2, e3⟩ := f21
  have hV := huV_of (by omega) hR e0 e1 e2 e3
  have hc2 : c ≤ 2 := by rcases hV with w | w | w | w <;> omega
  obtain ⟨m1, m2, m3, m4⟩ := huV_m hV (by omega)
  have hb := f19
  rw [m1] at hb
  first
    | (have hn := m3 (by omega)
       refine ⟨fun h => by exfalso; omega, fun _ => ⟨c, a, b, hR, fun q => by exfalso; omega, fun q1 q2 => by exfalso; omega, fun q1 q2 => ?_, fun q1 q2 => by exfalso; omega⟩⟩
       rw [← hn]
       unfold ntF nt16 nt8 nt4 nt2
       (repeat' split) <;> first | rfl | (exfalso; omega))
    | (have hn := m4 (by omega)
       refine ⟨fun h => by exfalso; omega, fun _ => ⟨c, a, b, hR, fun q => by exfalso; omega, fun q1 q2 => by exfalso; omega, fun q1 q2 => by exfalso; omega, fun q1 q2 => ?_⟩⟩
       rw [← hn]
       unfold ntF nt16 nt8 nt4 nt2
       (repeat' split) <;> first | rfl | (exfalso; omega)))
def w_xo_hush_0_17 : VC := ((bT ++ [(1, 1), ((-2147483648), 2147483647), (0, 49), (0, 49), ((-2147483648), 2147483647), (1, 2147483647), ((-2147483648), 2147483647), ((-2147483648), 2147483647), ((-2147483648), 2147483647), ((-2147483648), 2147483647), ((-2147483648), 0), ((-2147483648), 2147483647)]), [(10, [(some 25, 0), (some 24, 0), (none, 32)], []), (3, [(none, 0), (some 24, 0)], []), (10, [(some 24, 0), (some 22, 0), (some 23, 0)], []), (29, [(some 23, 0), (some 21, 0), (none, 1)], []), (12, [(some 22, 0), (some 21, 0), (none, (-1))], []), (10, [(some 21, 0), (some 15, 0), (some 20, 0)], []), (29, [(some 20, 0), (some 15, 0), (none, 1)], []), (1, [(some 14, 0), (none, 0)], []), (2, [(some 14, 0), (some 19, 0)], []), (1, [(some 14, 0), (none, (-1))], []), (160, [(some 19, 0), (some 15, 0)], []), (1, [(some 15, 0), (none, (-1))], []), (216, [(some 15, 0), (some 2, 0), (some 3, 0), (some 4, 0), (some 5, 0), (some 6, 0)], [7, 8, 10, 11, 12, 13, 15, 16, 19, 20, 21, 23, 24, 25]), (3, [(none, 1), (some 14, 0)], []), (3, [(some 14, 0), (none, (-1))], [])], (223, [(some 25, 0), (some 14, 0), (some 2, 0), (some 3, 0), (some 4, 0), (some 5, 0), (some 6, 0)], [7, 8, 10, 11, 12, 13, 15, 16, 19, 20, 21, 23, 24, 25]))
set_option maxRecDepth 20000 in
theorem v_xo_hush_0_17 {PT : PTy} (hp : HP18 PT) : vcOk PT w_xo_hush_0_17 := vc_iv [(2, 0, 8), (3, 0, 10), (4, 0, 8), (5, 0, 6), (6, 0, 6), (14, 1, 1), (15, (-2147483648), 2147483647), (19, 1, 2147483647), (20, (-2147483648), 2147483647), (21, (-2147483648), 2147483647), (22, (-2147483648), 2147483647), (23, (-2147483648), 2147483647), (24, (-2147483648), 0), (25, (-2147483648), 2147483647)] [7, 8, 10, 11, 12, 13, 15, 16, 19, 20, 21, 23, 24, 25] (by decide +kernel) (fun ρ α => by
  intro r2 g2 b2 r3 g3 b3 r4 g4 b4 r5 g5 b5 r6 g6 b6 r14 g14 b14 r15 g15 b15 r19 g19 b19 r20 g20 b20 r21 g21 b21 r22 g22 b22 r23 g23 b23 r24 g24 b24 r25 g25 b25 a7 h7 a8 h8 a10 h10 a11 h11 a12 h12 a13 h13 a15 h15 a16 h16 a19 h19 a20 h20 a21 h21 a23 h23 a24 h24 a25 h25 f0 f1 f2 f3 f4 f5 f6 f7 f8 f9 f10 f11 f12 f13 f14 tt
  clear f1 f7 f9 f13 f14
  have e160 : PT 160 = P_bc := pe160_18 hp
  have e216 : PT 216 = P_hsX := pe216_18 hp
  have e223 : PT 223 = P_ohX := pe223_18 hp
  simp only [hF1, hF2, hF10, hF12, hF29, hFp_160, hFp_216, hFp_223, e160, e216, e223, P_bc, P_hsX, P_ohX, den_s, den_c, Int.add_zero, List.map_cons, List.map_nil, g2.eq, g3.eq, g4.eq, g5.eq, g6.eq, g14.eq, g15.eq, g19.eq, g20.eq, g21.eq, g22.eq, g23.eq, g24.eq, g25.eq, h7, h8, h10, h11, h12, h13, h15, h16, h19, h20, h21, h23, h24, h25] at f0 f2 f3 f4 f5 f6 f8 f10 f11 f12 ⊢
  subst f0
  subst f2
  subst f3
  subst f4
  subst f5
  subst f6
  obtain ⟨c, a, b, hR, e0, e1, e2, e3⟩ := f12
  have hV := huV_of (by omega) hR e0 e1 e2 e3
  have hc2 : c ≤ 2 := by rcases hV with w | w | w | w <;> omega
  obtain ⟨m1, m2, m3, m4⟩ := huV_m hV (by omega)
  have hb := f10
  rw [m1] at hb
  first
    | (have hn := m3 (by omega)
       refine ⟨fun h => by exfalso; omega, fun _ => ⟨c, a, b, hR, fun q => by exfalso; omega, fun q1 q2 => by exfalso; omega, fun q1 q2 => ?_, fun q1 q2 => by exfalso; omega⟩⟩
       rw [← hn]
       unfold ntF nt16 nt8 nt4 nt2
       (repeat' split) <;> first | rfl | (exfalso; omega))
    | (have hn := m4 (by omega)
       refine ⟨fun h => by exfalso; omega, fun _ => ⟨c, a, b, hR, fun q => by exfalso; omega, fun q1 q2 => by exfalso; omega, fun q1 q2 => by exfalso; omega, fun q1 q2 => ?_⟩⟩
       rw [← hn]
       unfold ntF nt16 nt8 nt4 nt2
       (repeat' split) <;> first | rfl | (exfalso; omega)))
def w_xo_hush_0_18 : VC := ((bT ++ [(0, 0), ((-2147483648), 2147483647), (0, 49), (0, 49), ((-2147483648), 2147483647), (1, 2147483647), ((-2147483648), 2147483647), ((-2147483648), 2147483647), (1, 4), ((-2147483648), 2147483647), ((-2147483648), 2147483647)]), [(16, [(some 24, 0), (none, 1), (some 23, 0)], []), (15, [(some 23, 0), (some 22, 0), (none, 1)], []), (3, [(none, 4), (some 22, 0)], []), (3, [(none, 16), (some 22, 0)], []), (3, [(none, 256), (some 22, 0)], []), (3, [(none, 65536), (some 22, 0)], []), (2, [(none, 0), (some 22, 0)], []), (10, [(some 22, 0), (some 20, 0), (some 21, 0)], []), (29, [(some 21, 0), (some 15, 0), (none, 1)], []), (12, [(some 20, 0), (some 15, 0), (none, (-1))], []), (0, [(some 14, 0), (none, 0)], []), (2, [(some 14, 0), (some 19, 0)], []), (1, [(some 14, 0), (none, (-1))], []), (160, [(some 19, 0), (some 15, 0)], []), (1, [(some 15, 0), (none, (-1))], []), (216, [(some 15, 0), (some 2, 0), (some 3, 0), (some 4, 0), (some 5, 0), (some 6, 0)], [7, 8, 10, 11, 12, 13, 15, 16, 19, 20, 21, 23, 24, 25]), (3, [(none, 1), (some 14, 0)], []), (3, [(some 14, 0), (none, (-1))], [])], (223, [(some 24, 0), (some 14, 0), (some 2, 0), (some 3, 0), (some 4, 0), (some 5, 0), (some 6, 0)], [7, 8, 10, 11, 12, 13, 15, 16, 19, 20, 21, 23, 24, 25]))
set_option maxRecDepth 20000 in
theorem v_xo_hush_0_18 {PT : PTy} (hp : HP18 PT) : vcOk PT w_xo_hush_0_18 := vc_iv [(2, 0, 8), (3, 0, 10), (4, 0, 8), (5, 0, 6), (6, 0, 6), (14, 0, 0), (15, (-2147483648), 2147483647), (19, 1, 2147483647), (20, (-2147483648), 2147483647), (21, (-2147483648), 2147483647), (22, 1, 4), (23, (-2147483648), 2147483647), (24, (-2147483648), 2147483647)] [7, 8, 10, 11, 12, 13, 15, 16, 19, 20, 21, 23, 24, 25] (by decide +kernel) (fun ρ α => by
  intro r2 g2 b2 r3 g3 b3 r4 g4 b4 r5 g5 b5 r6 g6 b6 r14 g14 b14 r15 g15 b15 r19 g19 b19 r20 g20 b20 r21 g21 b21 r22 g22 b22 r23 g23 b23 r24 g24 b24 a7 h7 a8 h8 a10 h10 a11 h11 a12 h12 a13 h13 a15 h15 a16 h16 a19 h19 a20 h20 a21 h21 a23 h23 a24 h24 a25 h25 f0 f1 f2 f3 f4 f5 f6 f7 f8 f9 f10 f11 f12 f13 f14 f15 f16 f17 tt
  clear f2 f3 f4 f5 f6 f12 f16 f17
  have e160 : PT 160 = P_bc := pe160_18 hp
  have e216 : PT 216 = P_hsX := pe216_18 hp
  have e223 : PT 223 = P_ohX := pe223_18 hp
  simp only [hF0, hF1, hF2, hF10, hF12, hF15, hF16, hF29, hFp_160, hFp_216, hFp_223, e160, e216, e223, P_bc, P_hsX, P_ohX, den_s, den_c, Int.add_zero, List.map_cons, List.map_nil, g2.eq, g3.eq, g4.eq, g5.eq, g6.eq, g14.eq, g15.eq, g19.eq, g20.eq, g21.eq, g22.eq, g23.eq, g24.eq, h7, h8, h10, h11, h12, h13, h15, h16, h19, h20, h21, h23, h24, h25] at f0 f1 f7 f8 f9 f10 f11 f13 f14 f15 ⊢
  subst f0
  subst f1
  subst f7
  subst f8
  subst f9
  obtain ⟨c, a, b, hR, e0, e1, e2, e3⟩ := f15
  have hV := huV_of (by omega) hR e0 e1 e2 e3
  have hc2 : c ≤ 2 := by rcases hV with w | w | w | w <;> omega
  obtain ⟨m1, m2, m3, m4⟩ := huV_m hV (by omega)
  have hb := f13
  rw [m1] at hb
  first
    | (have hn := m3 (by omega)
       refine ⟨fun h => by exfalso; omega, fun _ => ⟨c, a, b, hR, fun q => by exfalso; omega, fun q1 q2 => by exfalso; omega, fun q1 q2 => ?_, fun q1 q2 => by exfalso; omega⟩⟩
       rw [← hn]
       unfold ntF nt16 nt8 nt4 nt2
       (repeat' split) <;> first | rfl | (exfalso; omega))
    | (have hn := m4 (by omega)
       refine ⟨fun h => by exfalso; omega, fun _ => ⟨c, a, b, hR, fun q => by exfalso; omega, fun q1 q2 => by exfalso; omega, fun q1 q2 => by exfalso; omega, fun q1 q2 => ?_⟩⟩
       rw [← hn]
       unfold ntF nt16 nt8 nt4 nt2
       (repeat' split) <;> first | rfl | (exfalso; omega)))
def w_xo_hush_0_19 : VC := ((bT ++ [(0, 0), ((-2147483648), 2147483647), (0, 49), (0, 49), ((-2147483648), 2147483647), (1, 2147483647), ((-2147483648), 2147483647), ((-2147483648), 2147483647), (5, 16), ((-2147483648), 2147483647), ((-2147483648), 2147483647), ((-2147483648), 2147483647)]), [(16, [(some 25, 0), (none, 3), (some 24, 0)], []), (15, [(some 24, 0), (some 23, 0), (none, 1)], []), (15, [(some 23, 0), (some 22, 0), (none, 2)], []), (2, [(none, 4), (some 22, 0)], []), (3, [(none, 16), (some 22, 0)], []), (3, [(none, 256), (some 22, 0)], []), (3, [(none, 65536), (some 22, 0)], []), (2, [(none, 0), (some 22, 0)], []), (10, [(some 22, 0), (some 20, 0), (some 21, 0)], []), (29, [(some 21, 0), (some 15, 0), (none, 1)], []), (12, [(some 20, 0), (some 15, 0), (none, (-1))], []), (0, [(some 14, 0), (none, 0)], []), (2, [(some 14, 0), (some 19, 0)], []), (1, [(some 14, 0), (none, (-1))], []), (160, [(some 19, 0), (some 15, 0)], []), (1, [(some 15, 0), (none, (-1))], []), (216, [(some 15, 0), (some 2, 0), (some 3, 0), (some 4, 0), (some 5, 0), (some 6, 0)], [7, 8, 10, 11, 12, 13, 15, 16, 19, 20, 21, 23, 24, 25]), (3, [(none, 1), (some 14, 0)], []), (3, [(some 14, 0), (none, (-1))], [])], (223, [(some 25, 0), (some 14, 0), (some 2, 0), (some 3, 0), (some 4, 0), (some 5, 0), (some 6, 0)], [7, 8, 10, 11, 12, 13, 15, 16, 19, 20, 21, 23, 24, 25]))
set_option maxRecDepth 20000 in
theorem v_xo_hush_0_19 {PT : PTy} (hp : HP18 PT) : vcOk PT w_xo_hush_0_19 := vc_iv [(2, 0, 8), (3, 0, 10), (4, 0, 8), (5, 0, 6), (6, 0, 6), (14, 0, 0), (15, (-2147483648), 2147483647), (19, 1, 2147483647), (20, (-2147483648), 2147483647), (21, (-2147483648), 2147483647), (22, 5, 16), (23, (-2147483648), 2147483647), (24, (-2147483648), 2147483647), (25, (-2147483648), 2147483647)] [7, 8, 10, 11, 12, 13, 15, 16, 19, 20, 21, 23, 24, 25] (by decide +kernel) (fun ρ α => by
  intro r2 g2 b2 r3 g3 b3 r4 g4 b4 r5 g5 b5 r6 g6 b6 r14 g14 b14 r15 g15 b15 r19 g19 b19 r20 g20 b20 r21 g21 b21 r22 g22 b22 r23 g23 b23 r24 g24 b24 r25 g25 b25 a7 h7 a8 h8 a10 h10 a11 h11 a12 h12 a13 h13 a15 h15 a16 h16 a19 h19 a20 h20 a21 h21 a23 h23 a24 h24 a25 h25 f0 f1 f2 f3 f4 f5 f6 f7 f8 f9 f10 f11 f12 f13 f14 f15 f16 f17 f18 tt
  clear f3 f4 f5 f6 f7 f13 f17 f18
  have e160 : PT 160 = P_bc := pe160_18 hp
  have e216 : PT 216 = P_hsX := pe216_18 hp
  have e223 : PT 223 = P_ohX := pe223_18 hp
  simp only [hF0, hF1, hF2, hF10, hF12, hF15, hF16, hF29, hFp_160, hFp_216, hFp_223, e160, e216, e223, P_bc, P_hsX, P_ohX, den_s, den_c, Int.add_zero, List.map_cons, List.map_nil, g2.eq, g3.eq, g4.eq, g5.eq, g6.eq, g14.eq, g15.eq, g19.eq, g20.eq, g21.eq, g22.eq, g23.eq, g24.eq, g25.eq, h7, h8, h10, h11, h12, h13, h15, h16, h19, h20, h21, h23, h24, h25] at f0 f1 f2 f8 f9 f10 f11 f12 f14 f15 f16 ⊢
  subst f0
  subst f1
  subst f2
  subst f8
  subst f9
  subst f10
  obtain ⟨c, a, b, hR, e0, e1, e2, e3⟩ := f16
  have hV := huV_of (by omega) hR e0 e1 e2 e3
  have hc2 : c ≤ 2 := by rcases hV with w | w | w | w <;> omega
  obtain ⟨m1, m2, m3, m4⟩ := huV_m hV (by omega)
  have hb := f14
  rw [m1] at hb
  first
    | (have hn := m3 (by omega)
       refine ⟨fun h => by exfalso; omega, fun _ => ⟨c, a, b, hR, fun q => by exfalso; omega, fun q1 q2 => by exfalso; omega, fun q1 q2 => ?_, fun q1 q2 => by exfalso; omega⟩⟩
       rw [← hn]
       unfold ntF nt16 nt8 nt4 nt2
       (repeat' split) <;> first | rfl | (exfalso; omega))
    | (have hn := m4 (by omega)
       refine ⟨fun h => by exfalso; omega, fun _ => ⟨c, a, b, hR, fun q => by exfalso; omega, fun q1 q2 => by exfalso; omega, fun q1 q2 => by exfalso; omega, fun q1 q2 => ?_⟩⟩
       rw [← hn]
       unfold ntF nt16 nt8 nt4 nt2
       (repeat' split) <;> first | rfl | (exfalso; omega)))
def w_xo_hush_0_20 : VC := ((bT ++ [(0, 0), ((-2147483648), 2147483647), (0, 49), (0, 49), ((-2147483648), 2147483647), (1, 2147483647), ((-2147483648), 2147483647), ((-2147483648), 2147483647), (17, 256), ((-2147483648), 4), ((-2147483648), 2147483647), ((-2147483648), 2147483647)]), [(16, [(some 25, 0), (none, 5), (some 24, 0)], []), (15, [(some 24, 0), (some 23, 0), (none, 1)], []), (3, [(none, 4), (some 23, 0)], []), (15, [(some 23, 0), (some 22, 0), (none, 4)], []), (2, [(none, 16), (some 22, 0)], []), (3, [(none, 256), (some 22, 0)], []), (3, [(none, 65536), (some 22, 0)], []), (2, [(none, 0), (some 22, 0)], []), (10, [(some 22, 0), (some 20, 0), (some 21, 0)], []), (29, [(some 21, 0), (some 15, 0), (none, 1)], []), (12, [(some 20, 0), (some 15, 0), (none, (-1))], []), (0, [(some 14, 0), (none, 0)], []), (2, [(some 14, 0), (some 19, 0)], []), (1, [(some 14, 0), (none, (-1))], []), (160, [(some 19, 0), (some 15, 0)], []), (1, [(some 15, 0), (none, (-1))], []), (216, [(some 15, 0), (some 2, 0), (some 3, 0), (some 4, 0), (some 5, 0), (some 6, 0)], [7, 8, 10, 11, 12, 13, 15, 16, 19, 20, 21, 23, 24, 25]), (3, [(none, 1), (some 14, 0)], []), (3, [(some 14, 0), (none, (-1))], [])], (223, [(some 25, 0), (some 14, 0), (some 2, 0), (some 3, 0), (some 4, 0), (some 5, 0), (some 6, 0)], [7, 8, 10, 11, 12, 13, 15, 16, 19, 20, 21, 23, 24, 25]))
set_option maxRecDepth 20000 in
theorem v_xo_hush_0_20 {PT : PTy} (hp : HP18 PT) : vcOk PT w_xo_hush_0_20 := vc_iv [(2, 0, 8), (3, 0, 10), (4, 0, 8), (5, 0, 6), (6, 0, 6), (14, 0, 0), (15, (-2147483648), 2147483647), (19, 1, 2147483647), (20, (-2147483648), 2147483647), (21, (-2147483648), 2147483647), (22, 17, 256), (23, (-2147483648), 4), (24, (-2147483648), 2147483647), (25, (-2147483648), 2147483647)] [7, 8, 10, 11, 12, 13, 15, 16, 19, 20, 21, 23, 24, 25] (by decide +kernel) (fun ρ α => by
  intro r2 g2 b2 r3 g3 b3 r4 g4 b4 r5 g5 b5 r6 g6 b6 r14 g14 b14 r15 g15 b15 r19 g19 b19 r20 g20 b20 r21 g21 b21 r22 g22 b22 r23 g23 b23 r24 g24 b24 r25 g25 b25 a7 h7 a8 h8 a10 h10 a11 h11 a12 h12 a13 h13 a15 h15 a16 h16 a19 h19 a20 h20 a21 h21 a23 h23 a24 h24 a25 h25 f0 f1 f2 f3 f4 f5 f6 f7 f8 f9 f10 f11 f12 f13 f14 f15 f16 f17 f18 tt
  clear f2 f4 f5 f6 f7 f13 f17 f18
  have e160 : PT 160 = P_bc := pe160_18 hp
  have e216 : PT 216 = P_hsX := pe216_18 hp
  have e223 : PT 223 = P_ohX := pe223_18 hp
  simp only [hF0, hF1, hF2, hF10, hF12, hF15, hF16, hF29, hFp_160, hFp_216, hFp_223, e160, e216, e223, P_bc, P_hsX, P_ohX, den_s, den_c, Int.add_zero, List.map_cons, List.map_nil, g2.eq, g3.eq, g4.eq, g5.eq, g6.eq, g14.eq, g15.eq, g19.eq, g20.eq, g21.eq, g22.eq, g23.eq, g24.eq, g25.eq, h7, h8, h10, h11, h12, h13, h15, h16, h19, h20, h21, h23, h24, h25] at f0 f1 f3 f8 f9 f10 f11 f12 f14 f15 f16 ⊢
  subst f0
  subst f1
  subst f3
  subst f8
  subst f9
  subst f10
  obtain ⟨c, a, b, hR, e0, e1, e2, e3⟩ := f16
  have hV := huV_of (by omega) hR e0 e1 e2 e3
  have hc2 : c ≤ 2 := by rcases hV with w | w | w | w <;> omega
  obtain ⟨m1, m2, m3, m4⟩ := huV_m hV (by omega)
  have hb := f14
  rw [m1] at hb
  first
    | (have hn := m3 (by omega)
       refine ⟨fun h => by exfalso; omega, fun _ => ⟨c, a, b, hR, fun q => by exfalso; omega, fun q1 q2 => by exfalso; omega, fun q1 q2 => ?_, fun q1 q2 => by exfalso; omega⟩⟩
       rw [← hn]
       unfold ntF nt16 nt8 nt4 nt2
       (repeat' split) <;> first | rfl | (exfalso; omega))
    | (have hn := m4 (by omega)
       refine ⟨fun h => by exfalso; omega, fun _ => ⟨c, a, b, hR, fun q => by exfalso; omega, fun q1 q2 => by exfalso; omega, fun q1 q2 => by exfalso; omega, fun q1 q2 => ?_⟩⟩
       rw [← hn]
       unfold ntF nt16 nt8 nt4 nt2
       (repeat' split) <;> first | rfl | (exfalso; omega)))
def w_xo_hush_0_21 : VC := ((bT ++ [(0, 0), ((-2147483648), 2147483647), (0, 49), (0, 49), ((-2147483648), 2147483647), (1, 2147483647), ((-2147483648), 2147483647), ((-2147483648), 2147483647), (17, 256), (5, 2147483647), ((-2147483648), 2147483647), ((-2147483648), 2147483647), ((-2147483648), 2147483647)]), [(16, [(some 26, 0), (none, 7), (some 25, 0)], []), (15, [(some 25, 0), (some 24, 0), (none, 1)], []), (15, [(some 24, 0), (some 23, 0), (none, 2)], []), (2, [(none, 4), (some 23, 0)], []), (15, [(some 23, 0), (some 22, 0), (none, 4)], []), (2, [(none, 16), (some 22, 0)], []), (3, [(none, 256), (some 22, 0)], []), (3, [(none, 65536), (some 22, 0)], []), (2, [(none, 0), (some 22, 0)], []), (10, [(some 22, 0), (some 20, 0), (some 21, 0)], []), (29, [(some 21, 0), (some 15, 0), (none, 1)], []), (12, [(some 20, 0), (some 15, 0), (none, (-1))], []), (0, [(some 14, 0), (none, 0)], []), (2, [(some 14, 0), (some 19, 0)], []), (1, [(some 14, 0), (none, (-1))], []), (160, [(some 19, 0), (some 15, 0)], []), (1, [(some 15, 0), (none, (-1))], []), (216, [(some 15, 0), (some 2, 0), (some 3, 0), (some 4, 0), (some 5, 0), (some 6, 0)], [7, 8, 10, 11, 12, 13, 15, 16, 19, 20, 21, 23, 24, 25]), (3, [(none, 1), (some 14, 0)], []), (3, [(some 14, 0), (none, (-1))], [])], (223, [(some 26, 0), (some 14, 0), (some 2, 0), (some 3, 0), (some 4, 0), (some 5, 0), (some 6, 0)], [7, 8, 10, 11, 12, 13, 15, 16, 19, 20, 21, 23, 24, 25]))
set_option maxRecDepth 20000 in
theorem v_xo_hush_0_21 {PT : PTy} (hp : HP18 PT) : vcOk PT w_xo_hush_0_21 := vc_iv [(2, 0, 8), (3, 0, 10), (4, 0, 8), (5, 0, 6), (6, 0, 6), (14, 0, 0), (15, (-2147483648), 2147483647), (19, 1, 2147483647), (20, (-2147483648), 2147483647), (21, (-2147483648), 2147483647), (22, 17, 256), (23, 5, 2147483647), (24, (-2147483648), 2147483647), (25, (-2147483648), 2147483647), (26, (-2147483648), 2147483647)] [7, 8, 10, 11, 12, 13, 15, 16, 19, 20, 21, 23, 24, 25] (by decide +kernel) (fun ρ α => by
  intro r2 g2 b2 r3 g3 b3 r4 g4 b4 r5 g5 b5 r6 g6 b6 r14 g14 b14 r15 g15 b15 r19 g19 b19 r20 g20 b20 r21 g21 b21 r22 g22 b22 r23 g23 b23 r24 g24 b24 r25 g25 b25 r26 g26 b26 a7 h7 a8 h8 a10 h10 a11 h11 a12 h12 a13 h13 a15 h15 a16 h16 a19 h19 a20 h20 a21 h21 a23 h23 a24 h24 a25 h25 f0 f1 f2 f3 f4 f5 f6 f7 f8 f9 f10 f11 f12 f13 f14 f15 f16 f17 f18 f19 tt
  clear f3 f5 f6 f7 f8 f14 f18 f19
  have e160 : PT 160 = P_bc := pe160_18 hp
  have e216 : PT 216 = P_hsX := pe216_18 hp
  have e223 : PT 223 = P_ohX := pe223_18 hp
  simp only [hF0, hF1, hF2, hF10, hF12, hF15, hF16, hF29, hFp_160, hFp_216, hFp_223, e160, e216, e223, P_bc, P_hsX, P_ohX, den_s, den_c, Int.add_zero, List.map_cons, List.map_nil, g2.eq, g3.eq, g4.eq, g5.eq, g6.eq, g14.eq, g15.eq, g19.eq, g20.eq, g21.eq, g22.eq, g23.eq, g24.eq, g25.eq, g26.eq, h7, h8, h10, h11, h12, h13, h15, h16, h19, h20, h21, h23, h24, h25] at f0 f1 f2 f4 f9 f10 f11 f12 f13 f15 f16 f17 ⊢
  subst f0
  subst f1
  subst f2
  subst f4
  subst f9
  subst f10
  subst f11
  obtain ⟨c, a, b, hR, e0, e1, e2, e3⟩ := f17
  have hV := huV_of (by omega) hR e0 e1 e2 e3
  have hc2 : c ≤ 2 := by rcases hV with w | w | w | w <;> omega
  obtain ⟨m1, m2, m3, m4⟩ := huV_m hV (by omega)
  have hb := f15
  rw [m1] at hb
  first
    | (have hn := m3 (by omega)
       refine ⟨fun h => by exfalso; omega, fun _ => ⟨c, a, b, hR, fun q => by exfalso; omega, fun q1 q2 => by exfalso; omega, fun q1 q2 => ?_, fun q1 q2 => by exfalso; omega⟩⟩
       rw [← hn]
       unfold ntF nt16 nt8 nt4 nt2
       (repeat' split) <;> first | rfl | (exfalso; omega))
    | (have hn := m4 (by omega)
       refine ⟨fun h => by exfalso; omega, fun _ => ⟨c, a, b, hR, fun q => by exfalso; omega, fun q1 q2 => by exfalso; omega, fun q1 q2 => by exfalso; omega, fun q1 q2 => ?_⟩⟩
       rw [← hn]
       unfold ntF nt16 nt8 nt4 nt2
       (repeat' split) <;> first | rfl | (exfalso; omega)))
def w_xo_hush_0_22 : VC := ((bT ++ [(0, 0), ((-2147483648), 2147483647), (0, 49), (0, 49), ((-2147483648), 2147483647), (1, 2147483647), ((-2147483648), 2147483647), ((-2147483648), 2147483647), (257, 65536), ((-2147483648), 4), ((-2147483648), 2147483647), ((-2147483648), 2147483647)]), [(16, [(some 25, 0), (none, 9), (some 24, 0)], []), (15, [(some 24, 0), (some 23, 0), (none, 1)], []), (3, [(none, 4), (some 23, 0)], []), (3, [(none, 16), (some 23, 0)], []), (15, [(some 23, 0), (some 22, 0), (none, 8)], []), (2, [(none, 256), (some 22, 0)], []), (3, [(none, 65536), (some 22, 0)], []), (2, [(none, 0), (some 22, 0)], []), (10, [(some 22, 0), (some 20, 0), (some 21, 0)], []), (29, [(some 21, 0), (some 15, 0), (none, 1)], []), (12, [(some 20, 0), (some 15, 0), (none, (-1))], []), (0, [(some 14, 0), (none, 0)], []), (2, [(some 14, 0), (some 19, 0)], []), (1, [(some 14, 0), (none, (-1))], []), (160, [(some 19, 0), (some 15, 0)], []), (1, [(some 15, 0), (none, (-1))], []), (216, [(some 15, 0), (some 2, 0), (some 3, 0), (some 4, 0), (some 5, 0), (some 6, 0)], [7, 8, 10, 11, 12, 13, 15, 16, 19, 20, 21, 23, 24, 25]), (3, [(none, 1), (some 14, 0)], []), (3, [(some 14, 0), (none, (-1))], [])], (223, [(some 25, 0), (some 14, 0), (some 2, 0), (some 3, 0), (some 4, 0), (some 5, 0), (some 6, 0)], [7, 8, 10, 11, 12, 13, 15, 16, 19, 20, 21, 23, 24, 25]))
set_option maxRecDepth 20000 in
theorem v_xo_hush_0_22 {PT : PTy} (hp : HP18 PT) : vcOk PT w_xo_hush_0_22 := vc_iv [(2, 0, 8), (3, 0, 10), (4, 0, 8), (5, 0, 6), (6, 0, 6), (14, 0, 0), (15, (-2147483648), 2147483647), (19, 1, 2147483647), (20, (-2147483648), 2147483647), (21, (-2147483648), 2147483647), (22, 257, 65536), (23, (-2147483648), 4), (24, (-2147483648), 2147483647), (25, (-2147483648), 2147483647)] [7, 8, 10, 11, 12, 13, 15, 16, 19, 20, 21, 23, 24, 25] (by decide +kernel) (fun ρ α => by
  intro r2 g2 b2 r3 g3 b3 r4 g4 b4 r5 g5 b5 r6 g6 b6 r14 g14 b14 r15 g15 b15 r19 g19 b19 r20 g20 b20 r21 g21 b21 r22 g22 b22 r23 g23 b23 r24 g24 b24 r25 g25 b25 a7 h7 a8 h8 a10 h10 a11 h11 a12 h12 a13 h13 a15 h15 a16 h16 a19 h19 a20 h20 a21 h21 a23 h23 a24 h24 a25 h25 f0 f1 f2 f3 f4 f5 f6 f7 f8 f9 f10 f11 f12 f13 f14 f15 f16 f17 f18 tt
  clear f2 f3 f5 f6 f7 f13 f17 f18
  have e160 : PT 160 = P_bc := pe160_18 hp
  have e216 : PT 216 = P_hsX := pe216_18 hp
  have e223 : PT 223 = P_ohX := pe223_18 hp
  simp only [hF0, hF1, hF2, hF10, hF12, hF15, hF16, hF29, hFp_160, hFp_216, hFp_223, e160, e216, e223, P_bc, P_hsX, P_ohX, den_s, den_c, Int.add_zero, List.map_cons, List.map_nil, g2.eq, g3.eq, g4.eq, g5.eq, g6.eq, g14.eq, g15.eq, g19.eq, g20.eq, g21.eq, g22.eq, g23.eq, g24.eq, g25.eq, h7, h8, h10, h11, h12, h13, h15, h16, h19, h20, h21, h23, h24, h25] at f0 f1 f4 f8 f9 f10 f11 f12 f14 f15 f16 ⊢
  subst f0
  subst f1
  subst f4
  subst f8
  subst f9
  subst f10
  obtain ⟨c, a, b, hR, e0, e1, e2, e3⟩ := f16
  have hV := huV_of (by omega) hR e0 e1 e2 e3
  have hc2 : c ≤ 2 := by rcases hV with w | w | w | w <;> omega
  obtain ⟨m1, m2, m3, m4⟩ := huV_m hV (by omega)
  have hb := f14
  rw [m1] at hb
  first
    | (have hn := m3 (by omega)
       refine ⟨fun h => by exfalso; omega, fun _ => ⟨c, a, b, hR, fun q => by exfalso; omega, fun q1 q2 => by exfalso; omega, fun q1 q2 => ?_, fun q1 q2 => by exfalso; omega⟩⟩
       rw [← hn]
       unfold ntF nt16 nt8 nt4 nt2
       (repeat' split) <;> first | rfl | (exfalso; omega))
    | (have hn := m4 (by omega)
       refine ⟨fun h => by exfalso; omega, fun _ => ⟨c, a, b, hR, fun q => by exfalso; omega, fun q1 q2 => by exfalso; omega, fun q1 q2 => by exfalso; omega, fun q1 q2 => ?_⟩⟩
       rw [← hn]
       unfold ntF nt16 nt8 nt4 nt2
       (repeat' split) <;> first | rfl | (exfalso; omega)))
def w_xo_hush_0_23 : VC := ((bT ++ [(0, 0), ((-2147483648), 2147483647), (0, 49), (0, 49), ((-2147483648), 2147483647), (1, 2147483647), ((-2147483648), 2147483647), ((-2147483648), 2147483647), (257, 65536), (5, 16), ((-2147483648), 2147483647), ((-2147483648), 2147483647), ((-2147483648), 2147483647)]), [(16, [(some 26, 0), (none, 11), (some 25, 0)], []), (15, [(some 25, 0), (some 24, 0), (none, 1)], []), (15, [(some 24, 0), (some 23, 0), (none, 2)], []), (2, [(none, 4), (some 23, 0)], []), (3, [(none, 16), (some 23, 0)], []), (15, [(some 23, 0), (some 22, 0), (none, 8)], []), (2, [(none, 256), (some 22, 0)], []), (3, [(none, 65536), (some 22, 0)], []), (2, [(none, 0), (some 22, 0)], []), (10, [(some 22, 0), (some 20, 0), (some 21, 0)], []), (29, [(some 21, 0), (some 15, 0), (none, 1)], []), (12, [(some 20, 0), (some 15, 0), (none, (-1))], []), (0, [(some 14, 0), (none, 0)], []), (2, [(some 14, 0), (some 19, 0)], []), (1, [(some 14, 0), (none, (-1))], []), (160, [(some 19, 0), (some 15, 0)], []), (1, [(some 15, 0), (none, (-1))], []), (216, [(some 15, 0), (some 2, 0), (some 3, 0), (some 4, 0), (some 5, 0), (some 6, 0)], [7, 8, 10, 11, 12, 13, 15, 16, 19, 20, 21, 23, 24, 25]), (3, [(none, 1), (some 14, 0)], []), (3, [(some 14, 0), (none, (-1))], [])], (223, [(some 26, 0), (some 14, 0), (some 2, 0), (some 3, 0), (some 4, 0), (some 5, 0), (some 6, 0)], [7, 8, 10, 11, 12, 13, 15, 16, 19, 20, 21, 23, 24, 25]))
set_option maxRecDepth 20000 in
theorem v_xo_hush_0_23 {PT : PTy} (hp : HP18 PT) : vcOk PT w_xo_hush_0_23 := vc_iv [(2, 0, 8), (3, 0, 10), (4, 0, 8), (5, 0, 6), (6, 0, 6), (14, 0, 0), (15, (-2147483648), 2147483647), (19, 1, 2147483647), (20, (-2147483648), 2147483647), (21, (-2147483648), 2147483647), (22, 257, 65536), (23, 5, 16), (24, (-2147483648), 2147483647), (25, (-2147483648), 2147483647), (26, (-2147483648), 2147483647)] [7, 8, 10, 11, 12, 13, 15, 16, 19, 20, 21, 23, 24, 25] (by decide +kernel) (fun ρ α => by
  intro r2 g2 b2 r3 g3 b3 r4 g4 b4 r5 g5 b5 r6 g6 b6 r14 g14 b14 r15 g15 b15 r19 g19 b19 r20 g20 b20 r21 g21 b21 r22 g22 b22 r23 g23 b23 r24 g24 b24 r25 g25 b25 r26 g26 b26 a7 h7 a8 h8 a10 h10 a11 h11 a12 h12 a13 h13 a15 h15 a16 h16 a19 h19 a20 h20 a21 h21 a23 h23 a24 h24 a25 h25 f0 f1 f2 f3 f4 f5 f6 f7 f8 f9 f10 f11 f12 f13 f14 f15 f16 f17 f18 f19 tt
  clear f3 f4 f6 f7 f8 f14 f18 f19
  have e160 : PT 160 = P_bc := pe160_18 hp
  have e216 : PT 216 = P_hsX := pe216_18 hp
  have e223 : PT 223 = P_ohX := pe223_18 hp
  simp only [hF0, hF1, hF2, hF10, hF12, hF15, hF16, hF29, hFp_160, hFp_216, hFp_223, e160, e216, e223, P_bc, P_hsX, P_ohX, den_s, den_c, Int.add_zero, List.map_cons, List.map_nil, g2.eq, g3.eq, g4.eq, g5.eq, g6.eq, g14.eq, g15.eq, g19.eq, g20.eq, g21.eq, g22.eq, g23.eq, g24.eq, g25.eq, g26.eq, h7, h8, h10, h11, h12, h13, h15, h16, h19, h20, h21, h23, h24, h25] at f0 f1 f2 f5 f9 f10 f11 f12 f13 f15 f16 f17 ⊢
  subst f0
  subst f1
  subst f2
  subst f5
  subst f9
  subst f10
  subst f11
  obtain ⟨c, a, b, hR, e0, e1, e2, e3⟩ := f17
  have hV := huV_of (by omega) hR e0 e1 e2 e3
  have hc2 : c ≤ 2 := by rcases hV with w | w | w | w <;> omega
  obtain ⟨m1, m2, m3, m4⟩ := huV_m hV (by omega)
  have hb := f15
  rw [m1] at hb
  first
    | (have hn := m3 (by omega)
       refine ⟨fun h => by exfalso; omega, fun _ => ⟨c, a, b, hR, fun q => by exfalso; omega, fun q1 q2 => by exfalso; omega, fun q1 q2 => ?_, fun q1 q2 => by exfalso; omega⟩⟩
       rw [← hn]
       unfold ntF nt16 nt8 nt4 nt2
       (repeat' split) <;> first | rfl | (exfalso; omega))
    | (have hn := m4 (by omega)
       refine ⟨fun h => by exfalso; omega, fun _ => ⟨c, a, b, hR, fun q => by exfalso; omega, fun q1 q2 => by exfalso; omega, fun q1 q2 => by exfalso; omega, fun q1 q2 => ?_⟩⟩
       rw [← hn]
       unfold ntF nt16 nt8 nt4 nt2
       (repeat' split) <;> first | rfl | (exfalso; omega)))
def w_xo_hush_0_24 : VC := ((bT ++ [(0, 0), ((-2147483648), 2147483647), (0, 49), (0, 49), ((-2147483648), 2147483647), (1, 2147483647), ((-2147483648), 2147483647), ((-2147483648), 2147483647), (257, 65536), (17, 2147483647), ((-2147483648), 4), ((-2147483648), 2147483647), ((-2147483648), 2147483647)]), [(16, [(some 26, 0), (none, 13), (some 25, 0)], []), (15, [(some 25, 0), (some 24, 0), (none, 1)], []), (3, [(none, 4), (some 24, 0)], []), (15, [(some 24, 0), (some 23, 0), (none, 4)], []), (2, [(none, 16), (some 23, 0)], []), (15, [(some 23, 0), (some 22, 0), (none, 8)], []), (2, [(none, 256), (some 22, 0)], []), (3, [(none, 65536), (some 22, 0)], []), (2, [(none, 0), (some 22, 0)], []), (10, [(some 22, 0), (some 20, 0), (some 21, 0)], []), (29, [(some 21, 0), (some 15, 0), (none, 1)], []), (12, [(some 20, 0), (some 15, 0), (none, (-1))], []), (0, [(some 14, 0), (none, 0)], []), (2, [(some 14, 0), (some 19, 0)], []), (1, [(some 14, 0), (none, (-1))], []), (160, [(some 19, 0), (some 15, 0)], []), (1, [(some 15, 0), (none, (-1))], []), (216, [(some 15, 0), (some 2, 0), (some 3, 0), (some 4, 0), (some 5, 0), (some 6, 0)], [7, 8, 10, 11, 12, 13, 15, 16, 19, 20, 21, 23, 24, 25]), (3, [(none, 1), (some 14, 0)], []), (3, [(some 14, 0), (none, (-1))], [])], (223, [(some 26, 0), (some 14, 0), (some 2, 0), (some 3, 0), (some 4, 0), (some 5, 0), (some 6, 0)], [7, 8, 10, 11, 12, 13, 15, 16, 19, 20, 21, 23, 24, 25]))
set_option maxRecDepth 20000 in
theorem v_xo_hush_0_24 {PT : PTy} (hp : HP18 PT) : vcOk PT w_xo_hush_0_24 := vc_iv [(2, 0, 8), (3, 0, 10), (4, 0, 8), (5, 0, 6), (6, 0, 6), (14, 0, 0), (15, (-2147483648), 2147483647), (19, 1, 2147483647), (20, (-2147483648), 2147483647), (21, (-2147483648), 2147483647), (22, 257, 65536), (23, 17, 2147483647), (24, (-2147483648), 4), (25, (-2147483648), 2147483647), (26, (-2147483648), 2147483647)] [7, 8, 10, 11, 12, 13, 15, 16, 19, 20, 21, 23, 24, 25] (by decide +kernel) (fun ρ α => by
  intro r2 g2 b2 r3 g3 b3 r4 g4 b4 r5 g5 b5 r6 g6 b6 r14 g14 b14 r15 g15 b15 r19 g19 b19 r20 g20 b20 r21 g21 b21 r22 g22 b22 r23 g23 b23 r24 g24 b24 r25 g25 b25 r26 g26 b26 a7 h7 a8 h8 a10 h10 a11 h11 a12 h12 a13 h13 a15 h15 a16 h16 a19 h19 a20 h20 a21 h21 a23 h23 a24 h24 a25 h25 f0 f1 f2 f3 f4 f5 f6 f7 f8 f9 f10 f11 f12 f13 f14 f15 f16 f17 f18 f19 tt
  clear f2 f4 f6 f7 f8 f14 f18 f19
  have e160 : PT 160 = P_bc := pe160_18 hp
  have e216 : PT 216 = P_hsX := pe216_18 hp
  have e223 : PT 223 = P_ohX := pe223_18 hp
  simp only [hF0, hF1, hF2, hF10, hF12, hF15, hF16, hF29, hFp_160, hFp_216, hFp_223, e160, e216, e223, P_bc, P_hsX, P_ohX, den_s, den_c, Int.add_zero, List.map_cons, List.map_nil, g2.eq, g3.eq, g4.eq, g5.eq, g6.eq, g14.eq, g15.eq, g19.eq, g20.eq, g21.eq, g22.eq, g23.eq, g24.eq, g25.eq, g26.eq, h7, h8, h10, h11, h12, h13, h15, h16, h19, h20, h21, h23, h24, h25] at f0 f1 f3 f5 f9 f10 f11 f12 f13 f15 f16 f17 ⊢
  subst f0
  subst f1
  subst f3
  subst f5
  subst f9
  subst f10
  subst f11
  obtain ⟨c, a, b, hR, e0, e1, e2, e3⟩ := f17
  have hV := huV_of (by omega) hR e0 e1 e2 e3
  have hc2 : c ≤ 2 := by rcases hV with w | w | w | w <;> omega
  obtain ⟨m1, m2, m3, m4⟩ := huV_m hV (by omega)
  have hb := f15
  rw [m1] at hb
  first
    | (have hn := m3 (by omega)
       refine ⟨fun h => by exfalso; omega, fun _ => ⟨c, a, b, hR, fun q => by exfalso; omega, fun q1 q2 => by exfalso; omega, fun q1 q2 => ?_, fun q1 q2 => by exfalso; omega⟩⟩
       rw [← hn]
       unfold ntF nt16 nt8 nt4 nt2
       (repeat' split) <;> first | rfl | (exfalso; omega))
    | (have hn := m4 (by omega)
       refine ⟨fun h => by exfalso; omega, fun _ => ⟨c, a, b, hR, fun q => by exfalso; omega, fun q1 q2 => by exfalso; omega, fun q1 q2 => by exfalso; omega, fun q1 q2 => ?_⟩⟩
       rw [← hn]
       unfold ntF nt16 nt8 nt4 nt2
       (repeat' split) <;> first | rfl | (exfalso; omega)))
def w_xo_hush_0_25 : VC := ((bT ++ [(0, 0), ((-2147483648), 2147483647), (0, 49), (0, 49), ((-2147483648), 2147483647), (1, 2147483647), ((-2147483648), 2147483647), ((-2147483648), 2147483647), (257, 65536), (17, 2147483647), (5, 2147483647), ((-2147483648), 2147483647), ((-2147483648), 2147483647), ((-2147483648), 2147483647)]), [(16, [(some 27, 0), (none, 15), (some 26, 0)], []), (15, [(some 26, 0), (some 25, 0), (none, 1)], []), (15, [(some 25, 0), (some 24, 0), (none, 2)], []), (2, [(none, 4), (some 24, 0)], []), (15, [(some 24, 0), (some 23, 0), (none, 4)], []), (2, [(none, 16), (some 23, 0)], []), (15, [(some 23, 0), (some 22, 0), (none, 8)], []), (2, [(none, 256), (some 22, 0)], []), (3, [(none, 65536), (some 22, 0)], []), (2, [(none, 0), (some 22, 0)], []), (10, [(some 22, 0), (some 20, 0), (some 21, 0)], []), (29, [(some 21, 0), (some 15, 0), (none, 1)], []), (12, [(some 20, 0), (some 15, 0), (none, (-1))], []), (0, [(some 14, 0), (none, 0)], []), (2, [(some 14, 0), (some 19, 0)], []), (1, [(some 14, 0), (none, (-1))], []), (160, [(some 19, 0), (some 15, 0)], []), (1, [(some 15, 0), (none, (-1))], []), (216, [(some 15, 0), (some 2, 0), (some 3, 0), (some 4, 0), (some 5, 0), (some 6, 0)], [7, 8, 10, 11, 12, 13, 15, 16, 19, 20, 21, 23, 24, 25]), (3, [(none, 1), (some 14, 0)], []), (3, [(some 14, 0), (none, (-1))], [])], (223, [(some 27, 0), (some 14, 0), (some 2, 0), (some 3, 0), (some 4, 0), (some 5, 0), (some 6, 0)], [7, 8, 10, 11, 12, 13, 15, 16, 19, 20, 21, 23, 24, 25]))
set_option maxRecDepth 20000 in
theorem v_xo_hush_0_25 {PT : PTy} (hp : HP18 PT) : vcOk PT w_xo_hush_0_25 := vc_iv [(2, 0, 8), (3, 0, 10), (4, 0, 8), (5, 0, 6), (6, 0, 6), (14, 0, 0), (15, (-2147483648), 2147483647), (19, 1, 2147483647), (20, (-2147483648), 2147483647), (21, (-2147483648), 2147483647), (22, 257, 65536), (23, 17, 2147483647), (24, 5, 2147483647), (25, (-2147483648), 2147483647), (26, (-2147483648), 2147483647), (27, (-2147483648), 2147483647)] [7, 8, 10, 11, 12, 13, 15, 16, 19, 20, 21, 23, 24, 25] (by decide +kernel) (fun ρ α => by
  intro r2 g2 b2 r3 g3 b3 r4 g4 b4 r5 g5 b5 r6 g6 b6 r14 g14 b14 r15 g15 b15 r19 g19 b19 r20 g20 b20 r21 g21 b21 r22 g22 b22 r23 g23 b23 r24 g24 b24 r25 g25 b25 r26 g26 b26 r27 g27 b27 a7 h7 a8 h8 a10 h10 a11 h11 a12 h12 a13 h13 a15 h15 a16 h16 a19 h19 a20 h20 a21 h21 a23 h23 a24 h24 a25 h25 f0 f1 f2 f3 f4 f5 f6 f7 f8 f9 f10 f11 f12 f13 f14 f15 f16 f17 f18 f19 f20 tt
  clear f3 f5 f7 f8 f9 f15 f19 f20
  have e160 : PT 160 = P_bc := pe160_18 hp
  have e216 : PT 216 = P_hsX := pe216_18 hp
  have e223 : PT 223 = P_ohX := pe223_18 hp
  simp only [hF0, hF1, hF2, hF10, hF12, hF15, hF16, hF29, hFp_160, hFp_216, hFp_223, e160, e216, e223, P_bc, P_hsX, P_ohX, den_s, den_c, Int.add_zero, List.map_cons, List.map_nil, g2.eq, g3.eq, g4.eq, g5.eq, g6.eq, g14.eq, g15.eq, g19.eq, g20.eq, g21.eq, g22.eq, g23.eq, g24.eq, g25.eq, g26.eq, g27.eq, h7, h8, h10, h11, h12, h13, h15, h16, h19, h20, h21, h23, h24, h25] at f0 f1 f2 f4 f6 f10 f11 f12 f13 f14 f16 f17 f18 ⊢
  subst f0
  subst f1
  subst f2
  subst f4
  subst f6
  subst f10
  subst f11
  subst f12
  obtain ⟨c, a, b, hR, e0, e1, e2, e3⟩ := f18
  have hV := huV_of (by omega) hR e0 e1 e2 e3
  have hc2 : c ≤ 2 := by rcases hV with w | w | w | w <;> omega
  obtain ⟨m1, m2, m3, m4⟩ := huV_m hV (by omega)
  have hb := f16
  rw [m1] at hb
  first
    | (have hn := m3 (by omega)
       refine ⟨fun h => by exfalso; omega, fun _ => ⟨c, a, b, hR, fun q => by exfalso; omega, fun q1 q2 => by exfalso; omega, fun q1 q2 => ?_, fun q1 q2 => by exfalso; omega⟩⟩
       rw [← hn]
       unfold ntF nt16 nt8 nt4 nt2
       (repeat' split) <;> first | rfl | (exfalso; omega))
    | (have hn := m4 (by omega)
       refine ⟨fun h => by exfalso; omega, fun _ => ⟨c, a, b, hR, fun q => by exfalso; omega, fun q1 q2 => by exfalso; omega, fun q1 q2 => by exfalso; omega, fun q1 q2 => ?_⟩⟩
       rw [← hn]
       unfold ntF nt16 nt8 nt4 nt2
       (repeat' split) <;> first | rfl | (exfalso; omega)))
def w_xo_hush_0_26 : VC := ((bT ++ [(0, 0), ((-2147483648), 2147483647), (0, 49), (0, 49), ((-2147483648), 2147483647), (1, 2147483647), ((-2147483648), 2147483647), ((-2147483648), 2147483647), (65537, 2147483647), (0, 4), ((-2147483648), 2147483647), ((-2147483648), 2147483647)]), [(16, [(some 25, 0), (none, 17), (some 24, 0)], []), (15, [(some 24, 0), (some 23, 0), (none, 1)], []), (3, [(none, 4), (some 23, 0)], []), (3, [(none, 16), (some 23, 0)], []), (3, [(none, 256), (some 23, 0)], []), (15, [(some 23, 0), (some 22, 0), (none, 16)], []), (2, [(none, 65536), (some 22, 0)], []), (2, [(none, 0), (some 22, 0)], []), (10, [(some 22, 0), (some 20, 0), (some 21, 0)], []), (29, [(some 21, 0), (some 15, 0), (none, 1)], []), (12, [(some 20, 0), (some 15, 0), (none, (-1))], []), (0, [(some 14, 0), (none, 0)], []), (2, [(some 14, 0), (some 19, 0)], []), (1, [(some 14, 0), (none, (-1))], []), (160, [(some 19, 0), (some 15, 0)], []), (1, [(some 15, 0), (none, (-1))], []), (216, [(some 15, 0), (some 2, 0), (some 3, 0), (some 4, 0), (some 5, 0), (some 6, 0)], [7, 8, 10, 11, 12, 13, 15, 16, 19, 20, 21, 23, 24, 25]), (3, [(none, 1), (some 14, 0)], []), (3, [(some 14, 0), (none, (-1))], [])], (223, [(some 25, 0), (some 14, 0), (some 2, 0), (some 3, 0), (some 4, 0), (some 5, 0), (some 6, 0)], [7, 8, 10, 11, 12, 13, 15, 16, 19, 20, 21, 23, 24, 25]))
set_option maxRecDepth 20000 in
theorem v_xo_hush_0_26 {PT : PTy} (hp : HP18 PT) : vcOk PT w_xo_hush_0_26 := vc_iv [(2, 0, 8), (3, 0, 10), (4, 0, 8), (5, 0, 6), (6, 0, 6), (14, 0, 0), (15, (-2147483648), 2147483647), (19, 1, 2147483647), (20, (-2147483648), 2147483647), (21, (-2147483648), 2147483647), (22, 65537, 2147483647), (23, 0, 4), (24, (-2147483648), 2147483647), (25, (-2147483648), 2147483647)] [7, 8, 10, 11, 12, 13, 15, 16, 19, 20, 21, 23, 24, 25] (by decide +kernel) (fun ρ α => by
  intro r2 g2 b2 r3 g3 b3 r4 g4 b4 r5 g5 b5 r6 g6 b6 r14 g14 b14 r15 g15 b15 r19 g19 b19 r20 g20 b20 r21 g21 b21 r22 g22 b22 r23 g23 b23 r24 g24 b24 r25 g25 b25 a7 h7 a8 h8 a10 h10 a11 h11 a12 h12 a13 h13 a15 h15 a16 h16 a19 h19 a20 h20 a21 h21 a23 h23 a24 h24 a25 h25 f0 f1 f2 f3 f4 f5 f6 f7 f8 f9 f10 f11 f12 f13 f14 f15 f16 f17 f18 tt
  clear f2 f3 f4 f6 f7 f13 f17 f18
  have e160 : PT 160 = P_bc := pe160_18 hp
  have e216 : PT 216 = P_hsX := pe216_18 hp
  have e223 : PT 223 = P_ohX := pe223_18 hp
  simp only [hF0, hF1, hF2, hF10, hF12, hF15, hF16, hF29, hFp_160, hFp_216, hFp_223, e160, e216, e223, P_bc, P_hsX, P_ohX, den_s, den_c, Int.add_zero, List.map_cons, List.map_nil, g2.eq, g3.eq, g4.eq, g5.eq, g6.eq, g14.eq, g15.eq, g19.eq, g20.eq, g21.eq, g22.eq, g23.eq, g24.eq, g25.eq, h7, h8, h10, h11, h12, h13, h15, h16, h19, h20, h21, h23, h24, h25] at f0 f1 f5 f8 f9 f10 f11 f12 f14 f15 f16 ⊢
  subst f0
  subst f1
  subst f5
  subst f8
  subst f9
  subst f10
  obtain ⟨c, a, b, hR, e0, e1, e2, e3⟩ := f16
  have hV := huV_of (by omega) hR e0 e1 e2 e3
  have hc2 : c ≤ 2 := by rcases hV with w | w | w | w <;> omega
  obtain ⟨m1, m2, m3, m4⟩ := huV_m hV (by omega)
  have hb := f14
  rw [m1] at hb
  first
    | (have hn := m3 (by omega)
       refine ⟨fun h => by exfalso; omega, fun _ => ⟨c, a, b, hR, fun q => by exfalso; omega, fun q1 q2 => by exfalso; omega, fun q1 q2 => ?_, fun q1 q2 => by exfalso; omega⟩⟩
       rw [← hn]
       unfold ntF nt16 nt8 nt4 nt2
       (repeat' split) <;> first | rfl | (exfalso; omega))
    | (have hn := m4 (by omega)
       refine ⟨fun h => by exfalso; omega, fun _ => ⟨c, a, b, hR, fun q => by exfalso; omega, fun q1 q2 => by exfalso; omega, fun q1 q2 => by exfalso; omega, fun q1 q2 => ?_⟩⟩
       rw [← hn]
       unfold ntF nt16 nt8 nt4 nt2
       (repeat' split) <;> first | rfl | (exfalso; omega)))
def w_xo_hush_0_27 : VC := ((bT ++ [(0, 0), ((-2147483648), 2147483647), (0, 49), (0, 49), ((-2147483648), 2147483647), (1, 2147483647), ((-2147483648), 2147483647), ((-2147483648), 2147483647), (65537, 2147483647), (5, 16), ((-2147483648), 2147483647), ((-2147483648), 2147483647), ((-2147483648), 2147483647)]), [(16, [(some 26, 0), (none, 19), (some 25, 0)], []), (15, [(some 25, 0), (some 24, 0), (none, 1)], []), (15, [(some 24, 0), (some 23, 0), (none, 2)], []), (2, [(none, 4), (some 23, 0)], []), (3, [(none, 16), (some 23, 0)], []), (3, [(none, 256), (some 23, 0)], []), (15, [(some 23, 0), (some 22, 0), (none, 16)], []), (2, [(none, 65536), (some 22, 0)], []), (2, [(none, 0), (some 22, 0)], []), (10, [(some 22, 0), (some 20, 0), (some 21, 0)], []), (29, [(some 21, 0), (some 15, 0), (none, 1)], []), (12, [(some 20, 0), (some 15, 0), (none, (-1))], []), (0, [(some 14, 0), (none, 0)], []), (2, [(some 14, 0), (some 19, 0)], []), (1, [(some 14, 0), (none, (-1))], []), (160, [(some 19, 0), (some 15, 0)], []), (1, [(some 15, 0), (none, (-1))], []), (216, [(some 15, 0), (some 2, 0), (some 3, 0), (some 4, 0), (some 5, 0), (some 6, 0)], [7, 8, 10, 11, 12, 13, 15, 16, 19, 20, 21, 23, 24, 25]), (3, [(none, 1), (some 14, 0)], []), (3, [(some 14, 0), (none, (-1))], [])], (223, [(some 26, 0), (some 14, 0), (some 2, 0), (some 3, 0), (some 4, 0), (some 5, 0), (some 6, 0)], [7, 8, 10, 11, 12, 13, 15, 16, 19, 20, 21, 23, 24, 25]))
set_option maxRecDepth 20000 in
theorem v_xo_hush_0_27 {PT : PTy} (hp : HP18 PT) : vcOk PT w_xo_hush_0_27 := vc_iv [(2, 0, 8), (3, 0, 10), (4, 0, 8), (5, 0, 6), (6, 0, 6), (14, 0, 0), (15, (-2147483648), 2147483647), (19, 1, 2147483647), (20, (-2147483648), 2147483647), (21, (-2147483648), 2147483647), (22, 65537, 2147483647), (23, 5, 16), (24, (-2147483648), 2147483647), (25, (-2147483648), 2147483647), (26, (-2147483648), 2147483647)] [7, 8, 10, 11, 12, 13, 15, 16, 19, 20, 21, 23, 24, 25] (by decide +kernel) (fun ρ α => by
  intro r2 g2 b2 r3 g3 b3 r4 g4 b4 r5 g5 b5 r6 g6 b6 r14 g14 b14 r15 g15 b15 r19 g19 b19 r20 g20 b20 r21 g21 b21 r22 g22 b22 r23 g23 b23 r24 g24 b24 r25 g25 b25 r26 g26 b26 a7 h7 a8 h8 a10 h10 a11 h11 a12 h12 a13 h13 a15 h15 a16 h16 a19 h19 a20 h20 a21 h21 a23 h23 a24 h24 a25 h25 f0 f1 f2 f3 f4 f5 f6 f7 f8 f9 f10 f11 f12 f13 f14 f15 f16 f17 f18 f19 tt
  clear f3 f4 f5 f7 f8 f14 f18 f19
  have e160 : PT 160 = P_bc := pe160_18 hp
  have e216 : PT 216 = P_hsX := pe216_18 hp
  have e223 : PT 223 = P_ohX := pe223_18 hp
  simp only [hF0, hF1, hF2, hF10, hF12, hF15, hF16, hF29, hFp_160, hFp_216, hFp_223, e160, e216, e223, P_bc, P_hsX, P_ohX, den_s, den_c, Int.add_zero, List.map_cons, List.map_nil, g2.eq, g3.eq, g4.eq, g5.eq, g6.eq, g14.eq, g15.eq, g19.eq, g20.eq, g21.eq, g22.eq, g23.eq, g24.eq, g25.eq, g26.eq, h7, h8, h10, h11, h12, h13, h15, h16, h19, h20, h21, h23, h24, h25] at f0 f1 f2 f6 f9 f10 f11 f12 f13 f15 f16 f17 ⊢
  subst f0
  subst f1
  subst f2
  subst f6
  subst f9
  subst f10
  subst f11
  obtain ⟨c, a, b, hR, e0, e1, e2, e3⟩ := f17
  have hV := huV_of (by omega) hR e0 e1 e2 e3
  have hc2 : c ≤ 2 := by rcases hV with w | w | w | w <;> omega
  obtain ⟨m1, m2, m3, m4⟩ := huV_m hV (by omega)
  have hb := f15
  rw [m1] at hb
  first
    | (have hn := m3 (by omega)
       refine ⟨fun h => by exfalso; omega, fun _ => ⟨c, a, b, hR, fun q => by exfalso; omega, fun q1 q2 => by exfalso; omega, fun q1 q2 => ?_, fun q1 q2 => by exfalso; omega⟩⟩
       rw [← hn]
       unfold ntF nt16 nt8 nt4 nt2
       (repeat' split) <;> first | rfl | (exfalso; omega))
    | (have hn := m4 (by omega)
       refine ⟨fun h => by exfalso; omega, fun _ => ⟨c, a, b, hR, fun q => by exfalso; omega, fun q1 q2 => by exfalso; omega, fun q1 q2 => by exfalso; omega, fun q1 q2 => ?_⟩⟩
       rw [← hn]
       unfold ntF nt16 nt8 nt4 nt2
       (repeat' split) <;> first | rfl | (exfalso; omega)))
def w_xo_hush_0_28 : VC := ((bT ++ [(0, 0), ((-2147483648), 2147483647), (0, 49), (0, 49), ((-2147483648), 2147483647), (1, 2147483647), ((-2147483648), 2147483647), ((-2147483648), 2147483647), (65537, 2147483647), (17, 256), ((-2147483648), 4), ((-2147483648), 2147483647), ((-2147483648), 2147483647)]), [(16, [(some 26, 0), (none, 21), (some 25, 0)], []), (15, [(some 25, 0), (some 24, 0), (none, 1)], []), (3, [(none, 4), (some 24, 0)], []), (15, [(some 24, 0), (some 23, 0), (none, 4)], []), (2, [(none, 16), (some 23, 0)], []), (3, [(none, 256), (some 23, 0)], []), (15, [(some 23, 0), (some 22, 0), (none, 16)], []), (2, [(none, 65536), (some 22, 0)], []), (2, [(none, 0), (some 22, 0)], []), (10, [(some 22, 0), (some 20, 0), (some 21, 0)], []), (29, [(some 21, 0), (some 15, 0), (none, 1)], []), (12, [(some 20, 0), (some 15, 0), (none, (-1))], []), (0, [(some 14, 0), (none, 0)], []), (2, [(some 14, 0), (some 19, 0)], []), (1, [(some 14, 0), (none, (-1))], []), (160, [(some 19, 0), (some 15, 0)], []), (1, [(some 15, 0), (none, (-1))], []), (216, [(some 15, 0), (some 2, 0), (some 3, 0), (some 4, 0), (some 5, 0), (some 6, 0)], [7, 8, 10, 11, 12, 13, 15, 16, 19, 20, 21, 23, 24, 25]), (3, [(none, 1), (some 14, 0)], []), (3, [(some 14, 0), (none, (-1))], [])], (223, [(some 26, 0), (some 14, 0), (some 2, 0), (some 3, 0), (some 4, 0), (some 5, 0), (some 6, 0)], [7, 8, 10, 11, 12, 13, 15, 16, 19, 20, 21, 23, 24, 25]))
set_option maxRecDepth 20000 in
theorem v_xo_hush_0_28 {PT : PTy} (hp : HP18 PT) : vcOk PT w_xo_hush_0_28 := vc_iv [(2, 0, 8), (3, 0, 10), (4, 0, 8), (5, 0, 6), (6, 0, 6), (14, 0, 0), (15, (-2147483648), 2147483647), (19, 1, 2147483647), (20, (-2147483648), 2147483647), (21, (-2147483648), 2147483647), (22, 65537, 2147483647), (23, 17, 256), (24, (-2147483648), 4), (25, (-2147483648), 2147483647), (26, (-2147483648), 2147483647)] [7, 8, 10, 11, 12, 13, 15, 16, 19, 20, 21, 23, 24, 25] (by decide +kernel) (fun ρ α => by
  intro r2 g2 b2 r3 g3 b3 r4 g4 b4 r5 g5 b5 r6 g6 b6 r14 g14 b14 r15 g15 b15 r19 g19 b19 r20 g20 b20 r21 g21 b21 r22 g22 b22 r23 g23 b23 r24 g24 b24 r25 g25 b25 r26 g26 b26 a7 h7 a8 h8 a10 h10 a11 h11 a12 h12 a13 h13 a15 h15 a16 h16 a19 h19 a20 h20 a21 h21 a23 h23 a24 h24 a25 h25 f0 f1 f2 f3 f4 f5 f6 f7 f8 f9 f10 f11 f12 f13 f14 f15 f16 f17 f18 f19 tt
  clear f2 f4 f5 f7 f8 f14 f18 f19
  have e160 : PT 160 = P_bc := pe160_18 hp
  have e216 : PT 216 = P_hsX := pe216_18 hp
  have e223 : PT 223 = P_ohX := pe223_18 hp
  simp only [hF0, hF1, hF2, hF10, hF12, hF15, hF16, hF29, hFp_160, hFp_216, hFp_223, e160, e216, e223, P_bc, P_hsX, P_ohX, den_s, den_c, Int.add_zero, List.map_cons, List.map_nil, g2.eq, g3.eq, g4.eq, g5.eq, g6.eq, g14.eq, g15.eq, g19.eq, g20.eq, g21.eq, g22.eq, g23.eq, g24.eq, g25.eq, g26.eq, h7, h8, h10, h11, h12, h13, h15, h16, h19, h20, h21, h23, h24, h25] at f0 f1 f3 f6 f9 f10 f11 f12 f13 f15 f16 f17 ⊢
  subst f0
  subst f1
  subst f3
  subst f6
  subst f9
  subst f10
  subst f11
  obtain ⟨c, a, b, hR, e0, e1, e2, e3⟩ := f17
  have hV := huV_of (by omega) hR e0 e1 e2 e3
  have hc2 : c ≤ 2 := by rcases hV with w | w | w | w <;> omega
  obtain ⟨m1, m2, m3, m4⟩ := huV_m hV (by omega)
  have hb := f15
  rw [m1] at hb
  first
    | (have hn := m3 (by omega)
       refine ⟨fun h => by exfalso; omega, fun _ => ⟨c, a, b, hR, fun q => by exfalso; omega, fun q1 q2 => by exfalso; omega, fun q1 q2 => ?_, fun q1 q2 => by exfalso; omega⟩⟩
       rw [← hn]
       unfold ntF nt16 nt8 nt4 nt2
       (repeat' split) <;> first | rfl | (exfalso; omega))
    | (have hn := m4 (by omega)
       refine ⟨fun h => by exfalso; omega, fun _ => ⟨c, a, b, hR, fun q => by exfalso; omega, fun q1 q2 => by exfalso; omega, fun q1 q2 => by exfalso; omega, fun q1 q2 => ?_⟩⟩
       rw [← hn]
       unfold ntF nt16 nt8 nt4 nt2
       (repeat' split) <;> first | rfl | (exfalso; omega)))
def w_xo_hush_0_29 : VC := ((bT ++ [(0, 0), ((-2147483648), 2147483647), (0, 49), (0, 49), ((-2147483648), 2147483647), (1, 2147483647), ((-2147483648), 2147483647), ((-2147483648), 2147483647), (65537, 2147483647), (17, 256), (5, 2147483647), ((-2147483648), 2147483647), ((-2147483648), 2147483647), ((-2147483648), 2147483647)]), [(16, [(some 27, 0), (none, 23), (some 26, 0)], []), (15, [(some 26, 0), (some 25, 0), (none, 1)], []), (15, [(some 25, 0), (some 24, 0), (none, 2)], []), (2, [(none, 4), (some 24, 0)], []), (15, [(some 24, 0), (some 23, 0), (none, 4)], []), (2, [(none, 16), (some 23, 0)], []), (3, [(none, 256), (some 23, 0)], []), (15, [(some 23, 0), (some 22, 0), (none, 16)], []), (2, [(none, 65536), (some 22, 0)], []), (2, [(none, 0), (some 22, 0)], []), (10, [(some 22, 0), (some 20, 0), (some 21, 0)], []), (29, [(some 21, 0), (some 15, 0), (none, 1)], []), (12, [(some 20, 0), (some 15, 0), (none, (-1))], []), (0, [(some 14, 0), (none, 0)], []), (2, [(some 14, 0), (some 19, 0)], []), (1, [(some 14, 0), (none, (-1))], []), (160, [(some 19, 0), (some 15, 0)], []), (1, [(some 15, 0), (none, (-1))], []), (216, [(some 15, 0), (some 2, 0), (some 3, 0), (some 4, 0), (some 5, 0), (some 6, 0)], [7, 8, 10, 11, 12, 13, 15, 16, 19, 20, 21, 23, 24, 25]), (3, [(none, 1), (some 14, 0)], []), (3, [(some 14, 0), (none, (-1))], [])], (223, [(some 27, 0), (some 14, 0), (some 2, 0), (some 3, 0), (some 4, 0), (some 5, 0), (some 6, 0)], [7, 8, 10, 11, 12, 13, 15, 16, 19, 20, 21, 23, 24, 25]))
set_option maxRecDepth 20000 in
theorem v_xo_hush_0_29 {PT : PTy} (hp : HP18 PT) : vcOk PT w_xo_hush_0_29 := vc_iv [(2, 0, 8), (3, 0, 10), (4, 0, 8), (5, 0, 6), (6, 0, 6), (14, 0, 0), (15, (-2147483648), 2147483647), (19, 1, 2147483647), (20, (-2147483648), 2147483647), (21, (-2147483648), 2147483647), (22, 65537, 2147483647), (23, 17, 256), (24, 5, 2147483647), (25, (-2147483648), 2147483647), (26, (-2147483648), 2147483647), (27, (-2147483648), 2147483647)] [7, 8, 10, 11, 12, 13, 15, 16, 19, 20, 21, 23, 24, 25] (by decide +kernel) (fun ρ α => by
  intro r2 g2 b2 r3 g3 b3 r4 g4 b4 r5 g5 b5 r6 g6 b6 r14 g14 b14 r15 g15 b15 r19 g19 b19 r20 g20 b20 r21 g21 b21 r22 g22 b22 r23 g23 b23 r24 g24 b24 r25 g25 b25 r26 g26 b26 r27 g27 b27 a7 h7 a8 h8 a10 h10 a11 h11 a12 h12 a13 h13 a15 h15 a16 h16 a19 h19 a20 h20 a21 h21 a23 h23 a24 h24 a25 h25 f0 f1 f2 f3 f4 f5 f6 f7 f8 f9 f10 f11 f12 f13 f14 f15 f16 f17 f18 f19 f20 tt
  clear f3 f5 f6 f8 f9 f15 f19 f20
  have e160 : PT 160 = P_bc := pe160_18 hp
  have e216 : PT 216 = P_hsX := pe216_18 hp
  have e223 : PT 223 = P_ohX := pe223_18 hp
  simp only [hF0, hF1, hF2, hF10, hF12, hF15, hF16, hF29, hFp_160, hFp_216, hFp_223, e160, e216, e223, P_bc, P_hsX, P_ohX, den_s, den_c, Int.add_zero, List.map_cons, List.map_nil, g2.eq, g3.eq, g4.eq, g5.eq, g6.eq, g14.eq, g15.eq, g19.eq, g20.eq, g21.eq, g22.eq, g23.eq, g24.eq, g25.eq, g26.eq, g27.eq, h7, h8, h10, h11, h12, h13, h15, h16, h19, h20, h21, h23, h24, h25] at f0 f1 f2 f4 f7 f10 f11 f12 f13 f14 f16 f17 f18 ⊢
  subst f0
  subst f1
  subst f2
  subst f4
  subst f7
  subst f10
  subst f11
  subst f12
  obtain ⟨c, a, b, hR, e0, e1, e2, e3⟩ := f18
  have hV := huV_of (by omega) hR e0 e1 e2 e3
  have hc2 : c ≤ 2 := by rcases hV with w | w | w | w <;> omega
  obtain ⟨m1, m2, m3, m4⟩ := huV_m hV (by omega)
  have hb := f16
  rw [m1] at hb
  first
    | (have hn := m3 (by omega)
       refine ⟨fun h => by exfalso; omega, fun _ => ⟨c, a, b, hR, fun q => by exfalso; omega, fun q1 q2 => by exfalso; omega, fun q1 q2 => ?_, fun q1 q2 => by exfalso; omega⟩⟩
       rw [← hn]
       unfold ntF nt16 nt8 nt4 nt2
       (repeat' split) <;> first | rfl | (exfalso; omega))
    | (have hn := m4 (by omega)
       refine ⟨fun h => by exfalso; omega, fun _ => ⟨c, a, b, hR, fun q => by exfalso; omega, fun q1 q2 => by exfalso; omega, fun q1 q2 => by exfalso; omega, fun q1 q2 => ?_⟩⟩
       rw [← hn]
       unfold ntF nt16 nt8 nt4 nt2
       (repeat' split) <;> first | rfl | (exfalso; omega)))
def w_xo_hush_0_30 : VC := ((bT ++ [(0, 0), ((-2147483648), 2147483647), (0, 49), (0, 49), ((-2147483648), 2147483647), (1, 2147483647), ((-2147483648), 2147483647), ((-2147483648), 2147483647), (65537, 2147483647), (257, 65535), ((-2147483648), 4), ((-2147483648), 2147483647), ((-2147483648), 2147483647)]), [(16, [(some 26, 0), (none, 25), (some 25, 0)], []), (15, [(some 25, 0), (some 24, 0), (none, 1)], []), (3, [(none, 4), (some 24, 0)], []), (3, [(none, 16), (some 24, 0)], []), (15, [(some 24, 0), (some 23, 0), (none, 8)], []), (2, [(none, 256), (some 23, 0)], []), (15, [(some 23, 0), (some 22, 0), (none, 16)], []), (2, [(none, 65536), (some 22, 0)], []), (2, [(none, 0), (some 22, 0)], []), (10, [(some 22, 0), (some 20, 0), (some 21, 0)], []), (29, [(some 21, 0), (some 15, 0), (none, 1)], []), (12, [(some 20, 0), (some 15, 0), (none, (-1))], []), (0, [(some 14, 0), (none, 0)], []), (2, [(some 14, 0), (some 19, 0)], []), (1, [(some 14, 0), (none, (-1))], []), (160, [(some 19, 0), (some 15, 0)], []), (1, [(some 15, 0), (none, (-1))], []), (216, [(some 15, 0), (some 2, 0), (some 3, 0), (some 4, 0), (some 5, 0), (some 6, 0)], [7, 8, 10, 11, 12, 13, 15, 16, 19, 20, 21, 23, 24, 25]), (3, [(none, 1), (some 14, 0)], []), (3, [(some 14, 0), (none, (-1))], [])], (223, [(some 26, 0), (some 14, 0), (some 2, 0), (some 3, 0), (some 4, 0), (some 5, 0), (some 6, 0)], [7, 8, 10, 11, 12, 13, 15, 16, 19, 20, 21, 23, 24, 25]))
set_option maxRecDepth 20000 in
theorem v_xo_hush_0_30 {PT : PTy} (hp : HP18 PT) : vcOk PT w_xo_hush_0_30 := vc_iv [(2, 0, 8), (3, 0, 10), (4, 0, 8), (5, 0, 6), (6, 0, 6), (14, 0, 0), (15, (-2147483648), 2147483647), (19, 1, 2147483647), (20, (-2147483648), 2147483647), (21, (-2147483648), 2147483647), (22, 65537, 2147483647), (23, 257, 65535), (24, (-2147483648), 4), (25, (-2147483648), 2147483647), (26, (-2147483648), 2147483647)] [7, 8, 10, 11, 12, 13, 15, 16, 19, 20, 21, 23, 24, 25] (by decide +kernel) (fun ρ α => by
  intro r2 g2 b2 r3 g3 b3 r4 g4 b4 r5 g5 b5 r6 g6 b6 r14 g14 b14 r15 g15 b15 r19 g19 b19 r20 g20 b20 r21 g21 b21 r22 g22 b22 r23 g23 b23 r24 g24 b24 r25 g25 b25 r26 g26 b26 a7 h7 a8 h8 a10 h10 a11 h11 a12 h12 a13 h13 a15 h15 a16 h16 a19 h19 a20 h20 a21 h21 a23 h23 a24 h24 a25 h25 f0 f1 f2 f3 f4 f5 f6 f7 f8 f9 f10 f11 f12 f13 f14 f15 f16 f17 f18 f19 tt
  clear f2 f3 f5 f7 f8 f14 f18 f19
  have e160 : PT 160 = P_bc := pe160_18 hp
  have e216 : PT 216 = P_hsX := pe216_18 hp
  have e223 : PT 223 = P_ohX := pe223_18 hp
  simp only [hF0, hF1, hF2, hF10, hF12, hF15, hF16, hF29, hFp_160, hFp_216, hFp_223, e160, e216, e223, P_bc, P_hsX, P_ohX, den_s, den_c, Int.add_zero, List.map_cons, List.map_nil, g2.eq, g3.eq, g4.eq, g5.eq, g6.eq, g14.eq, g15.eq, g19.eq, g20.eq, g21.eq, g22.eq, g23.eq, g24.eq, g25.eq, g26.eq, h7, h8, h10, h11, h12, h13, h15, h16, h19, h20, h21, h23, h24, h25] at f0 f1 f4 f6 f9 f10 f11 f12 f13 f15 f16 f17 ⊢
  subst f0
  subst f1
  subst f4
  subst f6
  subst f9
  subst f10
  subst f11
  obtain ⟨c, a, b, hR, e0, e1, e2, e3⟩ := f17
  have hV := huV_of (by omega) hR e0 e1 e2 e3
  have hc2 : c ≤ 2 := by rcases hV with w | w | w | w <;> omega
  obtain ⟨m1, m2, m3, m4⟩ := huV_m hV (by omega)
  have hb := f15
  rw [m1] at hb
  first
    | (have hn := m3 (by omega)
       refine ⟨fun h => by exfalso; omega, fun _ => ⟨c, a, b, hR, fun q => by exfalso; omega, fun q1 q2 => by exfalso; omega, fun q1 q2 => ?_, fun q1 q2 => by exfalso; omega⟩⟩
       rw [← hn]
       unfold ntF nt16 nt8 nt4 nt2
       (repeat' split) <;> first | rfl | (exfalso; omega))
    | (have hn := m4 (by omega)
       refine ⟨fun h => by exfalso; omega, fun _ => ⟨c, a, b, hR, fun q => by exfalso; omega, fun q1 q2 => by exfalso; omega, fun q1 q2 => by exfalso; omega, fun q1 q2 => ?_⟩⟩
       rw [← hn]
       unfold ntF nt16 nt8 nt4 nt2
       (repeat' split) <;> first | rfl | (exfalso; omega)))
def w_xo_hush_0_31 : VC := ((bT ++ [(0, 0), ((-2147483648), 2147483647), (0, 49), (0, 49), ((-2147483648), 2147483647), (1, 2147483647), ((-2147483648), 2147483647), ((-2147483648), 2147483647), (65537, 2147483647), (257, 65535), (5, 16), ((-2147483648), 2147483647), ((-2147483648), 2147483647), ((-2147483648), 2147483647)]), [(16, [(some 27, 0), (none, 27), (some 26, 0)], []), (15, [(some 26, 0), (some 25, 0), (none, 1)], []), (15, [(some 25, 0), (some 24, 0), (none, 2)], []), (2, [(none, 4), (some 24, 0)], []), (3, [(none, 16), (some 24, 0)], []), (15, [(some 24, 0), (some 23, 0), (none, 8)], []), (2, [(none, 256), (some 23, 0)], []), (15, [(some 23, 0), (some 22, 0), (none, 16)], []), (2, [(none, 65536), (some 22, 0)], []), (2, [(none, 0), (some 22, 0)], []), (10, [(some 22, 0), (some 20, 0), (some 21, 0)], []), (29, [(some 21, 0), (some 15, 0), (none, 1)], []), (12, [(some 20, 0), (some 15, 0), (none, (-1))], []), (0, [(some 14, 0), (none, 0)], []), (2, [(some 14, 0), (some 19, 0)], []), (1, [(some 14, 0), (none, (-1))], []), (160, [(some 19, 0), (some 15, 0)], []), (1, [(some 15, 0), (none, (-1))], []), (216, [(some 15, 0), (some 2, 0), (some 3, 0), (some 4, 0), (some 5, 0), (some 6, 0)], [7, 8, 10, 11, 12, 13, 15, 16, 19, 20, 21, 23, 24, 25]), (3, [(none, 1), (some 14, 0)], []), (3, [(some 14, 0), (none, (-1))], [])], (223, [(some 27, 0), (some 14, 0), (some 2, 0), (some 3, 0), (some 4, 0), (some 5, 0), (some 6, 0)], [7, 8, 10, 11, 12, 13, 15, 16, 19, 20, 21, 23, 24, 25]))
set_option maxRecDepth 20000 in
theorem v_xo_hush_0_31 {PT : PTy} (hp : HP18 PT) : vcOk PT w_xo_hush_0_31 := vc_iv [(2, 0, 8), (3, 0, 10), (4, 0, 8), (5, 0, 6), (6, 0, 6), (14, 0, 0), (15, (-2147483648), 2147483647), (19, 1, 2147483647), (20, (-2147483648), 2147483647), (21, (-2147483648), 2147483647), (22, 65537, 2147483647), (23, 257, 65535), (24, 5, 16), (25, (-2147483648), 2147483647), (26, (-2147483648), 2147483647), (27, (-2147483648), 2147483647)] [7, 8, 10, 11, 12, 13, 15, 16, 19, 20, 21, 23, 24, 25] (by decide +kernel) (fun ρ α => by
  intro r2 g2 b2 r3 g3 b3 r4 g4 b4 r5 g5 b5 r6 g6 b6 r14 g14 b14 r15 g15 b15 r19 g19 b19 r20 g20 b20 r21 g21 b21 r22 g22 b22 r23 g23 b23 r24 g24 b24 r25 g25 b25 r26 g26 b26 r27 g27 b27 a7 h7 a8 h8 a10 h10 a11 h11 a12 h12 a13 h13 a15 h15 a16 h16 a19 h19 a20 h20 a21 h21 a23 h23 a24 h24 a25 h25 f0 f1 f2 f3 f4 f5 f6 f7 f8 f9 f10 f11 f12 f13 f14 f15 f16 f17 f18 f19 f20 tt
  clear f3 f4 f6 f8 f9 f15 f19 f20
  have e160 : PT 160 = P_bc := pe160_18 hp
  have e216 : PT 216 = P_hsX := pe216_18 hp
  have e223 : PT 223 = P_ohX := pe223_18 hp
  simp only [hF0, hF1, hF2, hF10, hF12, hF15, hF16, hF29, hFp_160, hFp_216, hFp_223, e160, e216, e223, P_bc, P_hsX, P_ohX, den_s, den_c, Int.add_zero, List.map_cons, List.map_nil, g2.eq, g3.eq, g4.eq, g5.eq, g6.eq, g14.eq, g15.eq, g19.eq, g20.eq, g21.eq, g22.eq, g23.eq, g24.eq, g25.eq, g26.eq, g27.eq, h7, h8, h10, h11, h12, h13, h15, h16, h19, h20, h21, h23, h24, h25] at f0 f1 f2 f5 f7 f10 f11 f12 f13 f14 f16 f17 f18 ⊢
  subst f0
  subst f1
  subst f2
  subst f5
  subst f7
  subst f10
  subst f11
  subst f12
  obtain ⟨c, a, b, hR, e0, e1, e2, e3⟩ := f18
  have hV := huV_of (by omega) hR e0 e1 e2 e3
  have hc2 : c ≤ 2 := by rcases hV with w | w | w | w <;> omega
  obtain ⟨m1, m2, m3, m4⟩ := huV_m hV (by omega)
  have hb := f16
  rw [m1] at hb
  first
    | (have hn := m3 (by omega)
       refine ⟨fun h => by exfalso; omega, fun _ => ⟨c, a, b, hR, fun q => by exfalso; omega, fun q1 q2 => by exfalso; omega, fun q1 q2 => ?_, fun q1 q2 => by exfalso; omega⟩⟩
       rw [← hn]
       unfold ntF nt16 nt8 nt4 nt2
       (repeat' split) <;> first | rfl | (exfalso; omega))
    | (have hn := m4 (by omega)
       refine ⟨fun h => by exfalso; omega, fun _ => ⟨c, a, b, hR, fun q => by exfalso; omega, fun q1 q2 => by exfalso; omega, fun q1 q2 => by exfalso; omega, fun q1 q2 => ?_⟩⟩
       rw [← hn]
       unfold ntF nt16 nt8 nt4 nt2
       (repeat' split) <;> first | rfl | (exfalso; omega)))
def w_xo_hush_0_32 : VC := ((bT ++ [(0, 0), ((-2147483648), 2147483647), (0, 49), (0, 49), ((-2147483648), 2147483647), (1, 2147483647), ((-2147483648), 2147483647), ((-2147483648), 2147483647), (65537, 2147483647), (257, 65535), (17, 2147483647), ((-2147483648), 4), ((-2147483648), 2147483647), ((-2147483648), 2147483647)]), [(16, [(some 27, 0), (none, 29), (some 26, 0)], []), (15, [(some 26, 0), (some 25, 0), (none, 1)], []), (3, [(none, 4), (some 25, 0)], []), (15, [(some 25, 0), (some 24, 0), (none, 4)], []), (2, [(none, 16), (some 24, 0)], []), (15, [(some 24, 0), (some 23, 0), (none, 8)], []), (2, [(none, 256), (some 23, 0)], []), (15, [(some 23, 0), (some 22, 0), (none, 16)], []), (2, [(none, 65536), (some 22, 0)], []), (2, [(none, 0), (some 22, 0)], []), (10, [(some 22, 0), (some 20, 0), (some 21, 0)], []), (29, [(some 21, 0), (some 15, 0), (none, 1)], []), (12, [(some 20, 0), (some 15, 0), (none, (-1))], []), (0, [(some 14, 0), (none, 0)], []), (2, [(some 14, 0), (some 19, 0)], []), (1, [(some 14, 0), (none, (-1))], []), (160, [(some 19, 0), (some 15, 0)], []), (1, [(some 15, 0), (none, (-1))], []), (216, [(some 15, 0), (some 2, 0), (some 3, 0), (some 4, 0), (some 5, 0), (some 6, 0)], [7, 8, 10, 11, 12, 13, 15, 16, 19, 20, 21, 23, 24, 25]), (3, [(none, 1), (some 14, 0)], []), (3, [(some 14, 0), (none, (-1))], [])], (223, [(some 27, 0), (some 14, 0), (some 2, 0), (some 3, 0), (some 4, 0), (some 5, 0), (some 6, 0)], [7, 8, 10, 11, 12, 13, 15, 16, 19, 20, 21, 23, 24, 25]))
set_option maxRecDepth 20000 in
theorem v_xo_hush_0_32 {PT : PTy} (hp : HP18 PT) : vcOk PT w_xo_hush_0_32 := vc_iv [(2, 0, 8), (3, 0, 10), (4, 0, 8), (5, 0, 6), (6, 0, 6), (14, 0, 0), (15, (-2147483648), 2147483647), (19, 1, 2147483647), (20, (-2147483648), 2147483647), (21, (-2147483648), 2147483647), (22, 65537, 2147483647), (23, 257, 65535), (24, 17, 2147483647), (25, (-2147483648), 4), (26, (-2147483648), 2147483647), (27, (-2147483648), 2147483647)] [7, 8, 10, 11, 12, 13, 15, 16, 19, 20, 21, 23, 24, 25] (by decide +kernel) (fun ρ α => by
  intro r2 g2 b2 r3 g3 b3 r4 g4 b4 r5 g5 b5 r6 g6 b6 r14 g14 b14 r15 g15 b15 r19 g19 b19 r20 g20 b20 r21 g21 b21 r22 g22 b22 r23 g23 b23 r24 g24 b24 r25 g25 b25 r26 g26 b26 r27 g27 b27 a7 h7 a8 h8 a10 h10 a11 h11 a12 h12 a13 h13 a15 h15 a16 h16 a19 h19 a20 h20 a21 h21 a23 h23 a24 h24 a25 h25 f0 f1 f2 f3 f4 f5 f6 f7 f8 f9 f10 f11 f12 f13 f14 f15 f16 f17 f18 f19 f20 tt
  clear f2 f4 f6 f8 f9 f15 f19 f20
  have e160 : PT 160 = P_bc := pe160_18 hp
  have e216 : PT 216 = P_hsX := pe216_18 hp
  have e223 : PT 223 = P_ohX := pe223_18 hp
  simp only [hF0, hF1, hF2, hF10, hF12, hF15, hF16, hF29, hFp_160, hFp_216, hFp_223, e160, e216, e223, P_bc, P_hsX, P_ohX, den_s, den_c, Int.add_zero, List.map_cons, List.map_nil, g2.eq, g3.eq, g4.eq, g5.eq, g6.eq, g14.eq, g15.eq, g19.eq, g20.eq, g21.eq, g22.eq, g23.eq, g24.eq, g25.eq, g26.eq, g27.eq, h7, h8, h10, h11, h12, h13, h15, h16, h19, h20, h21, h23, h24, h25] at f0 f1 f3 f5 f7 f10 f11 f12 f13 f14 f16 f17 f18 ⊢
  subst f0
  subst f1
  subst f3
  subst f5
  subst f7
  subst f10
  subst f11
  subst f12
  obtain ⟨c, a, b, hR, e0, e1, e2, e3⟩ := f18
  have hV := huV_of (by omega) hR e0 e1 e2 e3
  have hc2 : c ≤ 2 := by rcases hV with w | w | w | w <;> omega
  obtain ⟨m1, m2, m3, m4⟩ := huV_m hV (by omega)
  have hb := f16
  rw [m1] at hb
  first
    | (have hn := m3 (by omega)
       refine ⟨fun h => by exfalso; omega, fun _ => ⟨c, a, b, hR, fun q => by exfalso; omega, fun q1 q2 => by exfalso; omega, fun q1 q2 => ?_, fun q1 q2 => by exfalso; omega⟩⟩
       rw [← hn]
       unfold ntF nt16 nt8 nt4 nt2
       (repeat' split) <;> first | rfl | (exfalso; omega))
    | (have hn := m4 (by omega)
       refine ⟨fun h => by exfalso; omega, fun _ => ⟨c, a, b, hR, fun q => by exfalso; omega, fun q1 q2 => by exfalso; omega, fun q1 q2 => by exfalso; omega, fun q1 q2 => ?_⟩⟩
       rw [← hn]
       unfold ntF nt16 nt8 nt4 nt2
       (repeat' split) <;> first | rfl | (exfalso; omega)))
def w_xo_hush_0_33 : VC := ((bT ++ [(0, 0), ((-2147483648), 2147483647), (0, 49), (0, 49), ((-2147483648), 2147483647), (1, 2147483647), ((-2147483648), 2147483647), ((-2147483648), 2147483647), (65537, 2147483647), (257, 65535), (17, 2147483647), (5, 2147483647), ((-2147483648), 2147483647), ((-2147483648), 2147483647), ((-2147483648), 2147483647)]), [(16, [(some 28, 0), (none, 31), (some 27, 0)], []), (15, [(some 27, 0), (some 26, 0), (none, 1)], []), (15, [(some 26, 0), (some 25, 0), (none, 2)], []), (2, [(none, 4), (some 25, 0)], []), (15, [(some 25, 0), (some 24, 0), (none, 4)], []), (2, [(none, 16), (some 24, 0)], []), (15, [(some 24, 0), (some 23, 0), (none, 8)], []), (2, [(none, 256), (some 23, 0)], []), (15, [(some 23, 0), (some 22, 0), (none, 16)], []), (2, [(none, 65536), (some 22, 0)], []), (2, [(none, 0), (some 22, 0)], []), (10, [(some 22, 0), (some 20, 0), (some 21, 0)], []), (29, [(some 21, 0), (some 15, 0), (none, 1)], []), (12, [(some 20, 0), (some 15, 0), (none, (-1))], []), (0, [(some 14, 0), (none, 0)], []), (2, [(some 14, 0), (some 19, 0)], []), (1, [(some 14, 0), (none, (-1))], []), (160, [(some 19, 0), (some 15, 0)], []), (1, [(some 15, 0), (none, (-1))], []), (216, [(some 15, 0), (some 2, 0), (some 3, 0), (some 4, 0), (some 5, 0), (some 6, 0)], [7, 8, 10, 11, 12, 13, 15, 16, 19, 20, 21, 23, 24, 25]), (3, [(none, 1), (some 14, 0)], []), (3, [(some 14, 0), (none, (-1))], [])], (223, [(some 28, 0), (some 14, 0), (some 2, 0), (some 3, 0), (some 4, 0), (some 5, 0), (some 6, 0)], [7, 8, 10, 11, 12, 13, 15, 16, 19, 20, 21, 23, 24, 25]))
set_option maxRecDepth 20000 in
theorem v_xo_hush_0_33 {PT : PTy} (hp : HP18 PT) : vcOk PT w_xo_hush_0_33 := vc_iv [(2, 0, 8), (3, 0, 10), (4, 0, 8), (5, 0, 6), (6, 0, 6), (14, 0, 0), (15, (-2147483648), 2147483647), (19, 1, 2147483647), (20, (-2147483648), 2147483647), (21, (-2147483648), 2147483647), (22, 65537, 2147483647), (23, 257, 65535), (24, 17, 2147483647), (25, 5, 2147483647), (26, (-2147483648), 2147483647), (27, (-2147483648), 2147483647), (28, (-2147483648), 2147483647)] [7, 8, 10, 11, 12, 13, 15, 16, 19, 20, 21, 23, 24, 25] (by decide +kernel) (fun ρ α => by
  intro r2 g2 b2 r3 g3 b3 r4 g4 b4 r5 g5 b5 r6 g6 b6 r14 g14 b14 r15 g15 b15 r19 g19 b19 r20 g20 b20 r21 g21 b21 r22 g22 b22 r23 g23 b23 r24 g24 b24 r25 g25 b25 r26 g26 b26 r27 g27 b27 r28 g28 b28 a7 h7 a8 h8 a10 h10 a11 h11 a12 h12 a13 h13 a15 h15 a16 h16 a19 h19 a20 h20 a21 h21 a23 h23 a24 h24 a25 h25 f0 f1 f2 f3 f4 f5 f6 f7 f8 f9 f10 f11 f12 f13 f14 f15 f16 f17 f18 f19 f20 f21 tt
  clear f3 f5 f7 f9 f10 f16 f20 f21
  have e160 : PT 160 = P_bc := pe160_18 hp
  have e216 : PT 216 = P_hsX := pe216_18 hp
  have e223 : PT 223 = P_ohX := pe223_18 hp
  simp only [hF0, hF1, hF2, hF10, hF12, hF15, hF16, hF29, hFp_160, hFp_216, hFp_223, e160, e216, e223, P_bc, P_hsX, P_ohX, den_s, den_c, Int.add_zero, List.map_cons, List.map_nil, g2.eq, g3.eq, g4.eq, g5.eq, g6.eq, g14.eq, g15.eq, g19.eq, g20.eq, g21.eq, g22.eq, g23.eq, g24.eq, g25.eq, g26.eq, g27.eq, g28.eq, h7, h8, h10, h11, h12, h13, h15, h16, h19, h20, h21, h23, h24, h25] at f0 f1 f2 f4 f6 f8 f11 f12 f13 f14 f15 f17 f18 f19 ⊢
  subst f0
  subst f1
  subst f2
  subst f4
  subst f6
  subst f8
  subst f11
  subst f12
  subst f13
  obtain ⟨c, a, b, hR, e0, e1, e2, e3⟩ := f19
  have hV := huV_of (by omega) hR e0 e1 e2 e3
  have hc2 : c ≤ 2 := by rcases hV with w | w | w | w <;> omega
  obtain ⟨m1, m2, m3, m4⟩ := huV_m hV (by omega)
  have hb := f17
  rw [m1] at hb
  first
    | (have hn := m3 (by omega)
       refine ⟨fun h => by exfalso; omega, fun _ => ⟨c, a, b, hR, fun q => by exfalso; omega, fun q1 q2 => by exfalso; omega, fun q1 q2 => ?_, fun q1 q2 => by exfalso; omega⟩⟩
       rw [← hn]
       unfold ntF nt16 nt8 nt4 nt2
       (repeat' split) <;> first | rfl | (exfalso; omega))
    | (have hn := m4 (by omega)
       refine ⟨fun h => by exfalso; omega, fun _ => ⟨c, a, b, hR, fun q => by exfalso; omega, fun q1 q2 => by exfalso; omega, fun q1 q2 => by exfalso; omega, fun q1 q2 => ?_⟩⟩
       rw [← hn]
       unfold ntF nt16 nt8 nt4 nt2
       (repeat' split) <;> first | rfl | (exfalso; omega)))
def w_xo_hush_0_34 : VC := ((bT ++ [(0, 0), ((-2147483648), 2147483647), (0, 49), (0, 49), ((-2147483648), 2147483647), (1, 2147483647), ((-2147483648), 2147483647), ((-2147483648), 2147483647), ((-2147483648), 0), ((-2147483648), 2147483647)]), [(10, [(some 23, 0), (some 22, 0), (none, 32)], []), (3, [(none, 0), (some 22, 0)], []), (10, [(some 22, 0), (some 20, 0), (some 21, 0)], []), (29, [(some 21, 0), (some 15, 0), (none, 1)], []), (12, [(some 20, 0), (some 15, 0), (none, (-1))], []), (0, [(some 14, 0), (none, 0)], []), (2, [(some 14, 0), (some 19, 0)], []), (1, [(some 14, 0), (none, (-1))], []), (160, [(some 19, 0), (some 15, 0)], []), (1, [(some 15, 0), (none, (-1))], []), (216, [(some 15, 0), (some 2, 0), (some 3, 0), (some 4, 0), (some 5, 0), (some 6, 0)], [7, 8, 10, 11, 12, 13, 15, 16, 19, 20, 21, 23, 24, 25]), (3, [(none, 1), (some 14, 0)], []), (3, [(some 14, 0), (none, (-1))], [])], (223, [(some 23, 0), (some 14, 0), (some 2, 0), (some 3, 0), (some 4, 0), (some 5, 0), (some 6, 0)], [7, 8, 10, 11, 12, 13, 15, 16, 19, 20, 21, 23, 24, 25]))
set_option maxRecDepth 20000 in
theorem v_xo_hush_0_34 {PT : PTy} (hp : HP18 PT) : vcOk PT w_xo_hush_0_34 := vc_iv [(2, 0, 8), (3, 0, 10), (4, 0, 8), (5, 0, 6), (6, 0, 6), (14, 0, 0), (15, (-2147483648), 2147483647), (19, 1, 2147483647), (20, (-2147483648), 2147483647), (21, (-2147483648), 2147483647), (22, (-2147483648), 0), (23, (-2147483648), 2147483647)] [7, 8, 10, 11, 12, 13, 15, 16, 19, 20, 21, 23, 24, 25] (by decide +kernel) (fun ρ α => by
  intro r2 g2 b2 r3 g3 b3 r4 g4 b4 r5 g5 b5 r6 g6 b6 r14 g14 b14 r15 g15 b15 r19 g19 b19 r20 g20 b20 r21 g21 b21 r22 g22 b22 r23 g23 b23 a7 h7 a8 h8 a10 h10 a11 h11 a12 h12 a13 h13 a15 h15 a16 h16 a19 h19 a20 h20 a21 h21 a23 h23 a24 h24 a25 h25 f0 f1 f2 f3 f4 f5 f6 f7 f8 f9 f10 f11 f12 tt
  clear f1 f7 f11 f12
  have e160 : PT 160 = P_bc := pe160_18 hp
  have e216 : PT 216 = P_hsX := pe216_18 hp
  have e223 : PT 223 = P_ohX := pe223_18 hp
  simp only [hF0, hF1, hF2, hF10, hF12, hF29, hFp_160, hFp_216, hFp_223, e160, e216, e223, P_bc, P_hsX, P_ohX, den_s, den_c, Int.add_zero, List.map_cons, List.map_nil, g2.eq, g3.eq, g4.eq, g5.eq, g6.eq, g14.eq, g15.eq, g19.eq, g20.eq, g21.eq, g22.eq, g23.eq, h7, h8, h10, h11, h12, h13, h15, h16, h19, h20, h21, h23, h24, h25] at f0 f2 f3 f4 f5 f6 f8 f9 f10 ⊢
  subst f0
  subst f2
  subst f3
  subst f4
  obtain ⟨c, a, b, hR, e0, e1, e2, e3⟩ := f10
  have hV := huV_of (by omega) hR e0 e1 e2 e3
  have hc2 : c ≤ 2 := by rcases hV with w | w | w | w <;> omega
  obtain ⟨m1, m2, m3, m4⟩ := huV_m hV (by omega)
  have hb := f8
  rw [m1] at hb
  first
    | (have hn := m3 (by omega)
       refine ⟨fun h => by exfalso; omega, fun _ => ⟨c, a, b, hR, fun q => by exfalso; omega, fun q1 q2 => by exfalso; omega, fun q1 q2 => ?_, fun q1 q2 => by exfalso; omega⟩⟩
       rw [← hn]
       unfold ntF nt16 nt8 nt4 nt2
       (repeat' split) <;> first | rfl | (exfalso; omega))
    | (have hn := m4 (by omega)
       refine ⟨fun h => by exfalso; omega, fun _ => ⟨c, a, b, hR, fun q => by exfalso; omega, fun q1 q2 => by exfalso; omega, fun q1 q2 => by exfalso; omega, fun q1 q2 => ?_⟩⟩
       rw [← hn]
       unfold ntF nt16 nt8 nt4 nt2
       (repeat' split) <;> first | rfl | (exfalso; omega)))
def w_xo_hush_0_35 : VC := ((bT ++ [(0, 1), ((-2147483648), 2147483647), (0, 49), (0, 49), ((-2147483648), 2147483647), ((-2147483648), 1)]), [(3, [(some 14, 0), (some 19, 0)], []), (1, [(some 14, 0), (none, (-1))], []), (160, [(some 19, 0), (some 15, 0)], []), (1, [(some 15, 0), (none, (-1))], []), (216, [(some 15, 0), (some 2, 0), (some 3, 0), (some 4, 0), (some 5, 0), (some 6, 0)], [7, 8, 10, 11, 12, 13, 15, 16, 19, 20, 21, 23, 24, 25]), (3, [(none, 1), (some 14, 0)], []), (3, [(some 14, 0), (none, (-1))], [])], (223, [(none, (-1)), (some 14, 0), (some 2, 0), (some 3, 0), (some 4, 0), (some 5, 0), (some 6, 0)], [7, 8, 10, 11, 12, 13, 15, 16, 19, 20, 21, 23, 24, 25]))
set_option maxRecDepth 20000 in
theorem v_xo_hush_0_35 {PT : PTy} (hp : HP18 PT) : vcOk PT w_xo_hush_0_35 := vc_iv [(2, 0, 8), (3, 0, 10), (4, 0, 8), (5, 0, 6), (6, 0, 6), (14, 0, 1), (15, (-2147483648), 2147483647), (19, (-2147483648), 1)] [7, 8, 10, 11, 12, 13, 15, 16, 19, 20, 21, 23, 24, 25] (by decide +kernel) (fun ρ α => by
  intro r2 g2 b2 r3 g3 b3 r4 g4 b4 r5 g5 b5 r6 g6 b6 r14 g14 b14 r15 g15 b15 r19 g19 b19 a7 h7 a8 h8 a10 h10 a11 h11 a12 h12 a13 h13 a15 h15 a16 h16 a19 h19 a20 h20 a21 h21 a23 h23 a24 h24 a25 h25 f0 f1 f2 f3 f4 f5 f6 tt
  clear f1 f5 f6
  have e160 : PT 160 = P_bc := pe160_18 hp
  have e216 : PT 216 = P_hsX := pe216_18 hp
  have e223 : PT 223 = P_ohX := pe223_18 hp
  simp only [hF1, hF3, hFp_160, hFp_216, hFp_223, e160, e216, e223, P_bc, P_hsX, P_ohX, den_s, den_c, Int.add_zero, List.map_cons, List.map_nil, g2.eq, g3.eq, g4.eq, g5.eq, g6.eq, g14.eq, g15.eq, g19.eq, h7, h8, h10, h11, h12, h13, h15, h16, h19, h20, h21, h23, h24, h25] at f0 f2 f3 f4 ⊢
  obtain ⟨c, a, b, hR, e0, e1, e2, e3⟩ := f4
  have hV := huV_of (by omega) hR e0 e1 e2 e3
  have hc2 : c ≤ 2 := by rcases hV with w | w | w | w <;> omega
  obtain ⟨m1, m2, m3, m4⟩ := huV_m hV (by omega)
  have hb := f2
  rw [m1] at hb
  exact ⟨fun h => by exfalso; omega, fun _ => ⟨c, a, b, hR, fun q => by omega, fun q1 q2 => by first | rfl | trivial | omega, fun q1 q2 => by exfalso; omega, fun q1 q2 => by exfalso; omega⟩⟩)
def w_xo_hush_0_36 : VC := ((bT ++ [((-1), (-1)), ((-2147483648), 2147483647), (0, 49), (0, 49), ((-2147483648), 2147483647), ((-2147483648), 2147483647)]), [(0, [(some 14, 0), (none, (-1))], []), (160, [(some 19, 0), (some 15, 0)], []), (1, [(some 15, 0), (none, (-1))], []), (216, [(some 15, 0), (some 2, 0), (some 3, 0), (some 4, 0), (some 5, 0), (some 6, 0)], [7, 8, 10, 11, 12, 13, 15, 16, 19, 20, 21, 23, 24, 25]), (3, [(none, 1), (some 14, 0)], []), (3, [(some 14, 0), (none, (-1))], [])], (223, [(some 19, 0), (some 14, 0), (some 2, 0), (some 3, 0), (some 4, 0), (some 5, 0), (some 6, 0)], [7, 8, 10, 11, 12, 13, 15, 16, 19, 20, 21, 23, 24, 25]))
set_option maxRecDepth 20000 in
theorem v_xo_hush_0_36 {PT : PTy} (hp : HP18 PT) : vcOk PT w_xo_hush_0_36 := vc_iv [(2, 0, 8), (3, 0, 10), (4, 0, 8), (5, 0, 6), (6, 0, 6), (14, (-1), (-1)), (15, (-2147483648), 2147483647), (19, (-2147483648), 2147483647)] [7, 8, 10, 11, 12, 13, 15, 16, 19, 20, 21, 23, 24, 25] (by decide +kernel) (fun ρ α => by
  intro r2 g2 b2 r3 g3 b3 r4 g4 b4 r5 g5 b5 r6 g6 b6 r14 g14 b14 r15 g15 b15 r19 g19 b19 a7 h7 a8 h8 a10 h10 a11 h11 a12 h12 a13 h13 a15 h15 a16 h16 a19 h19 a20 h20 a21 h21 a23 h23 a24 h24 a25 h25 f0 f1 f2 f3 f4 f5 tt
  clear f4 f5
  have e160 : PT 160 = P_bc := pe160_18 hp
  have e216 : PT 216 = P_hsX := pe216_18 hp
  have e223 : PT 223 = P_ohX := pe223_18 hp
  simp only [hF0, hF1, hFp_160, hFp_216, hFp_223, e160, e216, e223, P_bc, P_hsX, P_ohX, den_s, den_c, Int.add_zero, List.map_cons, List.map_nil, g2.eq, g3.eq, g4.eq, g5.eq, g6.eq, g14.eq, g15.eq, g19.eq, h7, h8, h10, h11, h12, h13, h15, h16, h19, h20, h21, h23, h24, h25] at f0 f1 f2 f3 ⊢
  obtain ⟨c, a, b, hR, e0, e1, e2, e3⟩ := f3
  have hV := huV_of (by omega) hR e0 e1 e2 e3
  have hc2 : c ≤ 2 := by rcases hV with w | w | w | w <;> omega
  obtain ⟨m1, m2, m3, m4⟩ := huV_m hV (by omega)
  have hb := f1
  rw [m1] at hb
  exact ⟨fun h => by exfalso; omega, fun _ => ⟨c, a, b, hR, fun q => by omega, fun q1 q2 => by first | rfl | trivial | omega, fun q1 q2 => by exfalso; omega, fun q1 q2 => by exfalso; omega⟩⟩)
def w_xo_hush_0_37 : VC := ((bT ++ [((-1), 1), ((-1), (-1)), (0, 49), (0, 49), ((-2147483648), 2147483647)]), [(0, [(some 15, 0), (none, (-1))], []), (216, [(some 15, 0), (some 2, 0), (some 3, 0), (some 4, 0), (some 5, 0), (some 6, 0)], [7, 8, 10, 11, 12, 13, 15, 16, 19, 20, 21, 23, 24, 25]), (3, [(none, 1), (some 14, 0)], []), (3, [(some 14, 0), (none, (-1))], [])], (223, [(none, (-1)), (some 14, 0), (some 2, 0), (some 3, 0), (some 4, 0), (some 5, 0), (some 6, 0)], [7, 8, 10, 11, 12, 13, 15, 16, 19, 20, 21, 23, 24, 25]))
set_option maxRecDepth 20000 in
theorem v_xo_hush_0_37 {PT : PTy} (hp : HP18 PT) : vcOk PT w_xo_hush_0_37 := vc_iv [(2, 0, 8), (3, 0, 10), (4, 0, 8), (5, 0, 6), (6, 0, 6), (14, (-1), 1), (15, (-1), (-1))] [7, 8, 10, 11, 12, 13, 15, 16, 19, 20, 21, 23, 24, 25] (by decide +kernel) (fun ρ α => by
  intro r2 g2 b2 r3 g3 b3 r4 g4 b4 r5 g5 b5 r6 g6 b6 r14 g14 b14 r15 g15 b15 a7 h7 a8 h8 a10 h10 a11 h11 a12 h12 a13 h13 a15 h15 a16 h16 a19 h19 a20 h20 a21 h21 a23 h23 a24 h24 a25 h25 f0 f1 f2 f3 tt
  clear f2 f3
  have e216 : PT 216 = P_hsX := pe216_18 hp
  have e223 : PT 223 = P_ohX := pe223_18 hp
  simp only [hF0, hFp_216, hFp_223, e216, e223, P_hsX, P_ohX, den_s, den_c, Int.add_zero, List.map_cons, List.map_nil, g2.eq, g3.eq, g4.eq, g5.eq, g6.eq, g14.eq, g15.eq, h7, h8, h10, h11, h12, h13, h15, h16, h19, h20, h21, h23, h24, h25] at f0 f1 ⊢
  obtain ⟨c, a, b, hR, e0, e1, e2, e3⟩ := f1
  have hV := huV_of (by omega) hR e0 e1 e2 e3
  have hc := huV_n hV (by omega)
  exact ⟨fun h => by exfalso; omega, fun _ => ⟨c, a, b, hR, fun q => by omega, fun q1 q2 => by first | rfl | trivial | omega, fun q1 q2 => by exfalso; omega, fun q1 q2 => by exfalso; omega⟩⟩)
def w_xo_hush_0_38 : VC := ((bT ++ [(2, 2147483647)]), [(2, [(none, 1), (some 14, 0)], []), (3, [(some 14, 0), (none, (-1))], [])], (223, [(none, (-2)), (some 14, 0), (some 2, 0), (some 3, 0), (some 4, 0), (some 5, 0), (some 6, 0)], [7, 8, 10, 11, 12, 13, 15, 16, 19, 20, 21, 23, 24, 25]))
set_option maxRecDepth 20000 in
theorem v_xo_hush_0_38 {PT : PTy} (hp : HP18 PT) : vcOk PT w_xo_hush_0_38 := vc_iv [(2, 0, 8), (3, 0, 10), (4, 0, 8), (5, 0, 6), (6, 0, 6), (14, 2, 2147483647)] [7, 8, 10, 11, 12, 13, 15, 16, 19, 20, 21, 23, 24, 25] (by decide +kernel) (fun ρ α => by
  intro r2 g2 b2 r3 g3 b3 r4 g4 b4 r5 g5 b5 r6 g6 b6 r14 g14 b14 a7 h7 a8 h8 a10 h10 a11 h11 a12 h12 a13 h13 a15 h15 a16 h16 a19 h19 a20 h20 a21 h21 a23 h23 a24 h24 a25 h25 f0 f1 tt
  clear f0 f1
  have e223 : PT 223 = P_ohX := pe223_18 hp
  simp only [hFp_223, e223, P_ohX, den_s, den_c, Int.add_zero, List.map_cons, List.map_nil, g2.eq, g3.eq, g4.eq, g5.eq, g6.eq, g14.eq, h7, h8, h10, h11, h12, h13, h15, h16, h19, h20, h21, h23, h24, h25] at ⊢
  exact ⟨fun _ => (by first | rfl | trivial), fun h => by exfalso; omega⟩)
set_option maxRecDepth 1000000 in
theorem k_xo_hush {PT : PTy} (hp : HP18 PT) : wfX c_xo_hush = true ∧ xcOk PT c_xo_hush := xctr (xl (k_bitCount hp.1.1.1.1.1.1.1) (xl (k_toHush hp) (xl0))) c_xo_hush 102 mX6_hush rfl h_xo_hush (by decide +kernel) (by decide +kernel) (by decide) (vcs_by [w_xo_hush_0_0, w_xo_hush_0_1, w_xo_hush_0_2, w_xo_hush_0_3, w_xo_hush_0_4, w_xo_hush_0_5, w_xo_hush_0_6, w_xo_hush_0_7, w_xo_hush_0_8, w_xo_hush_0_9, w_xo_hush_0_10, w_xo_hush_0_11, w_xo_hush_0_12, w_xo_hush_0_13, w_xo_hush_0_14, w_xo_hush_0_15, w_xo_hush_0_16, w_xo_hush_0_17, w_xo_hush_0_18, w_xo_hush_0_19, w_xo_hush_0_20, w_xo_hush_0_21, w_xo_hush_0_22, w_xo_hush_0_23, w_xo_hush_0_24, w_xo_hush_0_25, w_xo_hush_0_26, w_xo_hush_0_27, w_xo_hush_0_28, w_xo_hush_0_29, w_xo_hush_0_30, w_xo_hush_0_31, w_xo_hush_0_32, w_xo_hush_0_33, w_xo_hush_0_34, w_xo_hush_0_35, w_xo_hush_0_36, w_xo_hush_0_37, w_xo_hush_0_38] (by decide +kernel) (vc (v_xo_hush_0_0 hp) (vc (v_xo_hush_0_1 hp) (vc (v_xo_hush_0_2 hp) (vc (v_xo_hush_0_3 hp) (vc (v_xo_hush_0_4 hp) (vc (v_xo_hush_0_5 hp) (vc (v_xo_hush_0_6 hp) (vc (v_xo_hush_0_7 hp) (vc (v_xo_hush_0_8 hp) (vc (v_xo_hush_0_9 hp) (vc (v_xo_hush_0_10 hp) (vc (v_xo_hush_0_11 hp) (vc (v_xo_hush_0_12 hp) (vc (v_xo_hush_0_13 hp) (vc (v_xo_hush_0_14 hp) (vc (v_xo_hush_0_15 hp) (vc (v_xo_hush_0_16 hp) (vc (v_xo_hush_0_17 hp) (vc (v_xo_hush_0_18 hp) (vc (v_xo_hush_0_19 hp) (vc (v_xo_hush_0_20 hp) (vc (v_xo_hush_0_21 hp) (vc (v_xo_hush_0_22 hp) (vc (v_xo_hush_0_23 hp) (vc (v_xo_hush_0_24 hp) (vc (v_xo_hush_0_25 hp) (vc (v_xo_hush_0_26 hp) (vc (v_xo_hush_0_27 hp) (vc (v_xo_hush_0_28 hp) (vc (v_xo_hush_0_29 hp) (vc (v_xo_hush_0_30 hp) (vc (v_xo_hush_0_31 hp) (vc (v_xo_hush_0_32 hp) (vc (v_xo_hush_0_33 hp) (vc (v_xo_hush_0_34 hp) (vc (v_xo_hush_0_35 hp) (vc (v_xo_hush_0_36 hp) (vc (v_xo_hush_0_37 hp) (vc (v_xo_hush_0_38 hp) vn)))))))))))))))))))))))))))))))))))))))) fmn
def c_isHushed : XC := (166, 5, (bY ++ [((-2147483648), 2147483647)]), [.inr (.inl 0), .inl (some 13, 0)], gY2, [], [((bY ++ [((-2147483648), 2147483647), (0, 1)]), some (.inl (some 14, 0)), (hst gY2 [(0, .inr (.inr (.inr (7, [.inr (.inl 1), .inr (.inl 2), .inl (some 2, 0), .inr (.inl 3), .inr (.inl 4), .inl (some 3, 0), .inr (.inl 5), .inr (.inl 6), .inr (.inl 7), .inr (.inl 8), .inl (some 4, 0), .inr (.inl 9), .inr (.inl 10), .inl (some 5, 0), .inr (.inl 11), .inr (.inl 12), .inr (.inl 13), .inl (some 6, 0), .inr (.inl 14), .inr (.inl 15), .inr (.inl 16), .inl (some 8, 0), .inl (some 9, 0), .inr (.inl 17), .inr (.inl 18), .inl (some 10, 0), .inl (some 13, 0), .inr (.inl 19), .inr (.inl 20), .inr (.inl 21), .inr (.inl 22), .inr (.inl 23), .inr (.inl 24), .inr (.inl 25), .inl (some 7, 0), .inr (.inl 26), .inr (.inl 27), .inr (.inl 28), .inr (.inl 29), .inr (.inl 30), .inr (.inl 31), .inr (.inl 32), .inr (.inl 33), .inr (.inl 34), .inl (some 12, 0)]))))]), (ansT 35 [(19, 35), (20, 36), (21, 37), (22, 38), (23, 39), (24, 40)]), 41, [(217, [(some 14, 0), (some 13, 0), (some 2, 0), (some 3, 0), (some 9, 0), (some 5, 0), (some 6, 0), (some 8, 0), (some 10, 0)], [3, 4, 5, 6, 7, 8, 17, 18, 11, 12, 13, 14, 15, 16])])])
def h_isHushed : List XH := []
def w_isHushed_0_0 : VC := ((bY ++ [((-2147483648), 2147483647), ((-2147483648), 2147483647)]), [(1, [(some 14, 0), (none, 0)], []), (172, [(some 14, 0), (some 2, 0), (none, 23)], [38]), (104, [(none, 24), (some 2, 0), (some 8, 0), (some 3, 0), (some 9, 0), (some 5, 0), (some 6, 0), (some 10, 0), (some 13, 0)], [3, 4, 5, 6, 7, 8, 17, 18, 11, 12, 13, 14, 15, 16, 19, 20, 21, 35, 36, 37, 38, 39, 40])], (217, [(none, 0), (some 13, 0), (some 2, 0), (some 3, 0), (some 9, 0), (some 5, 0), (some 6, 0), (some 8, 0), (some 10, 0)], [3, 4, 5, 6, 7, 8, 17, 18, 11, 12, 13, 14, 15, 16]))
theorem pe104_18 {PT : PTy} (hp : HP18 PT) : PT 104 = P_ru := hp.1.1.1.1.1.1.1.1.1.1.1.1.1.2.2.2.2.2.2.2.2.2.2.1
theorem pe172_18 {PT : PTy} (hp : HP18 PT) : PT 172 = P_nkY := hp.1.1.1.1.1.1.2.2.2.2.2.2.2.2.2.2.1
theorem pe217_18 {PT : PTy} (hp : HP18 PT) : PT 217 = P_ihY := hp.2.2.2.2.2.2.1
set_option maxRecDepth 20000 in
theorem v_isHushed_0_0 {PT : PTy} (hp : HP18 PT) : vcOk PT w_isHushed_0_0 := vc_iv [(2, 0, 8), (3, 0, 10), (5, 0, 6), (6, 0, 6), (8, 0, 11), (9, 0, 9), (10, (-2147483648), 2147483647), (13, (-2147483648), 2147483647), (14, (-2147483648), 2147483647)] [3, 4, 5, 6, 7, 8, 11, 12, 13, 14, 15, 16, 17, 18, 19, 20, 21, 35, 36, 37, 38, 39, 40] (by decide +kernel) (fun ρ α => by
  intro r2 g2 b2 r3 g3 b3 r5 g5 b5 r6 g6 b6 r8 g8 b8 r9 g9 b9 r10 g10 b10 r13 g13 b13 r14 g14 b14 a3 h3 a4 h4 a5 h5 a6 h6 a7 h7 a8 h8 a11 h11 a12 h12 a13 h13 a14 h14 a15 h15 a16 h16 a17 h17 a18 h18 a19 h19 a20 h20 a21 h21 a35 h35 a36 h36 a37 h37 a38 h38 a39 h39 a40 h40 f0 f1 f2 tt
  have e104 : PT 104 = P_ru := pe104_18 hp
  have e172 : PT 172 = P_nkY := pe172_18 hp
  have e217 : PT 217 = P_ihY := pe217_18 hp
  simp only [hF1, hFp_104, hFp_172, hFp_217, e104, e172, e217, P_ru, P_nkY, P_ihY, den_s, den_c, Int.add_zero, List.map_cons, List.map_nil, g2.eq, g3.eq, g5.eq, g6.eq, g8.eq, g9.eq, g10.eq, g13.eq, g14.eq, h3, h4, h5, h6, h7, h8, h11, h12, h13, h14, h15, h16, h17, h18, h19, h20, h21, h35, h36, h37, h38, h39, h40] at f0 f1 f2 ⊢
  intro e1 e2
  obtain ⟨h1, h2⟩ := f2
  have hk := f1
  subst e1 e2
  first
    | exact ⟨_, _, _, _, _, _, ⟨_, _, _, h1, h2⟩, Or.inl ⟨by first | rfl | trivial, by rw [show nkdF _ _ = _ from hk.symm]; omega⟩⟩
    | exact ⟨_, _, _, _, _, _, ⟨_, _, _, h1, h2⟩, Or.inr ⟨by first | rfl | trivial, by rw [show nkdF _ _ = _ from hk.symm]; omega⟩⟩)
def w_isHushed_0_1 : VC := ((bY ++ [((-2147483648), 2147483647), (0, 0)]), [(0, [(some 14, 0), (none, 0)], []), (172, [(some 14, 0), (some 2, 0), (none, 23)], [38]), (104, [(none, 24), (some 2, 0), (some 8, 0), (some 3, 0), (some 9, 0), (some 5, 0), (some 6, 0), (some 10, 0), (some 13, 0)], [3, 4, 5, 6, 7, 8, 17, 18, 11, 12, 13, 14, 15, 16, 19, 20, 21, 35, 36, 37, 38, 39, 40])], (217, [(none, 1), (some 13, 0), (some 2, 0), (some 3, 0), (some 9, 0), (some 5, 0), (some 6, 0), (some 8, 0), (some 10, 0)], [3, 4, 5, 6, 7, 8, 17, 18, 11, 12, 13, 14, 15, 16]))
set_option maxRecDepth 20000 in
theorem v_isHushed_0_1 {PT : PTy} (hp : HP18 PT) : vcOk PT w_isHushed_0_1 := vc_iv [(2, 0, 8), (3, 0, 10), (5, 0, 6), (6, 0, 6), (8, 0, 11), (9, 0, 9), (10, (-2147483648), 2147483647), (13, (-2147483648), 2147483647), (14, 0, 0)] [3, 4, 5, 6, 7, 8, 11, 12, 13, 14, 15, 16, 17, 18, 19, 20, 21, 35, 36, 37, 38, 39, 40] (by decide +kernel) (fun ρ α => by
  intro r2 g2 b2 r3 g3 b3 r5 g5 b5 r6 g6 b6 r8 g8 b8 r9 g9 b9 r10 g10 b10 r13 g13 b13 r14 g14 b14 a3 h3 a4 h4 a5 h5 a6 h6 a7 h7 a8 h8 a11 h11 a12 h12 a13 h13 a14 h14 a15 h15 a16 h16 a17 h17 a18 h18 a19 h19 a20 h20 a21 h21 a35 h35 a36 h36 a37 h37 a38 h38 a39 h39 a40 h40 f0 f1 f2 tt
  have e104 : PT 104 = P_ru := pe104_18 hp
  have e172 : PT 172 = P_nkY := pe172_18 hp
  have e217 : PT 217 = P_ihY := pe217_18 hp
  simp only [hF0, hFp_104, hFp_172, hFp_217, e104, e172, e217, P_ru, P_nkY, P_ihY, den_s, den_c, Int.add_zero, List.map_cons, List.map_nil, g2.eq, g3.eq, g5.eq, g6.eq, g8.eq, g9.eq, g10.eq, g13.eq, g14.eq, h3, h4, h5, h6, h7, h8, h11, h12, h13, h14, h15, h16, h17, h18, h19, h20, h21, h35, h36, h37, h38, h39, h40] at f0 f1 f2 ⊢
  intro e1 e2
  obtain ⟨h1, h2⟩ := f2
  have hk := f1
  subst e1 e2
  first
    | exact ⟨_, _, _, _, _, _, ⟨_, _, _, h1, h2⟩, Or.inl ⟨by first | rfl | trivial, by rw [show nkdF _ _ = _ from hk.symm]; omega⟩⟩
    | exact ⟨_, _, _, _, _, _, ⟨_, _, _, h1, h2⟩, Or.inr ⟨by first | rfl | trivial, by rw [show nkdF _ _ = _ from hk.symm]; omega⟩⟩)
set_option maxRecDepth 1000000 in
theorem k_isHushed {PT : PTy} (hp : HP18 PT) : wfX c_isHushed = true ∧ xcOk PT c_isHushed := xctr (xl (k_runs hp.1.1.1.1.1.1.1.1.1.1.1.1.1) (xl (k_nakedNow hp.1.1.1.1.1.1) (xl0))) c_isHushed 32 mX7_isHushed rfl h_isHushed (by decide +kernel) (by decide +kernel) (by decide) (vcs_by [w_isHushed_0_0, w_isHushed_0_1] (by decide +kernel) (vc (v_isHushed_0_0 hp) (vc (v_isHushed_0_1 hp) vn))) fmn
def c_hushBy : XC := (167, 6, (bY), [.inr (.inl 0)], gY2, [(78, [], [1])], [((bY ++ [((-1), 2), (0, 8), (0, 10), (0, 11), ((-2147483648), 2147483647), ((-2147483648), 2147483647)]), some (.inl (some 13, 0)), (hst gY2 [(0, .inr (.inr (.inr (7, [.inr (.inl 1), .inr (.inl 2), .inl (some 14, 0), .inr (.inl 3), .inr (.inl 4), .inl (some 15, 0), .inr (.inl 5), .inr (.inl 6), .inr (.inl 7), .inr (.inl 8), .inl (some 4, 0), .inr (.inl 9), .inr (.inl 10), .inl (some 5, 0), .inr (.inl 11), .inr (.inl 12), .inr (.inl 13), .inl (some 6, 0), .inr (.inl 14), .inr (.inl 15), .inr (.inl 16), .inl (some 16, 0), .inl (some 4, 0), .inr (.inl 17), .inr (.inl 18), .inl (some 17, 0), .inl (some 18, 0), .inr (.inl 19), .inr (.inl 20), .inr (.inl 21), .inr (.inl 22), .inr (.inl 23), .inr (.inl 24), .inr (.inl 25), .inl (some 7, 0), .inr (.inl 26), .inr (.inl 27), .inr (.inl 28), .inr (.inl 29), .inr (.inl 30), .inr (.inl 31), .inr (.inl 32), .inr (.inl 33), .inr (.inl 34), .inl (some 12, 0)]))))]), [0, 1, 2, 35, 36, 37, 38, 39, 40, 9, 10, 11, 12, 13, 14, 15, 16, 41, 42, 43, 44, 45, 46, 47, 48, 49, 26, 27, 28, 29, 30, 31, 32, 33, 34], 50, [(221, [(some 13, 0), (some 14, 0), (some 15, 0), (some 4, 0), (some 5, 0), (some 6, 0)], [1, 2, 35, 36, 37, 38, 39, 40, 41, 42, 9, 10, 11, 12, 13, 14, 15, 16, 49])])])
def h_hushBy : List XH := [(16, (bY ++ [(0, 6), (0, 8), (0, 10), (0, 11), ((-2147483648), 2147483647), ((-2147483648), 2147483647)]), [some (.inr (.inl 0)), some (.inl (some 13, 0)), none], (hst gY2 [(0, .inr (.inr (.inr (7, [.inr (.inl 1), .inr (.inl 2), .inl (some 14, 0), .inr (.inl 3), .inr (.inl 4), .inl (some 15, 0), .inr (.inl 5), .inr (.inl 6), .inr (.inl 7), .inr (.inl 8), .inl (some 4, 0), .inr (.inl 9), .inr (.inl 10), .inl (some 5, 0), .inr (.inl 11), .inr (.inl 12), .inr (.inl 13), .inl (some 6, 0), .inr (.inl 14), .inr (.inl 15), .inr (.inl 16), .inl (some 16, 0), .inl (some 4, 0), .inr (.inl 17), .inr (.inl 18), .inl (some 17, 0), .inl (some 18, 0), .inr (.inl 19), .inr (.inl 20), .inr (.inl 21), .inr (.inl 22), .inr (.inl 23), .inr (.inl 24), .inr (.inl 25), .inl (some 7, 0), .inr (.inl 26), .inr (.inl 27), .inr (.inl 28), .inr (.inl 29), .inr (.inl 30), .inr (.inl 31), .inr (.inl 32), .inr (.inl 33), .inr (.inl 34), .inl (some 12, 0)]))))]), [0, 1, 2, 35, 36, 37, 38, 39, 40, 9, 10, 11, 12, 13, 14, 15, 16, 41, 42, 43, 44, 45, 46, 47, 48, 49, 26, 27, 28, 29, 30, 31, 32, 33, 34], 50, [(106, [(some 14, 0), (some 15, 0)], [1, 2, 35, 36, 37, 38, 39, 40]), (105, [(some 4, 0)], [9, 10, 41, 42]), (218, [(some 13, 0), (some 14, 0), (some 15, 0), (some 4, 0), (some 5, 0), (some 6, 0)], [35, 36, 37, 38, 39, 40, 41, 42, 11, 12, 13, 14, 15, 16]), (0, [(some 16, 0), (some 15, 0)], []), (0, [(some 17, 0), (none, 0)], []), (0, [(some 4, 0), (some 4, 0)], []), (3, [(some 5, 0), (some 13, 0)], [])], [(true, (none, 1)), (true, (some 13, 0)), (true, (none, 0)), (true, (none, 0))]),
  (51, (bY ++ [(0, 6), (0, 8), (0, 10), (0, 11), ((-2147483648), 2147483647), ((-2147483648), 2147483647)]), [some (.inr (.inl 0)), some (.inl (some 13, 0)), none], (hst gY2 [(0, .inr (.inr (.inr (7, [.inr (.inl 1), .inr (.inl 2), .inl (some 14, 0), .inr (.inl 3), .inr (.inl 4), .inl (some 15, 0), .inr (.inl 5), .inr (.inl 6), .inr (.inl 7), .inr (.inl 8), .inl (some 4, 0), .inr (.inl 9), .inr (.inl 10), .inl (some 5, 0), .inr (.inl 11), .inr (.inl 12), .inr (.inl 13), .inl (some 6, 0), .inr (.inl 14), .inr (.inl 15), .inr (.inl 16), .inl (some 16, 0), .inl (some 4, 0), .inr (.inl 17), .inr (.inl 18), .inl (some 17, 0), .inl (some 18, 0), .inr (.inl 19), .inr (.inl 20), .inr (.inl 21), .inr (.inl 22), .inr (.inl 23), .inr (.inl 24), .inr (.inl 25), .inl (some 7, 0), .inr (.inl 26), .inr (.inl 27), .inr (.inl 28), .inr (.inl 29), .inr (.inl 30), .inr (.inl 31), .inr (.inl 32), .inr (.inl 33), .inr (.inl 34), .inl (some 12, 0)]))))]), [0, 1, 2, 35, 36, 37, 38, 39, 40, 9, 10, 11, 12, 13, 14, 15, 16, 41, 42, 43, 44, 45, 46, 47, 48, 49, 26, 27, 28, 29, 30, 31, 32, 33, 34], 50, [(106, [(some 14, 0), (some 15, 0)], [1, 2, 35, 36, 37, 38, 39, 40]), (105, [(some 4, 0)], [9, 10, 41, 42]), (220, [(some 13, 0), (some 14, 0), (some 15, 0), (some 4, 0), (some 5, 0), (some 6, 0)], [35, 36, 37, 38, 39, 40, 41, 42, 11, 12, 13, 14, 15, 16]), (0, [(some 16, 0), (some 15, 0)], []), (0, [(some 17, 0), (none, 0)], []), (0, [(some 4, 0), (some 4, 0)], []), (3, [(some 5, 0), (some 13, 0)], [])], [(true, (none, 2)), (true, (some 13, 0)), (true, (none, 0)), (true, (none, 0))]),
  (63, ([(0, 23), (0, 49), (0, 8), (0, 10), (0, 8), (1, 6), (0, 6), (0, 8), (0, 11), (0, 9), ((-2147483648), 2147483647), ((-2147483648), 2147483647), (0, 5), (0, 5), (1, 6), (0, 8), (0, 10), (0, 11), ((-2147483648), 2147483647), ((-2147483648), 2147483647)]), [some (.inr (.inl 0)), some (.inl (some 13, 0)), some (.inl (some 14, 0))], (hst gY2 [(0, .inr (.inr (.inr (7, [.inr (.inl 1), .inr (.inl 2), .inl (some 15, 0), .inr (.inl 3), .inr (.inl 4), .inl (some 16, 0), .inr (.inl 5), .inr (.inl 6), .inr (.inl 7), .inr (.inl 8), .inl (some 4, 0), .inr (.inl 9), .inr (.inl 10), .inl (some 5, 0), .inr (.inl 11), .inr (.inl 12), .inr (.inl 13), .inl (some 6, 0), .inr (.inl 14), .inr (.inl 15), .inr (.inl 16), .inl (some 17, 0), .inl (some 4, 0), .inr (.inl 17), .inr (.inl 18), .inl (some 18, 0), .inl (some 19, 0), .inr (.inl 19), .inr (.inl 20), .inr (.inl 21), .inr (.inl 22), .inr (.inl 23), .inr (.inl 24), .inr (.inl 25), .inl (some 7, 0), .inr (.inl 26), .inr (.inl 27), .inr (.inl 28), .inr (.inl 29), .inr (.inl 30), .inr (.inl 31), .inr (.inl 32), .inr (.inl 33), .inr (.inl 34), .inl (some 12, 0)]))))]), [0, 1, 2, 35, 36, 37, 38, 39, 40, 9, 10, 11, 12, 13, 14, 15, 16, 41, 42, 43, 44, 45, 46, 47, 48, 49, 26, 27, 28, 29, 30, 31, 32, 33, 34], 50, [(106, [(some 15, 0), (some 16, 0)], [1, 2, 35, 36, 37, 38, 39, 40]), (105, [(some 4, 0)], [9, 10, 41, 42]), (219, [(some 13, 0), (some 14, 0), (some 15, 0), (some 16, 0), (some 4, 0), (some 5, 0), (some 6, 0)], [35, 36, 37, 38, 39, 40, 41, 42, 11, 12, 13, 14, 15, 16]), (0, [(some 17, 0), (some 16, 0)], []), (0, [(some 18, 0), (none, 0)], []), (0, [(some 4, 0), (some 4, 0)], []), (3, [(some 5, 0), (some 14, 0)], []), (2, [(some 13, 0), (some 14, 0)], []), (2, [(some 13, 0), (some 5, 0)], [])], [(true, (none, 2)), (true, (some 13, 0)), (true, (none, 1)), (true, (some 14, 0))])]
def w_hushBy_0_0 : VC := ((bY ++ [(0, 8), (0, 10), (0, 11), ((-2147483648), 2147483647), ((-2147483648), 2147483647), (0, 0)]), [(0, [(some 18, 0), (none, 0)], []), (217, [(some 18, 0), (none, 0), (some 13, 0), (some 14, 0), (some 4, 0), (some 5, 0), (some 6, 0), (some 15, 0), (some 16, 0)], [35, 36, 37, 38, 39, 40, 41, 42, 11, 12, 13, 14, 15, 16]), (106, [(some 13, 0), (some 14, 0)], [1, 2, 35, 36, 37, 38, 39, 40]), (105, [(some 4, 0)], [9, 10, 41, 42]), (0, [(some 15, 0), (some 14, 0)], []), (0, [(some 4, 0), (some 4, 0)], []), (0, [(some 16, 0), (none, 0)], []), (0, [(some 17, 0), (none, 0)], []), (78, [], [1])], (218, [(none, 0), (some 13, 0), (some 14, 0), (some 4, 0), (some 5, 0), (some 6, 0)], [35, 36, 37, 38, 39, 40, 41, 42, 11, 12, 13, 14, 15, 16]))
theorem pe78_18 {PT : PTy} (hp : HP18 PT) : PT 78 = P_ly := hp.1.1.1.1.1.1.1.1.1.1.1.1.1.1.1.1.2.2.2.2.2.2.2.1
theorem pe105_18 {PT : PTy} (hp : HP18 PT) : PT 105 = P_cp2 := hp.1.1.1.1.1.1.1.1.1.1.1.1.1.2.2.2.2.2.2.2.2.2.2.2.1
theorem pe106_18 {PT : PTy} (hp : HP18 PT) : PT 106 = P_rd := hp.1.1.1.1.1.1.1.1.1.1.1.1.1.2.2.2.2.2.2.2.2.2.2.2.2.1
theorem pe218_18 {PT : PTy} (hp : HP18 PT) : PT 218 = P_hv1 := hp.2.2.2.2.2.2.2.1
set_option maxRecDepth 20000 in
theorem v_hushBy_0_0 {PT : PTy} (hp : HP18 PT) : vcOk PT w_hushBy_0_0 := vc_iv [(4, 0, 8), (5, 0, 6), (6, 0, 6), (13, 0, 8), (14, 0, 10), (15, 0, 11), (16, (-2147483648), 2147483647), (17, (-2147483648), 2147483647), (18, 0, 0)] [1, 2, 9, 10, 11, 12, 13, 14, 15, 16, 35, 36, 37, 38, 39, 40, 41, 42] (by decide +kernel) (fun ρ α => by
  intro r4 g4 b4 r5 g5 b5 r6 g6 b6 r13 g13 b13 r14 g14 b14 r15 g15 b15 r16 g16 b16 r17 g17 b17 r18 g18 b18 a1 h1 a2 h2 a9 h9 a10 h10 a11 h11 a12 h12 a13 h13 a14 h14 a15 h15 a16 h16 a35 h35 a36 h36 a37 h37 a38 h38 a39 h39 a40 h40 a41 h41 a42 h42 f0 f1 f2 f3 f4 f5 f6 f7 f8 tt
  have e78 : PT 78 = P_ly := pe78_18 hp
  have e105 : PT 105 = P_cp2 := pe105_18 hp
  have e106 : PT 106 = P_rd := pe106_18 hp
  have e217 : PT 217 = P_ihY := pe217_18 hp
  have e218 : PT 218 = P_hv1 := pe218_18 hp
  simp only [hF0, hFp_78, hFp_105, hFp_106, hFp_217, hFp_218, e78, e105, e106, e217, e218, P_ly, P_cp2, P_rd, P_ihY, P_hv1, den_s, den_c, Int.add_zero, List.map_cons, List.map_nil, g4.eq, g5.eq, g6.eq, g13.eq, g14.eq, g15.eq, g16.eq, g17.eq, g18.eq, h1, h2, h9, h10, h11, h12, h13, h14, h15, h16, h35, h36, h37, h38, h39, h40, h41, h42] at f0 f1 f2 f3 f4 f5 f6 f7 f8 ⊢
  have h0 : hqY r13 r14 r4 r5 r6 a35 a36 a37 a38 a39 a40 a41 a42 a11 a12 a13 a14 a15 a16 0 r18 := f1 (by omega) (by omega)
  rw [show r18 = 0 by omega] at h0
  exact ⟨h0, fun j h1 h2 => by exfalso; omega⟩)
def w_hushBy_0_1 : VC := ((bY ++ [(0, 8), (0, 10), (0, 11), ((-2147483648), 2147483647), ((-2147483648), 2147483647), (0, 0)]), [(0, [(some 18, 0), (none, 0)], []), (217, [(some 18, 0), (none, 0), (some 13, 0), (some 14, 0), (some 4, 0), (some 5, 0), (some 6, 0), (some 15, 0), (some 16, 0)], [35, 36, 37, 38, 39, 40, 41, 42, 11, 12, 13, 14, 15, 16]), (106, [(some 13, 0), (some 14, 0)], [1, 2, 35, 36, 37, 38, 39, 40]), (105, [(some 4, 0)], [9, 10, 41, 42]), (0, [(some 15, 0), (some 14, 0)], []), (0, [(some 4, 0), (some 4, 0)], []), (0, [(some 16, 0), (none, 0)], []), (0, [(some 17, 0), (none, 0)], []), (78, [], [1])], (3, [(some 5, 0), (none, 0)], []))
set_option maxRecDepth 20000 in
theorem v_hushBy_0_1 {PT : PTy} (hp : HP18 PT) : vcOk PT w_hushBy_0_1 := vc_iv [(4, 0, 8), (5, 0, 6), (6, 0, 6), (13, 0, 8), (14, 0, 10), (15, 0, 11), (16, (-2147483648), 2147483647), (17, (-2147483648), 2147483647), (18, 0, 0)] [1, 2, 9, 10, 11, 12, 13, 14, 15, 16, 35, 36, 37, 38, 39, 40, 41, 42] (by decide +kernel) (fun ρ α => by
  intro r4 g4 b4 r5 g5 b5 r6 g6 b6 r13 g13 b13 r14 g14 b14 r15 g15 b15 r16 g16 b16 r17 g17 b17 r18 g18 b18 a1 h1 a2 h2 a9 h9 a10 h10 a11 h11 a12 h12 a13 h13 a14 h14 a15 h15 a16 h16 a35 h35 a36 h36 a37 h37 a38 h38 a39 h39 a40 h40 a41 h41 a42 h42 f0 f1 f2 f3 f4 f5 f6 f7 f8 tt
  have e78 : PT 78 = P_ly := pe78_18 hp
  have e105 : PT 105 = P_cp2 := pe105_18 hp
  have e106 : PT 106 = P_rd := pe106_18 hp
  have e217 : PT 217 = P_ihY := pe217_18 hp
  simp only [hF0, hF3, hFp_78, hFp_105, hFp_106, hFp_217, e78, e105, e106, e217, P_ly, P_cp2, P_rd, P_ihY, den_s, den_c, Int.add_zero, List.map_cons, List.map_nil, g4.eq, g5.eq, g6.eq, g13.eq, g14.eq, g15.eq, g16.eq, g17.eq, g18.eq, h1, h2, h9, h10, h11, h12, h13, h14, h15, h16, h35, h36, h37, h38, h39, h40, h41, h42] at f0 f1 f2 f3 f4 f5 f6 f7 f8 ⊢
  omega)
def w_hushBy_0_2 : VC := ((bY ++ [(0, 8), (0, 10), (0, 11), ((-2147483648), 2147483647), ((-2147483648), 2147483647), (1, 1)]), [(1, [(some 18, 0), (none, 0)], []), (217, [(some 18, 0), (none, 0), (some 13, 0), (some 14, 0), (some 4, 0), (some 5, 0), (some 6, 0), (some 15, 0), (some 16, 0)], [35, 36, 37, 38, 39, 40, 41, 42, 11, 12, 13, 14, 15, 16]), (106, [(some 13, 0), (some 14, 0)], [1, 2, 35, 36, 37, 38, 39, 40]), (105, [(some 4, 0)], [9, 10, 41, 42]), (0, [(some 15, 0), (some 14, 0)], []), (0, [(some 4, 0), (some 4, 0)], []), (0, [(some 16, 0), (none, 0)], []), (0, [(some 17, 0), (none, 0)], []), (78, [], [1])], (221, [(none, 0), (some 13, 0), (some 14, 0), (some 4, 0), (some 5, 0), (some 6, 0)], [1, 2, 35, 36, 37, 38, 39, 40, 41, 42, 9, 10, 11, 12, 13, 14, 15, 16, 25]))
theorem pe221_18 {PT : PTy} (hp : HP18 PT) : PT 221 = P_hbY := hp.2.2.2.2.2.2.2.2.2.2.1
set_option maxRecDepth 20000 in
theorem v_hushBy_0_2 {PT : PTy} (hp : HP18 PT) : vcOk PT w_hushBy_0_2 := vc_iv [(4, 0, 8), (5, 0, 6), (6, 0, 6), (13, 0, 8), (14, 0, 10), (15, 0, 11), (16, (-2147483648), 2147483647), (17, (-2147483648), 2147483647), (18, 1, 1)] [1, 2, 9, 10, 11, 12, 13, 14, 15, 16, 25, 35, 36, 37, 38, 39, 40, 41, 42] (by decide +kernel) (fun ρ α => by
  intro r4 g4 b4 r5 g5 b5 r6 g6 b6 r13 g13 b13 r14 g14 b14 r15 g15 b15 r16 g16 b16 r17 g17 b17 r18 g18 b18 a1 h1 a2 h2 a9 h9 a10 h10 a11 h11 a12 h12 a13 h13 a14 h14 a15 h15 a16 h16 a25 h25 a35 h35 a36 h36 a37 h37 a38 h38 a39 h39 a40 h40 a41 h41 a42 h42 f0 f1 f2 f3 f4 f5 f6 f7 f8 tt
  clear f0
  have e78 : PT 78 = P_ly := pe78_18 hp
  have e105 : PT 105 = P_cp2 := pe105_18 hp
  have e106 : PT 106 = P_rd := pe106_18 hp
  have e217 : PT 217 = P_ihY := pe217_18 hp
  have e221 : PT 221 = P_hbY := pe221_18 hp
  simp only [hF0, hFp_78, hFp_105, hFp_106, hFp_217, hFp_221, e78, e105, e106, e217, e221, P_ly, P_cp2, P_rd, P_ihY, P_hbY, den_s, den_c, Int.add_zero, List.map_cons, List.map_nil, g4.eq, g5.eq, g6.eq, g13.eq, g14.eq, g15.eq, g16.eq, g17.eq, g18.eq, h1, h2, h9, h10, h11, h12, h13, h14, h15, h16, h25, h35, h36, h37, h38, h39, h40, h41, h42] at f1 f2 f3 f4 f5 f6 f7 f8 ⊢
  have h0 : hqY r13 r14 r4 r5 r6 a35 a36 a37 a38 a39 a40 a41 a42 a11 a12 a13 a14 a15 a16 0 r18 := f1 (by omega) (by omega)
  rw [show r18 = 1 by omega] at h0
  exact ⟨⟨f2, f3⟩, 0, 0, Or.inl ⟨by first | rfl | trivial, h0⟩, fun q => by exfalso; omega, fun q => by exfalso; omega⟩)
def w_hushBy_1_0 : VC := ((bY ++ [(0, 6), (0, 8), (0, 10), (0, 11), ((-2147483648), 2147483647), ((-2147483648), 2147483647)]), [(3, [(some 13, 0), (some 5, 0)], []), (106, [(some 14, 0), (some 15, 0)], [1, 2, 35, 36, 37, 38, 39, 40]), (105, [(some 4, 0)], [9, 10, 41, 42]), (218, [(some 13, 0), (some 14, 0), (some 15, 0), (some 4, 0), (some 5, 0), (some 6, 0)], [35, 36, 37, 38, 39, 40, 41, 42, 11, 12, 13, 14, 15, 16]), (0, [(some 16, 0), (some 15, 0)], []), (0, [(some 17, 0), (none, 0)], []), (0, [(some 4, 0), (some 4, 0)], []), (3, [(some 5, 0), (some 13, 0)], []), (78, [], [1])], (220, [(none, 0), (some 14, 0), (some 15, 0), (some 4, 0), (some 5, 0), (some 6, 0)], [35, 36, 37, 38, 39, 40, 41, 42, 11, 12, 13, 14, 15, 16]))
theorem pe220_18 {PT : PTy} (hp : HP18 PT) : PT 220 = P_hv3 := hp.2.2.2.2.2.2.2.2.2.1
set_option maxRecDepth 20000 in
theorem v_hushBy_1_0 {PT : PTy} (hp : HP18 PT) : vcOk PT w_hushBy_1_0 := vc_iv [(4, 0, 8), (5, 0, 6), (6, 0, 6), (13, 0, 6), (14, 0, 8), (15, 0, 10), (16, 0, 11), (17, (-2147483648), 2147483647)] [1, 2, 9, 10, 11, 12, 13, 14, 15, 16, 35, 36, 37, 38, 39, 40, 41, 42] (by decide +kernel) (fun ρ α => by
  intro r4 g4 b4 r5 g5 b5 r6 g6 b6 r13 g13 b13 r14 g14 b14 r15 g15 b15 r16 g16 b16 r17 g17 b17 a1 h1 a2 h2 a9 h9 a10 h10 a11 h11 a12 h12 a13 h13 a14 h14 a15 h15 a16 h16 a35 h35 a36 h36 a37 h37 a38 h38 a39 h39 a40 h40 a41 h41 a42 h42 f0 f1 f2 f3 f4 f5 f6 f7 f8 tt
  have e78 : PT 78 = P_ly := pe78_18 hp
  have e105 : PT 105 = P_cp2 := pe105_18 hp
  have e106 : PT 106 = P_rd := pe106_18 hp
  have e218 : PT 218 = P_hv1 := pe218_18 hp
  have e220 : PT 220 = P_hv3 := pe220_18 hp
  simp only [hF0, hF3, hFp_78, hFp_105, hFp_106, hFp_218, hFp_220, e78, e105, e106, e218, e220, P_ly, P_cp2, P_rd, P_hv1, P_hv3, den_s, den_c, Int.add_zero, List.map_cons, List.map_nil, g4.eq, g5.eq, g6.eq, g13.eq, g14.eq, g15.eq, g16.eq, g17.eq, h1, h2, h9, h10, h11, h12, h13, h14, h15, h16, h35, h36, h37, h38, h39, h40, h41, h42] at f0 f1 f2 f3 f4 f5 f6 f7 f8 ⊢
  have u := f3
  rw [show r13 = r5 by omega] at u
  exact ⟨u, fun j k h1 h2 => by exfalso; omega⟩)
def w_hushBy_1_1 : VC := ((bY ++ [(0, 6), (0, 8), (0, 10), (0, 11), ((-2147483648), 2147483647), ((-2147483648), 2147483647)]), [(3, [(some 13, 0), (some 5, 0)], []), (106, [(some 14, 0), (some 15, 0)], [1, 2, 35, 36, 37, 38, 39, 40]), (105, [(some 4, 0)], [9, 10, 41, 42]), (218, [(some 13, 0), (some 14, 0), (some 15, 0), (some 4, 0), (some 5, 0), (some 6, 0)], [35, 36, 37, 38, 39, 40, 41, 42, 11, 12, 13, 14, 15, 16]), (0, [(some 16, 0), (some 15, 0)], []), (0, [(some 17, 0), (none, 0)], []), (0, [(some 4, 0), (some 4, 0)], []), (3, [(some 5, 0), (some 13, 0)], []), (78, [], [1])], (3, [(some 5, 0), (none, 0)], []))
set_option maxRecDepth 20000 in
theorem v_hushBy_1_1 {PT : PTy} (hp : HP18 PT) : vcOk PT w_hushBy_1_1 := vc_iv [(4, 0, 8), (5, 0, 6), (6, 0, 6), (13, 0, 6), (14, 0, 8), (15, 0, 10), (16, 0, 11), (17, (-2147483648), 2147483647)] [1, 2, 9, 10, 11, 12, 13, 14, 15, 16, 35, 36, 37, 38, 39, 40, 41, 42] (by decide +kernel) (fun ρ α => by
  intro r4 g4 b4 r5 g5 b5 r6 g6 b6 r13 g13 b13 r14 g14 b14 r15 g15 b15 r16 g16 b16 r17 g17 b17 a1 h1 a2 h2 a9 h9 a10 h10 a11 h11 a12 h12 a13 h13 a14 h14 a15 h15 a16 h16 a35 h35 a36 h36 a37 h37 a38 h38 a39 h39 a40 h40 a41 h41 a42 h42 f0 f1 f2 f3 f4 f5 f6 f7 f8 tt
  have e78 : PT 78 = P_ly := pe78_18 hp
  have e105 : PT 105 = P_cp2 := pe105_18 hp
  have e106 : PT 106 = P_rd := pe106_18 hp
  have e218 : PT 218 = P_hv1 := pe218_18 hp
  simp only [hF0, hF3, hFp_78, hFp_105, hFp_106, hFp_218, e78, e105, e106, e218, P_ly, P_cp2, P_rd, P_hv1, den_s, den_c, Int.add_zero, List.map_cons, List.map_nil, g4.eq, g5.eq, g6.eq, g13.eq, g14.eq, g15.eq, g16.eq, g17.eq, h1, h2, h9, h10, h11, h12, h13, h14, h15, h16, h35, h36, h37, h38, h39, h40, h41, h42] at f0 f1 f2 f3 f4 f5 f6 f7 f8 ⊢
  omega)
def w_hushBy_1_2 : VC := (([(0, 23), (0, 49), (0, 8), (0, 10), (0, 8), (1, 6), (0, 6), (0, 8), (0, 11), (0, 9), ((-2147483648), 2147483647), ((-2147483648), 2147483647), (0, 5), (0, 5), (0, 8), (0, 10), (0, 11), ((-2147483648), 2147483647), ((-2147483648), 2147483647), (1, 32), (0, 0)]), [(0, [(some 20, 0), (none, 0)], []), (217, [(some 20, 0), (some 19, 0), (some 14, 0), (some 15, 0), (some 4, 0), (some 5, 0), (some 6, 0), (some 16, 0), (some 17, 0)], [35, 36, 37, 38, 39, 40, 41, 42, 11, 12, 13, 14, 15, 16]), (13, [(some 19, 0), (none, 1), (some 13, 0)], []), (21, [(none, 0), (some 13, 0)], [50, 49]), (2, [(some 13, 0), (some 5, 0)], []), (106, [(some 14, 0), (some 15, 0)], [1, 2, 35, 36, 37, 38, 39, 40]), (105, [(some 4, 0)], [9, 10, 41, 42]), (218, [(some 13, 0), (some 14, 0), (some 15, 0), (some 4, 0), (some 5, 0), (some 6, 0)], [35, 36, 37, 38, 39, 40, 41, 42, 11, 12, 13, 14, 15, 16]), (0, [(some 16, 0), (some 15, 0)], []), (0, [(some 17, 0), (none, 0)], []), (0, [(some 4, 0), (some 4, 0)], []), (3, [(some 5, 0), (some 13, 0)], []), (78, [], [1])], (218, [(some 13, 1), (some 14, 0), (some 15, 0), (some 4, 0), (some 5, 0), (some 6, 0)], [35, 36, 37, 38, 39, 40, 41, 42, 11, 12, 13, 14, 15, 16]))
set_option maxRecDepth 20000 in
theorem v_hushBy_1_2 {PT : PTy} (hp : HP18 PT) : vcOk PT w_hushBy_1_2 := vc_iv [(4, 0, 8), (5, 1, 6), (6, 0, 6), (13, 0, 5), (14, 0, 8), (15, 0, 10), (16, 0, 11), (17, (-2147483648), 2147483647), (19, 1, 32), (20, 0, 0)] [1, 2, 9, 10, 11, 12, 13, 14, 15, 16, 35, 36, 37, 38, 39, 40, 41, 42, 49, 50] (by decide +kernel) (fun ρ α => by
  intro r4 g4 b4 r5 g5 b5 r6 g6 b6 r13 g13 b13 r14 g14 b14 r15 g15 b15 r16 g16 b16 r17 g17 b17 r19 g19 b19 r20 g20 b20 a1 h1 a2 h2 a9 h9 a10 h10 a11 h11 a12 h12 a13 h13 a14 h14 a15 h15 a16 h16 a35 h35 a36 h36 a37 h37 a38 h38 a39 h39 a40 h40 a41 h41 a42 h42 a49 h49 a50 h50 f0 f1 f2 f3 f4 f5 f6 f7 f8 f9 f10 f11 f12 tt
  have e78 : PT 78 = P_ly := pe78_18 hp
  have e105 : PT 105 = P_cp2 := pe105_18 hp
  have e106 : PT 106 = P_rd := pe106_18 hp
  have e217 : PT 217 = P_ihY := pe217_18 hp
  have e218 : PT 218 = P_hv1 := pe218_18 hp
  simp only [hF0, hF2, hF3, hF13, hF21, hFp_78, hFp_105, hFp_106, hFp_217, hFp_218, e78, e105, e106, e217, e218, P_ly, P_cp2, P_rd, P_ihY, P_hv1, den_s, den_c, Int.add_zero, List.map_cons, List.map_nil, g4.eq, g5.eq, g6.eq, g13.eq, g14.eq, g15.eq, g16.eq, g17.eq, g19.eq, g20.eq, h1, h2, h9, h10, h11, h12, h13, h14, h15, h16, h35, h36, h37, h38, h39, h40, h41, h42, h49, h50] at f0 f1 f2 f3 f4 f5 f6 f7 f8 f9 f10 f11 f12 ⊢
  subst f2
  subst f3
  have h0 : hqY r14 r15 r4 r5 r6 a35 a36 a37 a38 a39 a40 a41 a42 a11 a12 a13 a14 a15 a16 (mShl 1 r13) r20 := f1 (by omega) (by omega)
  rw [show r20 = 0 by omega] at h0
  obtain ⟨u1, u2⟩ := f7
  exact ⟨u1, fun j h1 h2 => by
    by_cases q : j = r13
    · subst q; exact h0
    · exact u2 j h1 (by omega)⟩)
def w_hushBy_1_3 : VC := (([(0, 23), (0, 49), (0, 8), (0, 10), (0, 8), (1, 6), (0, 6), (0, 8), (0, 11), (0, 9), ((-2147483648), 2147483647), ((-2147483648), 2147483647), (0, 5), (0, 5), (0, 8), (0, 10), (0, 11), ((-2147483648), 2147483647), ((-2147483648), 2147483647), (1, 32), (0, 0)]), [(0, [(some 20, 0), (none, 0)], []), (217, [(some 20, 0), (some 19, 0), (some 14, 0), (some 15, 0), (some 4, 0), (some 5, 0), (some 6, 0), (some 16, 0), (some 17, 0)], [35, 36, 37, 38, 39, 40, 41, 42, 11, 12, 13, 14, 15, 16]), (13, [(some 19, 0), (none, 1), (some 13, 0)], []), (21, [(none, 0), (some 13, 0)], [50, 49]), (2, [(some 13, 0), (some 5, 0)], []), (106, [(some 14, 0), (some 15, 0)], [1, 2, 35, 36, 37, 38, 39, 40]), (105, [(some 4, 0)], [9, 10, 41, 42]), (218, [(some 13, 0), (some 14, 0), (some 15, 0), (some 4, 0), (some 5, 0), (some 6, 0)], [35, 36, 37, 38, 39, 40, 41, 42, 11, 12, 13, 14, 15, 16]), (0, [(some 16, 0), (some 15, 0)], []), (0, [(some 17, 0), (none, 0)], []), (0, [(some 4, 0), (some 4, 0)], []), (3, [(some 5, 0), (some 13, 0)], []), (78, [], [1])], (3, [(some 5, 0), (some 13, 1)], []))
set_option maxRecDepth 20000 in
theorem v_hushBy_1_3 {PT : PTy} (hp : HP18 PT) : vcOk PT w_hushBy_1_3 := vc_iv [(4, 0, 8), (5, 1, 6), (6, 0, 6), (13, 0, 5), (14, 0, 8), (15, 0, 10), (16, 0, 11), (17, (-2147483648), 2147483647), (19, 1, 32), (20, 0, 0)] [1, 2, 9, 10, 11, 12, 13, 14, 15, 16, 35, 36, 37, 38, 39, 40, 41, 42, 49, 50] (by decide +kernel) (fun ρ α => by
  intro r4 g4 b4 r5 g5 b5 r6 g6 b6 r13 g13 b13 r14 g14 b14 r15 g15 b15 r16 g16 b16 r17 g17 b17 r19 g19 b19 r20 g20 b20 a1 h1 a2 h2 a9 h9 a10 h10 a11 h11 a12 h12 a13 h13 a14 h14 a15 h15 a16 h16 a35 h35 a36 h36 a37 h37 a38 h38 a39 h39 a40 h40 a41 h41 a42 h42 a49 h49 a50 h50 f0 f1 f2 f3 f4 f5 f6 f7 f8 f9 f10 f11 f12 tt
  have e78 : PT 78 = P_ly := pe78_18 hp
  have e105 : PT 105 = P_cp2 := pe105_18 hp
  have e106 : PT 106 = P_rd := pe106_18 hp
  have e217 : PT 217 = P_ihY := pe217_18 hp
  have e218 : PT 218 = P_hv1 := pe218_18 hp
  simp only [hF0, hF2, hF3, hF13, hF21, hFp_78, hFp_105, hFp_106, hFp_217, hFp_218, e78, e105, e106, e217, e218, P_ly, P_cp2, P_rd, P_ihY, P_hv1, den_s, den_c, Int.add_zero, List.map_cons, List.map_nil, g4.eq, g5.eq, g6.eq, g13.eq, g14.eq, g15.eq, g16.eq, g17.eq, g19.eq, g20.eq, h1, h2, h9, h10, h11, h12, h13, h14, h15, h16, h35, h36, h37, h38, h39, h40, h41, h42, h49, h50] at f0 f1 f2 f3 f4 f5 f6 f7 f8 f9 f10 f11 f12 ⊢
  subst f2
  subst f3
  omega)
def w_hushBy_1_4 : VC := (([(0, 23), (0, 49), (0, 8), (0, 10), (0, 8), (1, 6), (0, 6), (0, 8), (0, 11), (0, 9), ((-2147483648), 2147483647), ((-2147483648), 2147483647), (0, 5), (0, 5), (0, 8), (0, 10), (0, 11), ((-2147483648), 2147483647), ((-2147483648), 2147483647), (1, 32), (1, 1)]), [(1, [(some 20, 0), (none, 0)], []), (217, [(some 20, 0), (some 19, 0), (some 14, 0), (some 15, 0), (some 4, 0), (some 5, 0), (some 6, 0), (some 16, 0), (some 17, 0)], [35, 36, 37, 38, 39, 40, 41, 42, 11, 12, 13, 14, 15, 16]), (13, [(some 19, 0), (none, 1), (some 13, 0)], []), (21, [(none, 0), (some 13, 0)], [50, 49]), (2, [(some 13, 0), (some 5, 0)], []), (106, [(some 14, 0), (some 15, 0)], [1, 2, 35, 36, 37, 38, 39, 40]), (105, [(some 4, 0)], [9, 10, 41, 42]), (218, [(some 13, 0), (some 14, 0), (some 15, 0), (some 4, 0), (some 5, 0), (some 6, 0)], [35, 36, 37, 38, 39, 40, 41, 42, 11, 12, 13, 14, 15, 16]), (0, [(some 16, 0), (some 15, 0)], []), (0, [(some 17, 0), (none, 0)], []), (0, [(some 4, 0), (some 4, 0)], []), (3, [(some 5, 0), (some 13, 0)], []), (78, [], [1])], (221, [(none, 1), (some 14, 0), (some 15, 0), (some 4, 0), (some 5, 0), (some 6, 0)], [1, 2, 35, 36, 37, 38, 39, 40, 41, 42, 9, 10, 11, 12, 13, 14, 15, 16, 50]))
set_option maxRecDepth 20000 in
theorem v_hushBy_1_4 {PT : PTy} (hp : HP18 PT) : vcOk PT w_hushBy_1_4 := vc_iv [(4, 0, 8), (5, 1, 6), (6, 0, 6), (13, 0, 5), (14, 0, 8), (15, 0, 10), (16, 0, 11), (17, (-2147483648), 2147483647), (19, 1, 32), (20, 1, 1)] [1, 2, 9, 10, 11, 12, 13, 14, 15, 16, 35, 36, 37, 38, 39, 40, 41, 42, 49, 50] (by decide +kernel) (fun ρ α => by
  intro r4 g4 b4 r5 g5 b5 r6 g6 b6 r13 g13 b13 r14 g14 b14 r15 g15 b15 r16 g16 b16 r17 g17 b17 r19 g19 b19 r20 g20 b20 a1 h1 a2 h2 a9 h9 a10 h10 a11 h11 a12 h12 a13 h13 a14 h14 a15 h15 a16 h16 a35 h35 a36 h36 a37 h37 a38 h38 a39 h39 a40 h40 a41 h41 a42 h42 a49 h49 a50 h50 f0 f1 f2 f3 f4 f5 f6 f7 f8 f9 f10 f11 f12 tt
  clear f0
  have e78 : PT 78 = P_ly := pe78_18 hp
  have e105 : PT 105 = P_cp2 := pe105_18 hp
  have e106 : PT 106 = P_rd := pe106_18 hp
  have e217 : PT 217 = P_ihY := pe217_18 hp
  have e218 : PT 218 = P_hv1 := pe218_18 hp
  have e221 : PT 221 = P_hbY := pe221_18 hp
  simp only [hF0, hF2, hF3, hF13, hF21, hFp_78, hFp_105, hFp_106, hFp_217, hFp_218, hFp_221, e78, e105, e106, e217, e218, e221, P_ly, P_cp2, P_rd, P_ihY, P_hv1, P_hbY, den_s, den_c, Int.add_zero, List.map_cons, List.map_nil, g4.eq, g5.eq, g6.eq, g13.eq, g14.eq, g15.eq, g16.eq, g17.eq, g19.eq, g20.eq, h1, h2, h9, h10, h11, h12, h13, h14, h15, h16, h35, h36, h37, h38, h39, h40, h41, h42, h49, h50] at f1 f2 f3 f4 f5 f6 f7 f8 f9 f10 f11 f12 ⊢
  subst f2
  subst f3
  have h0 : hqY r14 r15 r4 r5 r6 a35 a36 a37 a38 a39 a40 a41 a42 a11 a12 a13 a14 a15 a16 (mShl 1 r13) r20 := f1 (by omega) (by omega)
  rw [show r20 = 1 by omega] at h0
  exact ⟨⟨f5, f6⟩, r13, 0, Or.inr (Or.inl ⟨by first | rfl | trivial, by omega, by omega, f7, h0⟩), fun _ => (by rw [updI_at]), fun q => by exfalso; omega⟩)
def w_hushBy_2_0 : VC := ((bY ++ [(0, 6), (0, 8), (0, 10), (0, 11), ((-2147483648), 2147483647), ((-2147483648), 2147483647)]), [(3, [(some 13, 0), (some 5, 0)], []), (106, [(some 14, 0), (some 15, 0)], [1, 2, 35, 36, 37, 38, 39, 40]), (105, [(some 4, 0)], [9, 10, 41, 42]), (220, [(some 13, 0), (some 14, 0), (some 15, 0), (some 4, 0), (some 5, 0), (some 6, 0)], [35, 36, 37, 38, 39, 40, 41, 42, 11, 12, 13, 14, 15, 16]), (0, [(some 16, 0), (some 15, 0)], []), (0, [(some 17, 0), (none, 0)], []), (0, [(some 4, 0), (some 4, 0)], []), (3, [(some 5, 0), (some 13, 0)], []), (78, [], [1])], (221, [(none, (-1)), (some 14, 0), (some 15, 0), (some 4, 0), (some 5, 0), (some 6, 0)], [1, 2, 35, 36, 37, 38, 39, 40, 41, 42, 9, 10, 11, 12, 13, 14, 15, 16, 49]))
set_option maxRecDepth 20000 in
theorem v_hushBy_2_0 {PT : PTy} (hp : HP18 PT) : vcOk PT w_hushBy_2_0 := vc_iv [(4, 0, 8), (5, 0, 6), (6, 0, 6), (13, 0, 6), (14, 0, 8), (15, 0, 10), (16, 0, 11), (17, (-2147483648), 2147483647)] [1, 2, 9, 10, 11, 12, 13, 14, 15, 16, 35, 36, 37, 38, 39, 40, 41, 42, 49] (by decide +kernel) (fun ρ α => by
  intro r4 g4 b4 r5 g5 b5 r6 g6 b6 r13 g13 b13 r14 g14 b14 r15 g15 b15 r16 g16 b16 r17 g17 b17 a1 h1 a2 h2 a9 h9 a10 h10 a11 h11 a12 h12 a13 h13 a14 h14 a15 h15 a16 h16 a35 h35 a36 h36 a37 h37 a38 h38 a39 h39 a40 h40 a41 h41 a42 h42 a49 h49 f0 f1 f2 f3 f4 f5 f6 f7 f8 tt
  have e78 : PT 78 = P_ly := pe78_18 hp
  have e105 : PT 105 = P_cp2 := pe105_18 hp
  have e106 : PT 106 = P_rd := pe106_18 hp
  have e220 : PT 220 = P_hv3 := pe220_18 hp
  have e221 : PT 221 = P_hbY := pe221_18 hp
  simp only [hF0, hF3, hFp_78, hFp_105, hFp_106, hFp_220, hFp_221, e78, e105, e106, e220, e221, P_ly, P_cp2, P_rd, P_hv3, P_hbY, den_s, den_c, Int.add_zero, List.map_cons, List.map_nil, g4.eq, g5.eq, g6.eq, g13.eq, g14.eq, g15.eq, g16.eq, g17.eq, h1, h2, h9, h10, h11, h12, h13, h14, h15, h16, h35, h36, h37, h38, h39, h40, h41, h42, h49] at f0 f1 f2 f3 f4 f5 f6 f7 f8 ⊢
  have u := f3
  rw [show r13 = r5 by omega] at u
  exact ⟨⟨f1, f2⟩, 0, 0, Or.inr (Or.inr (Or.inr ⟨by first | rfl | trivial, u⟩)), fun q => by exfalso; omega, fun q => by exfalso; omega⟩)
def w_hushBy_2_1 : VC := (([(0, 23), (0, 49), (0, 8), (0, 10), (0, 8), (1, 6), (0, 6), (0, 8), (0, 11), (0, 9), ((-2147483648), 2147483647), ((-2147483648), 2147483647), (0, 5), (0, 5), (0, 8), (0, 10), (0, 11), ((-2147483648), 2147483647), ((-2147483648), 2147483647)]), [(2, [(some 13, 0), (some 5, 0)], []), (106, [(some 14, 0), (some 15, 0)], [1, 2, 35, 36, 37, 38, 39, 40]), (105, [(some 4, 0)], [9, 10, 41, 42]), (220, [(some 13, 0), (some 14, 0), (some 15, 0), (some 4, 0), (some 5, 0), (some 6, 0)], [35, 36, 37, 38, 39, 40, 41, 42, 11, 12, 13, 14, 15, 16]), (0, [(some 16, 0), (some 15, 0)], []), (0, [(some 17, 0), (none, 0)], []), (0, [(some 4, 0), (some 4, 0)], []), (3, [(some 5, 0), (some 13, 0)], []), (78, [], [1])], (219, [(some 13, 0), (some 13, 1), (some 14, 0), (some 15, 0), (some 4, 0), (some 5, 0), (some 6, 0)], [35, 36, 37, 38, 39, 40, 41, 42, 11, 12, 13, 14, 15, 16]))
theorem pe219_18 {PT : PTy} (hp : HP18 PT) : PT 219 = P_hv2 := hp.2.2.2.2.2.2.2.2.1
set_option maxRecDepth 20000 in
theorem v_hushBy_2_1 {PT : PTy} (hp : HP18 PT) : vcOk PT w_hushBy_2_1 := vc_iv [(4, 0, 8), (5, 1, 6), (6, 0, 6), (13, 0, 5), (14, 0, 8), (15, 0, 10), (16, 0, 11), (17, (-2147483648), 2147483647)] [1, 2, 9, 10, 11, 12, 13, 14, 15, 16, 35, 36, 37, 38, 39, 40, 41, 42] (by decide +kernel) (fun ρ α => by
  intro r4 g4 b4 r5 g5 b5 r6 g6 b6 r13 g13 b13 r14 g14 b14 r15 g15 b15 r16 g16 b16 r17 g17 b17 a1 h1 a2 h2 a9 h9 a10 h10 a11 h11 a12 h12 a13 h13 a14 h14 a15 h15 a16 h16 a35 h35 a36 h36 a37 h37 a38 h38 a39 h39 a40 h40 a41 h41 a42 h42 f0 f1 f2 f3 f4 f5 f6 f7 f8 tt
  have e78 : PT 78 = P_ly := pe78_18 hp
  have e105 : PT 105 = P_cp2 := pe105_18 hp
  have e106 : PT 106 = P_rd := pe106_18 hp
  have e219 : PT 219 = P_hv2 := pe219_18 hp
  have e220 : PT 220 = P_hv3 := pe220_18 hp
  simp only [hF0, hF2, hF3, hFp_78, hFp_105, hFp_106, hFp_219, hFp_220, e78, e105, e106, e219, e220, P_ly, P_cp2, P_rd, P_hv2, P_hv3, den_s, den_c, Int.add_zero, List.map_cons, List.map_nil, g4.eq, g5.eq, g6.eq, g13.eq, g14.eq, g15.eq, g16.eq, g17.eq, h1, h2, h9, h10, h11, h12, h13, h14, h15, h16, h35, h36, h37, h38, h39, h40, h41, h42] at f0 f1 f2 f3 f4 f5 f6 f7 f8 ⊢
  obtain ⟨u1, u2⟩ := f3
  exact ⟨u1, u2, fun k h1 h2 => by exfalso; omega⟩)
def w_hushBy_2_2 : VC := (([(0, 23), (0, 49), (0, 8), (0, 10), (0, 8), (1, 6), (0, 6), (0, 8), (0, 11), (0, 9), ((-2147483648), 2147483647), ((-2147483648), 2147483647), (0, 5), (0, 5), (0, 8), (0, 10), (0, 11), ((-2147483648), 2147483647), ((-2147483648), 2147483647)]), [(2, [(some 13, 0), (some 5, 0)], []), (106, [(some 14, 0), (some 15, 0)], [1, 2, 35, 36, 37, 38, 39, 40]), (105, [(some 4, 0)], [9, 10, 41, 42]), (220, [(some 13, 0), (some 14, 0), (some 15, 0), (some 4, 0), (some 5, 0), (some 6, 0)], [35, 36, 37, 38, 39, 40, 41, 42, 11, 12, 13, 14, 15, 16]), (0, [(some 16, 0), (some 15, 0)], []), (0, [(some 17, 0), (none, 0)], []), (0, [(some 4, 0), (some 4, 0)], []), (3, [(some 5, 0), (some 13, 0)], []), (78, [], [1])], (3, [(some 5, 0), (some 13, 1)], []))
set_option maxRecDepth 20000 in
theorem v_hushBy_2_2 {PT : PTy} (hp : HP18 PT) : vcOk PT w_hushBy_2_2 := vc_iv [(4, 0, 8), (5, 1, 6), (6, 0, 6), (13, 0, 5), (14, 0, 8), (15, 0, 10), (16, 0, 11), (17, (-2147483648), 2147483647)] [1, 2, 9, 10, 11, 12, 13, 14, 15, 16, 35, 36, 37, 38, 39, 40, 41, 42] (by decide +kernel) (fun ρ α => by
  intro r4 g4 b4 r5 g5 b5 r6 g6 b6 r13 g13 b13 r14 g14 b14 r15 g15 b15 r16 g16 b16 r17 g17 b17 a1 h1 a2 h2 a9 h9 a10 h10 a11 h11 a12 h12 a13 h13 a14 h14 a15 h15 a16 h16 a35 h35 a36 h36 a37 h37 a38 h38 a39 h39 a40 h40 a41 h41 a42 h42 f0 f1 f2 f3 f4 f5 f6 f7 f8 tt
  have e78 : PT 78 = P_ly := pe78_18 hp
  have e105 : PT 105 = P_cp2 := pe105_18 hp
  have e106 : PT 106 = P_rd := pe106_18 hp
  have e220 : PT 220 = P_hv3 := pe220_18 hp
  simp only [hF0, hF2, hF3, hFp_78, hFp_105, hFp_106, hFp_220, e78, e105, e106, e220, P_ly, P_cp2, P_rd, P_hv3, den_s, den_c, Int.add_zero, List.map_cons, List.map_nil, g4.eq, g5.eq, g6.eq, g13.eq, g14.eq, g15.eq, g16.eq, g17.eq, h1, h2, h9, h10, h11, h12, h13, h14, h15, h16, h35, h36, h37, h38, h39, h40, h41, h42] at f0 f1 f2 f3 f4 f5 f6 f7 f8 ⊢
  omega)
def w_hushBy_2_3 : VC := (([(0, 23), (0, 49), (0, 8), (0, 10), (0, 8), (1, 6), (0, 6), (0, 8), (0, 11), (0, 9), ((-2147483648), 2147483647), ((-2147483648), 2147483647), (0, 5), (0, 5), (0, 8), (0, 10), (0, 11), ((-2147483648), 2147483647), ((-2147483648), 2147483647)]), [(2, [(some 13, 0), (some 5, 0)], []), (106, [(some 14, 0), (some 15, 0)], [1, 2, 35, 36, 37, 38, 39, 40]), (105, [(some 4, 0)], [9, 10, 41, 42]), (220, [(some 13, 0), (some 14, 0), (some 15, 0), (some 4, 0), (some 5, 0), (some 6, 0)], [35, 36, 37, 38, 39, 40, 41, 42, 11, 12, 13, 14, 15, 16]), (0, [(some 16, 0), (some 15, 0)], []), (0, [(some 17, 0), (none, 0)], []), (0, [(some 4, 0), (some 4, 0)], []), (3, [(some 5, 0), (some 13, 0)], []), (78, [], [1])], (2, [(some 13, 0), (some 13, 1)], []))
set_option maxRecDepth 20000 in
theorem v_hushBy_2_3 {PT : PTy} (hp : HP18 PT) : vcOk PT w_hushBy_2_3 := vc_iv [(4, 0, 8), (5, 1, 6), (6, 0, 6), (13, 0, 5), (14, 0, 8), (15, 0, 10), (16, 0, 11), (17, (-2147483648), 2147483647)] [1, 2, 9, 10, 11, 12, 13, 14, 15, 16, 35, 36, 37, 38, 39, 40, 41, 42] (by decide +kernel) (fun ρ α => by
  intro r4 g4 b4 r5 g5 b5 r6 g6 b6 r13 g13 b13 r14 g14 b14 r15 g15 b15 r16 g16 b16 r17 g17 b17 a1 h1 a2 h2 a9 h9 a10 h10 a11 h11 a12 h12 a13 h13 a14 h14 a15 h15 a16 h16 a35 h35 a36 h36 a37 h37 a38 h38 a39 h39 a40 h40 a41 h41 a42 h42 f0 f1 f2 f3 f4 f5 f6 f7 f8 tt
  have e78 : PT 78 = P_ly := pe78_18 hp
  have e105 : PT 105 = P_cp2 := pe105_18 hp
  have e106 : PT 106 = P_rd := pe106_18 hp
  have e220 : PT 220 = P_hv3 := pe220_18 hp
  simp only [hF0, hF2, hF3, hFp_78, hFp_105, hFp_106, hFp_220, e78, e105, e106, e220, P_ly, P_cp2, P_rd, P_hv3, den_s, den_c, Int.add_zero, List.map_cons, List.map_nil, g4.eq, g5.eq, g6.eq, g13.eq, g14.eq, g15.eq, g16.eq, g17.eq, h1, h2, h9, h10, h11, h12, h13, h14, h15, h16, h35, h36, h37, h38, h39, h40, h41, h42] at f0 f1 f2 f3 f4 f5 f6 f7 f8 ⊢
  omega)
def w_hushBy_3_0 : VC := (([(0, 23), (0, 49), (0, 8), (0, 10), (0, 8), (1, 6), (0, 6), (0, 8), (0, 11), (0, 9), ((-2147483648), 2147483647), ((-2147483648), 2147483647), (0, 5), (0, 5), (1, 6), (0, 8), (0, 10), (0, 11), ((-2147483648), 2147483647), ((-2147483648), 2147483647)]), [(3, [(some 14, 0), (some 5, 0)], []), (106, [(some 15, 0), (some 16, 0)], [1, 2, 35, 36, 37, 38, 39, 40]), (105, [(some 4, 0)], [9, 10, 41, 42]), (219, [(some 13, 0), (some 14, 0), (some 15, 0), (some 16, 0), (some 4, 0), (some 5, 0), (some 6, 0)], [35, 36, 37, 38, 39, 40, 41, 42, 11, 12, 13, 14, 15, 16]), (0, [(some 17, 0), (some 16, 0)], []), (0, [(some 18, 0), (none, 0)], []), (0, [(some 4, 0), (some 4, 0)], []), (3, [(some 5, 0), (some 14, 0)], []), (2, [(some 13, 0), (some 14, 0)], []), (2, [(some 13, 0), (some 5, 0)], []), (78, [], [1])], (220, [(some 13, 1), (some 15, 0), (some 16, 0), (some 4, 0), (some 5, 0), (some 6, 0)], [35, 36, 37, 38, 39, 40, 41, 42, 11, 12, 13, 14, 15, 16]))
set_option maxRecDepth 20000 in
theorem v_hushBy_3_0 {PT : PTy} (hp : HP18 PT) : vcOk PT w_hushBy_3_0 := vc_iv [(4, 0, 8), (5, 1, 6), (6, 0, 6), (13, 0, 5), (14, 1, 6), (15, 0, 8), (16, 0, 10), (17, 0, 11), (18, (-2147483648), 2147483647)] [1, 2, 9, 10, 11, 12, 13, 14, 15, 16, 35, 36, 37, 38, 39, 40, 41, 42] (by decide +kernel) (fun ρ α => by
  intro r4 g4 b4 r5 g5 b5 r6 g6 b6 r13 g13 b13 r14 g14 b14 r15 g15 b15 r16 g16 b16 r17 g17 b17 r18 g18 b18 a1 h1 a2 h2 a9 h9 a10 h10 a11 h11 a12 h12 a13 h13 a14 h14 a15 h15 a16 h16 a35 h35 a36 h36 a37 h37 a38 h38 a39 h39 a40 h40 a41 h41 a42 h42 f0 f1 f2 f3 f4 f5 f6 f7 f8 f9 f10 tt
  have e78 : PT 78 = P_ly := pe78_18 hp
  have e105 : PT 105 = P_cp2 := pe105_18 hp
  have e106 : PT 106 = P_rd := pe106_18 hp
  have e219 : PT 219 = P_hv2 := pe219_18 hp
  have e220 : PT 220 = P_hv3 := pe220_18 hp
  simp only [hF0, hF2, hF3, hFp_78, hFp_105, hFp_106, hFp_219, hFp_220, e78, e105, e106, e219, e220, P_ly, P_cp2, P_rd, P_hv2, P_hv3, den_s, den_c, Int.add_zero, List.map_cons, List.map_nil, g4.eq, g5.eq, g6.eq, g13.eq, g14.eq, g15.eq, g16.eq, g17.eq, g18.eq, h1, h2, h9, h10, h11, h12, h13, h14, h15, h16, h35, h36, h37, h38, h39, h40, h41, h42] at f0 f1 f2 f3 f4 f5 f6 f7 f8 f9 f10 ⊢
  obtain ⟨u1, u2, u3⟩ := f3
  exact ⟨u1, fun j k h1 h2 h3 h4 => by
    by_cases q : j = r13
    · subst q; exact u3 k h3 (by omega)
    · exact u2 j k h1 (by omega) h3 h4⟩)
def w_hushBy_3_1 : VC := (([(0, 23), (0, 49), (0, 8), (0, 10), (0, 8), (1, 6), (0, 6), (0, 8), (0, 11), (0, 9), ((-2147483648), 2147483647), ((-2147483648), 2147483647), (0, 5), (0, 5), (1, 6), (0, 8), (0, 10), (0, 11), ((-2147483648), 2147483647), ((-2147483648), 2147483647)]), [(3, [(some 14, 0), (some 5, 0)], []), (106, [(some 15, 0), (some 16, 0)], [1, 2, 35, 36, 37, 38, 39, 40]), (105, [(some 4, 0)], [9, 10, 41, 42]), (219, [(some 13, 0), (some 14, 0), (some 15, 0), (some 16, 0), (some 4, 0), (some 5, 0), (some 6, 0)], [35, 36, 37, 38, 39, 40, 41, 42, 11, 12, 13, 14, 15, 16]), (0, [(some 17, 0), (some 16, 0)], []), (0, [(some 18, 0), (none, 0)], []), (0, [(some 4, 0), (some 4, 0)], []), (3, [(some 5, 0), (some 14, 0)], []), (2, [(some 13, 0), (some 14, 0)], []), (2, [(some 13, 0), (some 5, 0)], []), (78, [], [1])], (3, [(some 5, 0), (some 13, 1)], []))
set_option maxRecDepth 20000 in
theorem v_hushBy_3_1 {PT : PTy} (hp : HP18 PT) : vcOk PT w_hushBy_3_1 := vc_iv [(4, 0, 8), (5, 1, 6), (6, 0, 6), (13, 0, 5), (14, 1, 6), (15, 0, 8), (16, 0, 10), (17, 0, 11), (18, (-2147483648), 2147483647)] [1, 2, 9, 10, 11, 12, 13, 14, 15, 16, 35, 36, 37, 38, 39, 40, 41, 42] (by decide +kernel) (fun ρ α => by
  intro r4 g4 b4 r5 g5 b5 r6 g6 b6 r13 g13 b13 r14 g14 b14 r15 g15 b15 r16 g16 b16 r17 g17 b17 r18 g18 b18 a1 h1 a2 h2 a9 h9 a10 h10 a11 h11 a12 h12 a13 h13 a14 h14 a15 h15 a16 h16 a35 h35 a36 h36 a37 h37 a38 h38 a39 h39 a40 h40 a41 h41 a42 h42 f0 f1 f2 f3 f4 f5 f6 f7 f8 f9 f10 tt
  have e78 : PT 78 = P_ly := pe78_18 hp
  have e105 : PT 105 = P_cp2 := pe105_18 hp
  have e106 : PT 106 = P_rd := pe106_18 hp
  have e219 : PT 219 = P_hv2 := pe219_18 hp
  simp only [hF0, hF2, hF3, hFp_78, hFp_105, hFp_106, hFp_219, e78, e105, e106, e219, P_ly, P_cp2, P_rd, P_hv2, den_s, den_c, Int.add_zero, List.map_cons, List.map_nil, g4.eq, g5.eq, g6.eq, g13.eq, g14.eq, g15.eq, g16.eq, g17.eq, g18.eq, h1, h2, h9, h10, h11, h12, h13, h14, h15, h16, h35, h36, h37, h38, h39, h40, h41, h42] at f0 f1 f2 f3 f4 f5 f6 f7 f8 f9 f10 ⊢
  omega)
def w_hushBy_3_2 : VC := (([(0, 23), (0, 49), (0, 8), (0, 10), (0, 8), (2, 6), (0, 6), (0, 8), (0, 11), (0, 9), ((-2147483648), 2147483647), ((-2147483648), 2147483647), (0, 5), (0, 5), (1, 5), (0, 8), (0, 10), (0, 11), ((-2147483648), 2147483647), ((-2147483648), 2147483647), (1, 32), (2, 32), ((-2147483648), 2147483647), (0, 0)]), [(0, [(some 23, 0), (none, 0)], []), (217, [(some 23, 0), (some 22, 0), (some 15, 0), (some 16, 0), (some 4, 0), (some 5, 0), (some 6, 0), (some 17, 0), (some 18, 0)], [35, 36, 37, 38, 39, 40, 41, 42, 11, 12, 13, 14, 15, 16]), (11, [(some 22, 0), (some 20, 0), (some 21, 0)], []), (13, [(some 21, 0), (none, 1), (some 14, 0)], []), (13, [(some 20, 0), (none, 1), (some 13, 0)], []), (21, [(none, 1), (some 14, 0)], [51, 50]), (21, [(none, 0), (some 13, 0)], [50, 49]), (2, [(some 14, 0), (some 5, 0)], []), (106, [(some 15, 0), (some 16, 0)], [1, 2, 35, 36, 37, 38, 39, 40]), (105, [(some 4, 0)], [9, 10, 41, 42]), (219, [(some 13, 0), (some 14, 0), (some 15, 0), (some 16, 0), (some 4, 0), (some 5, 0), (some 6, 0)], [35, 36, 37, 38, 39, 40, 41, 42, 11, 12, 13, 14, 15, 16]), (0, [(some 17, 0), (some 16, 0)], []), (0, [(some 18, 0), (none, 0)], []), (0, [(some 4, 0), (some 4, 0)], []), (3, [(some 5, 0), (some 14, 0)], []), (2, [(some 13, 0), (some 14, 0)], []), (2, [(some 13, 0), (some 5, 0)], []), (78, [], [1])], (219, [(some 13, 0), (some 14, 1), (some 15, 0), (some 16, 0), (some 4, 0), (some 5, 0), (some 6, 0)], [35, 36, 37, 38, 39, 40, 41, 42, 11, 12, 13, 14, 15, 16]))
set_option maxRecDepth 20000 in
theorem v_hushBy_3_2 {PT : PTy} (hp : HP18 PT) : vcOk PT w_hushBy_3_2 := vc_iv [(4, 0, 8), (5, 2, 6), (6, 0, 6), (13, 0, 5), (14, 1, 5), (15, 0, 8), (16, 0, 10), (17, 0, 11), (18, (-2147483648), 2147483647), (20, 1, 32), (21, 2, 32), (22, (-2147483648), 2147483647), (23, 0, 0)] [1, 2, 9, 10, 11, 12, 13, 14, 15, 16, 35, 36, 37, 38, 39, 40, 41, 42, 49, 50, 51] (by decide +kernel) (fun ρ α => by
  intro r4 g4 b4 r5 g5 b5 r6 g6 b6 r13 g13 b13 r14 g14 b14 r15 g15 b15 r16 g16 b16 r17 g17 b17 r18 g18 b18 r20 g20 b20 r21 g21 b21 r22 g22 b22 r23 g23 b23 a1 h1 a2 h2 a9 h9 a10 h10 a11 h11 a12 h12 a13 h13 a14 h14 a15 h15 a16 h16 a35 h35 a36 h36 a37 h37 a38 h38 a39 h39 a40 h40 a41 h41 a42 h42 a49 h49 a50 h50 a51 h51 f0 f1 f2 f3 f4 f5 f6 f7 f8 f9 f10 f11 f12 f13 f14 f15 f16 f17 tt
  have e78 : PT 78 = P_ly := pe78_18 hp
  have e105 : PT 105 = P_cp2 := pe105_18 hp
  have e106 : PT 106 = P_rd := pe106_18 hp
  have e217 : PT 217 = P_ihY := pe217_18 hp
  have e219 : PT 219 = P_hv2 := pe219_18 hp
  simp only [hF0, hF2, hF3, hF11, hF13, hF21, hFp_78, hFp_105, hFp_106, hFp_217, hFp_219, e78, e105, e106, e217, e219, P_ly, P_cp2, P_rd, P_ihY, P_hv2, den_s, den_c, Int.add_zero, List.map_cons, List.map_nil, g4.eq, g5.eq, g6.eq, g13.eq, g14.eq, g15.eq, g16.eq, g17.eq, g18.eq, g20.eq, g21.eq, g22.eq, g23.eq, h1, h2, h9, h10, h11, h12, h13, h14, h15, h16, h35, h36, h37, h38, h39, h40, h41, h42, h49, h50, h51] at f0 f1 f2 f3 f4 f5 f6 f7 f8 f9 f10 f11 f12 f13 f14 f15 f16 f17 ⊢
  subst f2
  subst f3
  subst f4
  subst f5
  subst f6
  have h0 : hqY r15 r16 r4 r5 r6 a35 a36 a37 a38 a39 a40 a41 a42 a11 a12 a13 a14 a15 a16 (mOr (mShl 1 r13) (mShl 1 r14)) r23 := f1 (by omega) (by omega)
  rw [show r23 = 0 by omega] at h0
  obtain ⟨u1, u2, u3⟩ := f10
  exact ⟨u1, u2, fun k h1 h2 => by
    by_cases q : k = r14
    · subst q; exact h0
    · exact u3 k h1 (by omega)⟩)
def w_hushBy_3_3 : VC := (([(0, 23), (0, 49), (0, 8), (0, 10), (0, 8), (2, 6), (0, 6), (0, 8), (0, 11), (0, 9), ((-2147483648), 2147483647), ((-2147483648), 2147483647), (0, 5), (0, 5), (1, 5), (0, 8), (0, 10), (0, 11), ((-2147483648), 2147483647), ((-2147483648), 2147483647), (1, 32), (2, 32), ((-2147483648), 2147483647), (0, 0)]), [(0, [(some 23, 0), (none, 0)], []), (217, [(some 23, 0), (some 22, 0), (some 15, 0), (some 16, 0), (some 4, 0), (some 5, 0), (some 6, 0), (some 17, 0), (some 18, 0)], [35, 36, 37, 38, 39, 40, 41, 42, 11, 12, 13, 14, 15, 16]), (11, [(some 22, 0), (some 20, 0), (some 21, 0)], []), (13, [(some 21, 0), (none, 1), (some 14, 0)], []), (13, [(some 20, 0), (none, 1), (some 13, 0)], []), (21, [(none, 1), (some 14, 0)], [51, 50]), (21, [(none, 0), (some 13, 0)], [50, 49]), (2, [(some 14, 0), (some 5, 0)], []), (106, [(some 15, 0), (some 16, 0)], [1, 2, 35, 36, 37, 38, 39, 40]), (105, [(some 4, 0)], [9, 10, 41, 42]), (219, [(some 13, 0), (some 14, 0), (some 15, 0), (some 16, 0), (some 4, 0), (some 5, 0), (some 6, 0)], [35, 36, 37, 38, 39, 40, 41, 42, 11, 12, 13, 14, 15, 16]), (0, [(some 17, 0), (some 16, 0)], []), (0, [(some 18, 0), (none, 0)], []), (0, [(some 4, 0), (some 4, 0)], []), (3, [(some 5, 0), (some 14, 0)], []), (2, [(some 13, 0), (some 14, 0)], []), (2, [(some 13, 0), (some 5, 0)], []), (78, [], [1])], (3, [(some 5, 0), (some 14, 1)], []))
set_option maxRecDepth 20000 in
theorem v_hushBy_3_3 {PT : PTy} (hp : HP18 PT) : vcOk PT w_hushBy_3_3 := vc_iv [(4, 0, 8), (5, 2, 6), (6, 0, 6), (13, 0, 5), (14, 1, 5), (15, 0, 8), (16, 0, 10), (17, 0, 11), (18, (-2147483648), 2147483647), (20, 1, 32), (21, 2, 32), (22, (-2147483648), 2147483647), (23, 0, 0)] [1, 2, 9, 10, 11, 12, 13, 14, 15, 16, 35, 36, 37, 38, 39, 40, 41, 42, 49, 50, 51] (by decide +kernel) (fun ρ α => by
  intro r4 g4 b4 r5 g5 b5 r6 g6 b6 r13 g13 b13 r14 g14 b14 r15 g15 b15 r16 g16 b16 r17 g17 b17 r18 g18 b18 r20 g20 b20 r21 g21 b21 r22 g22 b22 r23 g23 b23 a1 h1 a2 h2 a9 h9 a10 h10 a11 h11 a12 h12 a13 h13 a14 h14 a15 h15 a16 h16 a35 h35 a36 h36 a37 h37 a38 h38 a39 h39 a40 h40 a41 h41 a42 h42 a49 h49 a50 h50 a51 h51 f0 f1 f2 f3 f4 f5 f6 f7 f8 f9 f10 f11 f12 f13 f14 f15 f16 f17 tt
  have e78 : PT 78 = P_ly := pe78_18 hp
  have e105 : PT 105 = P_cp2 := pe105_18 hp
  have e106 : PT 106 = P_rd := pe106_18 hp
  have e217 : PT 217 = P_ihY := pe217_18 hp
  have e219 : PT 219 = P_hv2 := pe219_18 hp
  simp only [hF0, hF2, hF3, hF11, hF13, hF21, hFp_78, hFp_105, hFp_106, hFp_217, hFp_219, e78, e105, e106, e217, e219, P_ly, P_cp2, P_rd, P_ihY, P_hv2, den_s, den_c, Int.add_zero, List.map_cons, List.map_nil, g4.eq, g5.eq, g6.eq, g13.eq, g14.eq, g15.eq, g16.eq, g17.eq, g18.eq, g20.eq, g21.eq, g22.eq, g23.eq, h1, h2, h9, h10, h11, h12, h13, h14, h15, h16, h35, h36, h37, h38, h39, h40, h41, h42, h49, h50, h51] at f0 f1 f2 f3 f4 f5 f6 f7 f8 f9 f10 f11 f12 f13 f14 f15 f16 f17 ⊢
  subst f2
  subst f3
  subst f4
  subst f5
  subst f6
  omega)
def w_hushBy_3_4 : VC := (([(0, 23), (0, 49), (0, 8), (0, 10), (0, 8), (2, 6), (0, 6), (0, 8), (0, 11), (0, 9), ((-2147483648), 2147483647), ((-2147483648), 2147483647), (0, 5), (0, 5), (1, 5), (0, 8), (0, 10), (0, 11), ((-2147483648), 2147483647), ((-2147483648), 2147483647), (1, 32), (2, 32), ((-2147483648), 2147483647), (0, 0)]), [(0, [(some 23, 0), (none, 0)], []), (217, [(some 23, 0), (some 22, 0), (some 15, 0), (some 16, 0), (some 4, 0), (some 5, 0), (some 6, 0), (some 17, 0), (some 18, 0)], [35, 36, 37, 38, 39, 40, 41, 42, 11, 12, 13, 14, 15, 16]), (11, [(some 22, 0), (some 20, 0), (some 21, 0)], []), (13, [(some 21, 0), (none, 1), (some 14, 0)], []), (13, [(some 20, 0), (none, 1), (some 13, 0)], []), (21, [(none, 1), (some 14, 0)], [51, 50]), (21, [(none, 0), (some 13, 0)], [50, 49]), (2, [(some 14, 0), (some 5, 0)], []), (106, [(some 15, 0), (some 16, 0)], [1, 2, 35, 36, 37, 38, 39, 40]), (105, [(some 4, 0)], [9, 10, 41, 42]), (219, [(some 13, 0), (some 14, 0), (some 15, 0), (some 16, 0), (some 4, 0), (some 5, 0), (some 6, 0)], [35, 36, 37, 38, 39, 40, 41, 42, 11, 12, 13, 14, 15, 16]), (0, [(some 17, 0), (some 16, 0)], []), (0, [(some 18, 0), (none, 0)], []), (0, [(some 4, 0), (some 4, 0)], []), (3, [(some 5, 0), (some 14, 0)], []), (2, [(some 13, 0), (some 14, 0)], []), (2, [(some 13, 0), (some 5, 0)], []), (78, [], [1])], (2, [(some 13, 0), (some 14, 1)], []))
set_option maxRecDepth 20000 in
theorem v_hushBy_3_4 {PT : PTy} (hp : HP18 PT) : vcOk PT w_hushBy_3_4 := vc_iv [(4, 0, 8), (5, 2, 6), (6, 0, 6), (13, 0, 5), (14, 1, 5), (15, 0, 8), (16, 0, 10), (17, 0, 11), (18, (-2147483648), 2147483647), (20, 1, 32), (21, 2, 32), (22, (-2147483648), 2147483647), (23, 0, 0)] [1, 2, 9, 10, 11, 12, 13, 14, 15, 16, 35, 36, 37, 38, 39, 40, 41, 42, 49, 50, 51] (by decide +kernel) (fun ρ α => by
  intro r4 g4 b4 r5 g5 b5 r6 g6 b6 r13 g13 b13 r14 g14 b14 r15 g15 b15 r16 g16 b16 r17 g17 b17 r18 g18 b18 r20 g20 b20 r21 g21 b21 r22 g22 b22 r23 g23 b23 a1 h1 a2 h2 a9 h9 a10 h10 a11 h11 a12 h12 a13 h13 a14 h14 a15 h15 a16 h16 a35 h35 a36 h36 a37 h37 a38 h38 a39 h39 a40 h40 a41 h41 a42 h42 a49 h49 a50 h50 a51 h51 f0 f1 f2 f3 f4 f5 f6 f7 f8 f9 f10 f11 f12 f13 f14 f15 f16 f17 tt
  have e78 : PT 78 = P_ly := pe78_18 hp
  have e105 : PT 105 = P_cp2 := pe105_18 hp
  have e106 : PT 106 = P_rd := pe106_18 hp
  have e217 : PT 217 = P_ihY := pe217_18 hp
  have e219 : PT 219 = P_hv2 := pe219_18 hp
  simp only [hF0, hF2, hF3, hF11, hF13, hF21, hFp_78, hFp_105, hFp_106, hFp_217, hFp_219, e78, e105, e106, e217, e219, P_ly, P_cp2, P_rd, P_ihY, P_hv2, den_s, den_c, Int.add_zero, List.map_cons, List.map_nil, g4.eq, g5.eq, g6.eq, g13.eq, g14.eq, g15.eq, g16.eq, g17.eq, g18.eq, g20.eq, g21.eq, g22.eq, g23.eq, h1, h2, h9, h10, h11, h12, h13, h14, h15, h16, h35, h36, h37, h38, h39, h40, h41, h42, h49, h50, h51] at f0 f1 f2 f3 f4 f5 f6 f7 f8 f9 f10 f11 f12 f13 f14 f15 f16 f17 ⊢
  subst f2
  subst f3
  subst f4
  subst f5
  subst f6
  omega)
def w_hushBy_3_5 : VC := (([(0, 23), (0, 49), (0, 8), (0, 10), (0, 8), (2, 6), (0, 6), (0, 8), (0, 11), (0, 9), ((-2147483648), 2147483647), ((-2147483648), 2147483647), (0, 5), (0, 5), (1, 5), (0, 8), (0, 10), (0, 11), ((-2147483648), 2147483647), ((-2147483648), 2147483647), (1, 32), (2, 32), ((-2147483648), 2147483647), (1, 1)]), [(1, [(some 23, 0), (none, 0)], []), (217, [(some 23, 0), (some 22, 0), (some 15, 0), (some 16, 0), (some 4, 0), (some 5, 0), (some 6, 0), (some 17, 0), (some 18, 0)], [35, 36, 37, 38, 39, 40, 41, 42, 11, 12, 13, 14, 15, 16]), (11, [(some 22, 0), (some 20, 0), (some 21, 0)], []), (13, [(some 21, 0), (none, 1), (some 14, 0)], []), (13, [(some 20, 0), (none, 1), (some 13, 0)], []), (21, [(none, 1), (some 14, 0)], [51, 50]), (21, [(none, 0), (some 13, 0)], [50, 49]), (2, [(some 14, 0), (some 5, 0)], []), (106, [(some 15, 0), (some 16, 0)], [1, 2, 35, 36, 37, 38, 39, 40]), (105, [(some 4, 0)], [9, 10, 41, 42]), (219, [(some 13, 0), (some 14, 0), (some 15, 0), (some 16, 0), (some 4, 0), (some 5, 0), (some 6, 0)], [35, 36, 37, 38, 39, 40, 41, 42, 11, 12, 13, 14, 15, 16]), (0, [(some 17, 0), (some 16, 0)], []), (0, [(some 18, 0), (none, 0)], []), (0, [(some 4, 0), (some 4, 0)], []), (3, [(some 5, 0), (some 14, 0)], []), (2, [(some 13, 0), (some 14, 0)], []), (2, [(some 13, 0), (some 5, 0)], []), (78, [], [1])], (221, [(none, 2), (some 15, 0), (some 16, 0), (some 4, 0), (some 5, 0), (some 6, 0)], [1, 2, 35, 36, 37, 38, 39, 40, 41, 42, 9, 10, 11, 12, 13, 14, 15, 16, 51]))
set_option maxRecDepth 20000 in
theorem v_hushBy_3_5 {PT : PTy} (hp : HP18 PT) : vcOk PT w_hushBy_3_5 := vc_iv [(4, 0, 8), (5, 2, 6), (6, 0, 6), (13, 0, 5), (14, 1, 5), (15, 0, 8), (16, 0, 10), (17, 0, 11), (18, (-2147483648), 2147483647), (20, 1, 32), (21, 2, 32), (22, (-2147483648), 2147483647), (23, 1, 1)] [1, 2, 9, 10, 11, 12, 13, 14, 15, 16, 35, 36, 37, 38, 39, 40, 41, 42, 49, 50, 51] (by decide +kernel) (fun ρ α => by
  intro r4 g4 b4 r5 g5 b5 r6 g6 b6 r13 g13 b13 r14 g14 b14 r15 g15 b15 r16 g16 b16 r17 g17 b17 r18 g18 b18 r20 g20 b20 r21 g21 b21 r22 g22 b22 r23 g23 b23 a1 h1 a2 h2 a9 h9 a10 h10 a11 h11 a12 h12 a13 h13 a14 h14 a15 h15 a16 h16 a35 h35 a36 h36 a37 h37 a38 h38 a39 h39 a40 h40 a41 h41 a42 h42 a49 h49 a50 h50 a51 h51 f0 f1 f2 f3 f4 f5 f6 f7 f8 f9 f10 f11 f12 f13 f14 f15 f16 f17 tt
  clear f0
  have e78 : PT 78 = P_ly := pe78_18 hp
  have e105 : PT 105 = P_cp2 := pe105_18 hp
  have e106 : PT 106 = P_rd := pe106_18 hp
  have e217 : PT 217 = P_ihY := pe217_18 hp
  have e219 : PT 219 = P_hv2 := pe219_18 hp
  have e221 : PT 221 = P_hbY := pe221_18 hp
  simp only [hF0, hF2, hF3, hF11, hF13, hF21, hFp_78, hFp_105, hFp_106, hFp_217, hFp_219, hFp_221, e78, e105, e106, e217, e219, e221, P_ly, P_cp2, P_rd, P_ihY, P_hv2, P_hbY, den_s, den_c, Int.add_zero, List.map_cons, List.map_nil, g4.eq, g5.eq, g6.eq, g13.eq, g14.eq, g15.eq, g16.eq, g17.eq, g18.eq, g20.eq, g21.eq, g22.eq, g23.eq, h1, h2, h9, h10, h11, h12, h13, h14, h15, h16, h35, h36, h37, h38, h39, h40, h41, h42, h49, h50, h51] at f1 f2 f3 f4 f5 f6 f7 f8 f9 f10 f11 f12 f13 f14 f15 f16 f17 ⊢
  subst f2
  subst f3
  subst f4
  subst f5
  subst f6
  have h0 : hqY r15 r16 r4 r5 r6 a35 a36 a37 a38 a39 a40 a41 a42 a11 a12 a13 a14 a15 a16 (mOr (mShl 1 r13) (mShl 1 r14)) r23 := f1 (by omega) (by omega)
  rw [show r23 = 1 by omega] at h0
  exact ⟨⟨f8, f9⟩, r13, r14, Or.inr (Or.inr (Or.inl ⟨by first | rfl | trivial, by omega, by omega, by omega, f10, h0⟩)), fun _ => (by first | rfl | (rw [updI_ne (by omega), updI_at]) | (rw [updI_at])), fun _ => (by first | rfl | rw [updI_at])⟩)
set_option maxRecDepth 1000000 in
theorem k_hushBy {PT : PTy} (hp : HP18 PT) : wfX c_hushBy = true ∧ xcOk PT c_hushBy := xctr (xl (k_asTold hp.1.1.1.1.1.1.1.1.1.1.1.1.1) (xl (k_isHushed hp) (xl0))) c_hushBy 47 mX7_hushBy rfl h_hushBy (by decide +kernel) (by decide +kernel) (by decide) (vcs_by [w_hushBy_0_0, w_hushBy_0_1, w_hushBy_0_2] (by decide +kernel) (vc (v_hushBy_0_0 hp) (vc (v_hushBy_0_1 hp) (vc (v_hushBy_0_2 hp) vn)))) (fmc (vcs_by [w_hushBy_1_0, w_hushBy_1_1, w_hushBy_1_2, w_hushBy_1_3, w_hushBy_1_4] (by decide +kernel) (vc (v_hushBy_1_0 hp) (vc (v_hushBy_1_1 hp) (vc (v_hushBy_1_2 hp) (vc (v_hushBy_1_3 hp) (vc (v_hushBy_1_4 hp) vn)))))) (fmc (vcs_by [w_hushBy_2_0, w_hushBy_2_1, w_hushBy_2_2, w_hushBy_2_3] (by decide +kernel) (vc (v_hushBy_2_0 hp) (vc (v_hushBy_2_1 hp) (vc (v_hushBy_2_2 hp) (vc (v_hushBy_2_3 hp) vn))))) (fmc (vcs_by [w_hushBy_3_0, w_hushBy_3_1, w_hushBy_3_2, w_hushBy_3_3, w_hushBy_3_4, w_hushBy_3_5] (by decide +kernel) (vc (v_hushBy_3_0 hp) (vc (v_hushBy_3_1 hp) (vc (v_hushBy_3_2 hp) (vc (v_hushBy_3_3 hp) (vc (v_hushBy_3_4 hp) (vc (v_hushBy_3_5 hp) vn))))))) fmn)))
def c_yo_hush : XC := (169, 7, (bY ++ [((-2147483648), 2147483647)]), [.inr (.inl 0), .inl (some 13, 0)], gY2, [(78, [], [1])], [((bY ++ [((-2147483648), 2147483647), ((-2), 5), (0, 8), (0, 10), (0, 11), (0, 9), ((-2147483648), 2147483647), ((-2147483648), 2147483647)]), some (.inl (some 14, 0)), (hst gY2 [(0, .inr (.inr (.inr (7, [.inr (.inl 1), .inr (.inl 2), .inl (some 15, 0), .inr (.inl 3), .inr (.inl 4), .inl (some 16, 0), .inr (.inl 5), .inr (.inl 6), .inr (.inl 7), .inr (.inl 8), .inl (some 4, 0), .inr (.inl 9), .inr (.inl 10), .inl (some 5, 0), .inr (.inl 11), .inr (.inl 12), .inr (.inl 13), .inl (some 6, 0), .inr (.inl 14), .inr (.inl 15), .inr (.inl 16), .inl (some 17, 0), .inl (some 18, 0), .inr (.inl 17), .inr (.inl 18), .inl (some 19, 0), .inl (some 20, 0), .inr (.inl 19), .inr (.inl 20), .inr (.inl 21), .inr (.inl 22), .inr (.inl 23), .inr (.inl 24), .inr (.inl 25), .inl (some 7, 0), .inr (.inl 26), .inr (.inl 27), .inr (.inl 28), .inr (.inl 29), .inr (.inl 30), .inr (.inl 31), .inr (.inl 32), .inr (.inl 33), .inr (.inl 34), .inl (some 12, 0)]))))]), [0, 1, 2, 35, 36, 37, 38, 39, 40, 9, 10, 11, 12, 13, 14, 15, 16, 41, 42, 43, 44, 45, 46, 47, 48, 49, 26, 27, 28, 29, 30, 31, 32, 33, 34], 50, [(222, [(some 14, 0), (some 13, 0), (some 15, 0), (some 16, 0), (some 4, 0), (some 5, 0), (some 6, 0)], [1, 2, 35, 36, 37, 38, 39, 40, 41, 42, 9, 10, 11, 12, 13, 14, 15, 16])])])
def h_yo_hush : List XH := []
def w_yo_hush_0_0 : VC := ((bY ++ [((-2147483648), (-2))]), [(0, [(none, 0), (none, 0)], []), (2, [(some 13, 0), (none, (-1))], []), (78, [], [1])], (222, [(none, (-2)), (some 13, 0), (some 2, 0), (some 3, 0), (some 4, 0), (some 5, 0), (some 6, 0)], [1, 2, 3, 4, 5, 6, 7, 8, 17, 18, 9, 10, 11, 12, 13, 14, 15, 16]))
theorem pe222_18 {PT : PTy} (hp : HP18 PT) : PT 222 = P_ohY := hp.2.2.2.2.2.2.2.2.2.2.2.1
set_option maxRecDepth 20000 in
theorem v_yo_hush_0_0 {PT : PTy} (hp : HP18 PT) : vcOk PT w_yo_hush_0_0 := vc_iv [(2, 0, 8), (3, 0, 10), (4, 0, 8), (5, 0, 6), (6, 0, 6), (13, (-2147483648), (-2))] [1, 2, 3, 4, 5, 6, 7, 8, 9, 10, 11, 12, 13, 14, 15, 16, 17, 18] (by decide +kernel) (fun ρ α => by
  intro r2 g2 b2 r3 g3 b3 r4 g4 b4 r5 g5 b5 r6 g6 b6 r13 g13 b13 a1 h1 a2 h2 a3 h3 a4 h4 a5 h5 a6 h6 a7 h7 a8 h8 a9 h9 a10 h10 a11 h11 a12 h12 a13 h13 a14 h14 a15 h15 a16 h16 a17 h17 a18 h18 f0 f1 f2 tt
  clear f0 f1
  have e78 : PT 78 = P_ly := pe78_18 hp
  have e222 : PT 222 = P_ohY := pe222_18 hp
  simp only [hFp_78, hFp_222, e78, e222, P_ly, P_ohY, den_s, den_c, Int.add_zero, List.map_cons, List.map_nil, g2.eq, g3.eq, g4.eq, g5.eq, g6.eq, g13.eq, h1, h2, h3, h4, h5, h6, h7, h8, h9, h10, h11, h12, h13, h14, h15, h16, h17, h18] at f2 ⊢
  exact ⟨fun _ => (by first | rfl | trivial), fun h => by exfalso; omega⟩)
def w_yo_hush_0_1 : VC := ((bY ++ [(2, 2147483647)]), [(0, [(none, 0), (none, 0)], []), (2, [(none, 1), (some 13, 0)], []), (3, [(some 13, 0), (none, (-1))], []), (78, [], [1])], (222, [(none, (-2)), (some 13, 0), (some 2, 0), (some 3, 0), (some 4, 0), (some 5, 0), (some 6, 0)], [1, 2, 3, 4, 5, 6, 7, 8, 17, 18, 9, 10, 11, 12, 13, 14, 15, 16]))
set_option maxRecDepth 20000 in
theorem v_yo_hush_0_1 {PT : PTy} (hp : HP18 PT) : vcOk PT w_yo_hush_0_1 := vc_iv [(2, 0, 8), (3, 0, 10), (4, 0, 8), (5, 0, 6), (6, 0, 6), (13, 2, 2147483647)] [1, 2, 3, 4, 5, 6, 7, 8, 9, 10, 11, 12, 13, 14, 15, 16, 17, 18] (by decide +kernel) (fun ρ α => by
  intro r2 g2 b2 r3 g3 b3 r4 g4 b4 r5 g5 b5 r6 g6 b6 r13 g13 b13 a1 h1 a2 h2 a3 h3 a4 h4 a5 h5 a6 h6 a7 h7 a8 h8 a9 h9 a10 h10 a11 h11 a12 h12 a13 h13 a14 h14 a15 h15 a16 h16 a17 h17 a18 h18 f0 f1 f2 f3 tt
  clear f0 f1 f2
  have e78 : PT 78 = P_ly := pe78_18 hp
  have e222 : PT 222 = P_ohY := pe222_18 hp
  simp only [hFp_78, hFp_222, e78, e222, P_ly, P_ohY, den_s, den_c, Int.add_zero, List.map_cons, List.map_nil, g2.eq, g3.eq, g4.eq, g5.eq, g6.eq, g13.eq, h1, h2, h3, h4, h5, h6, h7, h8, h9, h10, h11, h12, h13, h14, h15, h16, h17, h18] at f3 ⊢
  exact ⟨fun _ => (by first | rfl | trivial), fun h => by exfalso; omega⟩)
def w_yo_hush_0_2 : VC := ((bY ++ [(0, 1), ((-1), 1), (0, 8), (0, 10), (0, 11), ((-2147483648), 2147483647), ((-2147483648), 2147483647)]), [(3, [(some 13, 0), (some 14, 0)], []), (1, [(some 13, 0), (none, (-1))], []), (221, [(some 14, 0), (some 15, 0), (some 16, 0), (some 4, 0), (some 5, 0), (some 6, 0)], [1, 2, 35, 36, 37, 38, 39, 40, 41, 42, 9, 10, 11, 12, 13, 14, 15, 16, 49]), (1, [(none, 1), (none, 0)], []), (3, [(none, 1), (some 13, 0)], []), (3, [(some 13, 0), (none, (-1))], []), (78, [], [1])], (222, [(none, (-1)), (some 13, 0), (some 15, 0), (some 16, 0), (some 4, 0), (some 5, 0), (some 6, 0)], [1, 2, 35, 36, 37, 38, 39, 40, 41, 42, 9, 10, 11, 12, 13, 14, 15, 16]))
set_option maxRecDepth 20000 in
theorem v_yo_hush_0_2 {PT : PTy} (hp : HP18 PT) : vcOk PT w_yo_hush_0_2 := vc_iv [(4, 0, 8), (5, 0, 6), (6, 0, 6), (13, 0, 1), (14, (-1), 1), (15, 0, 8), (16, 0, 10)] [1, 2, 9, 10, 11, 12, 13, 14, 15, 16, 35, 36, 37, 38, 39, 40, 41, 42, 49] (by decide +kernel) (fun ρ α => by
  intro r4 g4 b4 r5 g5 b5 r6 g6 b6 r13 g13 b13 r14 g14 b14 r15 g15 b15 r16 g16 b16 a1 h1 a2 h2 a9 h9 a10 h10 a11 h11 a12 h12 a13 h13 a14 h14 a15 h15 a16 h16 a35 h35 a36 h36 a37 h37 a38 h38 a39 h39 a40 h40 a41 h41 a42 h42 a49 h49 f0 f1 f2 f3 f4 f5 f6 tt
  clear f1 f3 f4 f5
  have e78 : PT 78 = P_ly := pe78_18 hp
  have e221 : PT 221 = P_hbY := pe221_18 hp
  have e222 : PT 222 = P_ohY := pe222_18 hp
  simp only [hF3, hFp_78, hFp_221, hFp_222, e78, e221, e222, P_ly, P_hbY, P_ohY, den_s, den_c, Int.add_zero, List.map_cons, List.map_nil, g4.eq, g5.eq, g6.eq, g13.eq, g14.eq, g15.eq, g16.eq, h1, h2, h9, h10, h11, h12, h13, h14, h15, h16, h35, h36, h37, h38, h39, h40, h41, h42, h49] at f0 f2 f6 ⊢
  obtain ⟨ht, a, b, hR, p1, p2⟩ := f2
  exact ⟨fun h => by exfalso; omega, fun _ => ⟨ht, _, a, b, hR, fun q => by first | rfl | omega, fun q1 q2 => by first | rfl | trivial | omega, fun q1 q2 => by first | (exfalso; omega) | (have := p1 q2; subst q1; exact this) | (have := p1 q2; omega), fun q1 q2 => by first | (exfalso; omega) | (have := p2 q2; subst q1; exact this) | (have := p2 q2; omega)⟩⟩)
def w_yo_hush_0_3 : VC := ((bY ++ [(0, 1), (1, 2), (0, 8), (0, 10), (0, 11), ((-2147483648), 2147483647), ((-2147483648), 2147483647), (0, 5)]), [(20, [(some 20, 0), (some 13, 0)], [49]), (2, [(some 13, 0), (some 14, 0)], []), (1, [(some 13, 0), (none, (-1))], []), (221, [(some 14, 0), (some 15, 0), (some 16, 0), (some 4, 0), (some 5, 0), (some 6, 0)], [1, 2, 35, 36, 37, 38, 39, 40, 41, 42, 9, 10, 11, 12, 13, 14, 15, 16, 49]), (1, [(none, 1), (none, 0)], []), (3, [(none, 1), (some 13, 0)], []), (3, [(some 13, 0), (none, (-1))], []), (78, [], [1])], (222, [(some 20, 0), (some 13, 0), (some 15, 0), (some 16, 0), (some 4, 0), (some 5, 0), (some 6, 0)], [1, 2, 35, 36, 37, 38, 39, 40, 41, 42, 9, 10, 11, 12, 13, 14, 15, 16]))
set_option maxRecDepth 20000 in
theorem v_yo_hush_0_3 {PT : PTy} (hp : HP18 PT) : vcOk PT w_yo_hush_0_3 := vc_iv [(4, 0, 8), (5, 0, 6), (6, 0, 6), (13, 0, 1), (14, 1, 2), (15, 0, 8), (16, 0, 10), (20, 0, 5)] [1, 2, 9, 10, 11, 12, 13, 14, 15, 16, 35, 36, 37, 38, 39, 40, 41, 42, 49] (by decide +kernel) (fun ρ α => by
  intro r4 g4 b4 r5 g5 b5 r6 g6 b6 r13 g13 b13 r14 g14 b14 r15 g15 b15 r16 g16 b16 r20 g20 b20 a1 h1 a2 h2 a9 h9 a10 h10 a11 h11 a12 h12 a13 h13 a14 h14 a15 h15 a16 h16 a35 h35 a36 h36 a37 h37 a38 h38 a39 h39 a40 h40 a41 h41 a42 h42 a49 h49 f0 f1 f2 f3 f4 f5 f6 f7 tt
  clear f2 f4 f5 f6
  have e78 : PT 78 = P_ly := pe78_18 hp
  have e221 : PT 221 = P_hbY := pe221_18 hp
  have e222 : PT 222 = P_ohY := pe222_18 hp
  simp only [hF2, hF20, hFp_78, hFp_221, hFp_222, e78, e221, e222, P_ly, P_hbY, P_ohY, den_s, den_c, Int.add_zero, List.map_cons, List.map_nil, g4.eq, g5.eq, g6.eq, g13.eq, g14.eq, g15.eq, g16.eq, g20.eq, h1, h2, h9, h10, h11, h12, h13, h14, h15, h16, h35, h36, h37, h38, h39, h40, h41, h42, h49] at f0 f1 f3 f7 ⊢
  subst f0
  obtain ⟨ht, a, b, hR, p1, p2⟩ := f3
  exact ⟨fun h => by exfalso; omega, fun _ => ⟨ht, _, a, b, hR, fun q => by first | rfl | omega, fun q1 q2 => by first | rfl | trivial | omega, fun q1 q2 => by first | (exfalso; omega) | (have := p1 q2; subst q1; exact this) | (have := p1 q2; omega), fun q1 q2 => by first | (exfalso; omega) | (have := p2 q2; subst q1; exact this) | (have := p2 q2; omega)⟩⟩)
def w_yo_hush_0_4 : VC := ((bY ++ [((-1), (-1)), ((-1), 2), (0, 8), (0, 10), (0, 11), ((-2147483648), 2147483647), ((-2147483648), 2147483647)]), [(0, [(some 13, 0), (none, (-1))], []), (221, [(some 14, 0), (some 15, 0), (some 16, 0), (some 4, 0), (some 5, 0), (some 6, 0)], [1, 2, 35, 36, 37, 38, 39, 40, 41, 42, 9, 10, 11, 12, 13, 14, 15, 16, 49]), (1, [(none, 1), (none, 0)], []), (3, [(none, 1), (some 13, 0)], []), (3, [(some 13, 0), (none, (-1))], []), (78, [], [1])], (222, [(some 14, 0), (some 13, 0), (some 15, 0), (some 16, 0), (some 4, 0), (some 5, 0), (some 6, 0)], [1, 2, 35, 36, 37, 38, 39, 40, 41, 42, 9, 10, 11, 12, 13, 14, 15, 16]))
set_option maxRecDepth 20000 in
theorem v_yo_hush_0_4 {PT : PTy} (hp : HP18 PT) : vcOk PT w_yo_hush_0_4 := vc_iv [(4, 0, 8), (5, 0, 6), (6, 0, 6), (13, (-1), (-1)), (14, (-1), 2), (15, 0, 8), (16, 0, 10)] [1, 2, 9, 10, 11, 12, 13, 14, 15, 16, 35, 36, 37, 38, 39, 40, 41, 42, 49] (by decide +kernel) (fun ρ α => by
  intro r4 g4 b4 r5 g5 b5 r6 g6 b6 r13 g13 b13 r14 g14 b14 r15 g15 b15 r16 g16 b16 a1 h1 a2 h2 a9 h9 a10 h10 a11 h11 a12 h12 a13 h13 a14 h14 a15 h15 a16 h16 a35 h35 a36 h36 a37 h37 a38 h38 a39 h39 a40 h40 a41 h41 a42 h42 a49 h49 f0 f1 f2 f3 f4 f5 tt
  clear f2 f3 f4
  have e78 : PT 78 = P_ly := pe78_18 hp
  have e221 : PT 221 = P_hbY := pe221_18 hp
  have e222 : PT 222 = P_ohY := pe222_18 hp
  simp only [hF0, hFp_78, hFp_221, hFp_222, e78, e221, e222, P_ly, P_hbY, P_ohY, den_s, den_c, Int.add_zero, List.map_cons, List.map_nil, g4.eq, g5.eq, g6.eq, g13.eq, g14.eq, g15.eq, g16.eq, h1, h2, h9, h10, h11, h12, h13, h14, h15, h16, h35, h36, h37, h38, h39, h40, h41, h42, h49] at f0 f1 f5 ⊢
  obtain ⟨ht, a, b, hR, p1, p2⟩ := f1
  exact ⟨fun h => by exfalso; omega, fun _ => ⟨ht, _, a, b, hR, fun q => by first | rfl | omega, fun q1 q2 => by first | rfl | trivial | omega, fun q1 q2 => by first | (exfalso; omega) | (have := p1 q2; subst q1; exact this) | (have := p1 q2; omega), fun q1 q2 => by first | (exfalso; omega) | (have := p2 q2; subst q1; exact this) | (have := p2 q2; omega)⟩⟩)
set_option maxRecDepth 1000000 in
theorem k_yo_hush {PT : PTy} (hp : HP18 PT) : wfX c_yo_hush = true ∧ xcOk PT c_yo_hush := xctr (xl (k_hushBy hp) (xl0)) c_yo_hush 53 mX7_hush rfl h_yo_hush (by decide +kernel) (by decide +kernel) (by decide) (vcs_by [w_yo_hush_0_0, w_yo_hush_0_1, w_yo_hush_0_2, w_yo_hush_0_3, w_yo_hush_0_4] (by decide +kernel) (vc (v_yo_hush_0_0 hp) (vc (v_yo_hush_0_1 hp) (vc (v_yo_hush_0_2 hp) (vc (v_yo_hush_0_3 hp) (vc (v_yo_hush_0_4 hp) vn)))))) fmn
