/-! ===== the class: what runs a year; printed by wip/gen/x ===== -/
def P_wrX (l : List Int) (a : List (Int → Int)) : Prop := match l, a with
  | [r, k, s, n], [L, M] => (¬ (0 ≤ k ∧ k < n ∧ 0 ≤ s ∧ s ≤ 3) → r = -2) ∧ (0 ≤ k ∧ k < n ∧ 0 ≤ s ∧ s ≤ 3 → M s = -1 → r = -11) ∧ (0 ≤ k ∧ k < n ∧ 0 ≤ s ∧ s ≤ 3 → ¬ M s = -1 → L s ≤ 24 → r = L s) ∧ (0 ≤ k ∧ k < n ∧ 0 ≤ s ∧ s ≤ 3 → ¬ M s = -1 → 24 ≤ L s → r = 24)
  | _, _ => False
theorem hFp_147 {PT : PTy} {ρ : Nat → Int} {α : Nat → Int → Int} (l : List AN) (a : List Nat) : hF PT ρ α (147, l, a) = PT 147 (l.map (den ρ)) (a.map α) := rfl
def P_yx (l : List Int) (a : List (Int → Int)) : Prop := match l, a with
  | [d, n, m, nk, nl, nt, u, h], [so, sz, wh, gr, md, du, kd, ko, ld, lw, lm, td, tw, tm, C, T, S] => yX (5 * (d + 1)) n m nk nl nt u h so sz wh gr md du kd ko ld lw lm td tw tm C T S
  | _, _ => False
theorem hFp_148 {PT : PTy} {ρ : Nat → Int} {α : Nat → Int → Int} (l : List AN) (a : List Nat) : hF PT ρ α (148, l, a) = PT 148 (l.map (den ρ)) (a.map α) := rfl
def P_yi (l : List Int) (a : List (Int → Int)) : Prop := match l, a with
  | [b, d, n, m, nk, nl, nt, u, h], [so, sz, wh, gr, md, du, kd, ko, ld, lw, lm, td, tw, tm, f, C, T, S] => yI b (5 * d) n m nk nl nt u h so sz wh gr md du kd ko ld lw lm td tw tm f C T S
  | _, _ => False
theorem hFp_149 {PT : PTy} {ρ : Nat → Int} {α : Nat → Int → Int} (l : List AN) (a : List Nat) : hF PT ρ α (149, l, a) = PT 149 (l.map (den ρ)) (a.map α) := rfl
def P_ar2 (l : List Int) (a : List (Int → Int)) : Prop := match l, a with
  | [a, n, m, nk, nl, nt], [f, g, so, sz, wh, gr, md, du, kd, ko, ld, lw, lm, td, tw, tm] => prS a f g ∧ isL (aT n m nk nl nt wh md du kd ko ld lw td tw) a f g
  | _, _ => False
theorem hFp_150 {PT : PTy} {ρ : Nat → Int} {α : Nat → Int → Int} (l : List AN) (a : List Nat) : hF PT ρ α (150, l, a) = PT 150 (l.map (den ρ)) (a.map α) := rfl
def P_ocX (l : List Int) (a : List (Int → Int)) : Prop := match l, a with
  | [r, d, k, w, n, m, nk, nl, nt, u, h], [so, sz, wh, gr, md, du, kd, ko, ld, lw, lm, td, tw, tm, C, T, S] => (¬ (0 ≤ d ∧ d ≤ 23 ∧ 0 ≤ k ∧ k < n ∧ 0 ≤ w ∧ w ≤ 2) → r = -2) ∧ (0 ≤ d ∧ d ≤ 23 ∧ 0 ≤ k ∧ k < n ∧ 0 ≤ w ∧ w ≤ 2 → yX (5 * (d + 1)) n m nk nl nt u h so sz wh gr md du kd ko ld lw lm td tw tm C T S ∧ (w = 0 → r = C k) ∧ (w = 1 → fitP C sz k → r = 1) ∧ (w = 1 → ¬ fitP C sz k → r = 0) ∧ (w = 2 → r = T k))
  | _, _ => False
theorem hFp_151 {PT : PTy} {ρ : Nat → Int} {α : Nat → Int → Int} (l : List AN) (a : List Nat) : hF PT ρ α (151, l, a) = PT 151 (l.map (den ρ)) (a.map α) := rfl
def P_osX (l : List Int) (a : List (Int → Int)) : Prop := match l, a with
  | [r, d, k, n, m, nk, nl, nt, u, h], [so, sz, wh, gr, md, du, kd, ko, ld, lw, lm, td, tw, tm, C, T, S] => (¬ (0 ≤ d ∧ d ≤ 23 ∧ 0 ≤ k ∧ k < m) → r = -2) ∧ (0 ≤ d ∧ d ≤ 23 ∧ 0 ≤ k ∧ k < m → yX (5 * (d + 1)) n m nk nl nt u h so sz wh gr md du kd ko ld lw lm td tw tm C T S ∧ r = S k)
  | _, _ => False
theorem hFp_152 {PT : PTy} {ρ : Nat → Int} {α : Nat → Int → Int} (l : List AN) (a : List Nat) : hF PT ρ α (152, l, a) = PT 152 (l.map (den ρ)) (a.map α) := rfl
def P_onX (l : List Int) (a : List (Int → Int)) : Prop := match l, a with
  | [r, d, n, m, nk, nl, nt, u, h], [so, sz, wh, gr, md, du, kd, ko, ld, lw, lm, td, tw, tm, C, T, S] => (¬ (0 ≤ d ∧ d ≤ 23) → r = -2) ∧ (0 ≤ d ∧ d ≤ 23 → yX (5 * (d + 1)) n m nk nl nt u h so sz wh gr md du kd ko ld lw lm td tw tm C T S ∧ r = bitF C sz n)
  | _, _ => False
theorem hFp_153 {PT : PTy} {ρ : Nat → Int} {α : Nat → Int → Int} (l : List AN) (a : List Nat) : hF PT ρ α (153, l, a) = PT 153 (l.map (den ρ)) (a.map α) := rfl
def P_okX (l : List Int) (a : List (Int → Int)) : Prop := match l, a with
  | [r, d, n, m, nk, nl, nt, u, h], [so, sz, wh, gr, md, du, kd, ko, ld, lw, lm, td, tw, tm, C, T, S] => (¬ (0 ≤ d ∧ d ≤ 23) → r = -2) ∧ (0 ≤ d ∧ d ≤ 23 → yX (5 * (d + 1)) n m nk nl nt u h so sz wh gr md du kd ko ld lw lm td tw tm C T S ∧ r = nkdF C n)
  | _, _ => False
theorem hFp_154 {PT : PTy} {ρ : Nat → Int} {α : Nat → Int → Int} (l : List AN) (a : List Nat) : hF PT ρ α (154, l, a) = PT 154 (l.map (den ρ)) (a.map α) := rfl
def P_olX (l : List Int) (a : List (Int → Int)) : Prop := match l, a with
  | [r, d, n, m, nk, nl, nt, u, h], [so, sz, wh, gr, md, du, kd, ko, ld, lw, lm, td, tw, tm, C, T, S] => (¬ (0 ≤ d ∧ d ≤ 23) → r = -2) ∧ (0 ≤ d ∧ d ≤ 23 → yX (5 * (d + 1)) n m nk nl nt u h so sz wh gr md du kd ko ld lw lm td tw tm C T S ∧ ∃ v, amx n r v C)
  | _, _ => False
theorem hFp_155 {PT : PTy} {ρ : Nat → Int} {α : Nat → Int → Int} (l : List AN) (a : List Nat) : hF PT ρ α (155, l, a) = PT 155 (l.map (den ρ)) (a.map α) := rfl
def P_opX (l : List Int) (a : List (Int → Int)) : Prop := match l, a with
  | [r, n, m, nk, nl, nt, u, h], [so, sz, wh, gr, md, du, kd, ko, ld, lw, lm, td, tw, tm, C, T, S] => yX (5 * (23 + 1)) n m nk nl nt u h so sz wh gr md du kd ko ld lw lm td tw tm C T S ∧ r = rpsF T n
  | _, _ => False
theorem hFp_156 {PT : PTy} {ρ : Nat → Int} {α : Nat → Int → Int} (l : List AN) (a : List Nat) : hF PT ρ α (156, l, a) = PT 156 (l.map (den ρ)) (a.map α) := rfl
def P_amC (l : List Int) (a : List (Int → Int)) : Prop := match l, a with
  | [i, w, v], [C] => amx i w v C
  | _, _ => False
theorem hFp_157 {PT : PTy} {ρ : Nat → Int} {α : Nat → Int → Int} (l : List AN) (a : List Nat) : hF PT ρ α (157, l, a) = PT 157 (l.map (den ρ)) (a.map α) := rfl
def P_obI (l : List Int) (a : List (Int → Int)) : Prop := match l, a with
  | [i, w, v, n, m, nk, nl, nt, u, h], [so, sz, wh, gr, md, du, kd, ko, ld, lw, lm, td, tw, tm] => obS (fitQ n m nk nl nt u h so sz wh gr md du kd ko ld lw lm td tw tm) i w v
  | _, _ => False
theorem hFp_158 {PT : PTy} {ρ : Nat → Int} {α : Nat → Int → Int} (l : List AN) (a : List Nat) : hF PT ρ α (158, l, a) = PT 158 (l.map (den ρ)) (a.map α) := rfl
def P_obX (l : List Int) (a : List (Int → Int)) : Prop := match l, a with
  | [r, n, m, nk, nl, nt, u, h], [so, sz, wh, gr, md, du, kd, ko, ld, lw, lm, td, tw, tm] => (n = 0 → r = -1) ∧ (0 < n → ∃ v, obS (fitQ n m nk nl nt u h so sz wh gr md du kd ko ld lw lm td tw tm) 24 r v)
  | _, _ => False
theorem hFp_159 {PT : PTy} {ρ : Nat → Int} {α : Nat → Int → Int} (l : List AN) (a : List Nat) : hF PT ρ α (159, l, a) = PT 159 (l.map (den ρ)) (a.map α) := rfl
def P_bc (l : List Int) (a : List (Int → Int)) : Prop := match l, a with
  | [r, x], [] => r = bcF x
  | _, _ => False
theorem hFp_160 {PT : PTy} {ρ : Nat → Int} {α : Nat → Int → Int} (l : List AN) (a : List Nat) : hF PT ρ α (160, l, a) = PT 160 (l.map (den ρ)) (a.map α) := rfl
def P_wcX (l : List Int) (a : List (Int → Int)) : Prop := match l, a with
  | [i, k, s, n, m, nk, nl, nt, u, h], [so, sz, wh, gr, md, du, kd, ko, ld, lw, lm, td, tw, tm, M, r0, r1, r2, r3, q0, q1, q2, q3] => wcS (cutQ (M s) k n m nk nl nt u h so sz wh gr md du kd ko ld lw lm td tw tm) i s q0 q1 q2 q3 r0 r1 r2 r3
  | _, _ => False
theorem hFp_161 {PT : PTy} {ρ : Nat → Int} {α : Nat → Int → Int} (l : List AN) (a : List Nat) : hF PT ρ α (161, l, a) = PT 161 (l.map (den ρ)) (a.map α) := rfl
def P_owX (l : List Int) (a : List (Int → Int)) : Prop := match l, a with
  | [r, k, s, g, G, n, m, nk, nl, nt, u, h], [so, sz, wh, gr, md, du, kd, ko, ld, lw, lm, td, tw, tm, L, M, r0, r1, r2, r3, q0, q1, q2, q3] => (¬ (0 ≤ k ∧ k < n ∧ 0 ≤ s ∧ s ≤ 3) → r = -2 ∧ G = g ∧ q0 = r0 ∧ q1 = r1 ∧ q2 = r2 ∧ q3 = r3) ∧ (0 ≤ k ∧ k < n ∧ 0 ≤ s ∧ s ≤ 3 → M s = -1 → r = -11 ∧ G = 1 ∧ q0 = r0 ∧ q1 = r1 ∧ q2 = r2 ∧ q3 = r3) ∧ (0 ≤ k ∧ k < n ∧ 0 ≤ s ∧ s ≤ 3 → ¬ M s = -1 → (L s ≤ 24 → r = L s) ∧ (24 ≤ L s → r = 24) ∧ G = g ∧ wcS (cutQ (M s) k n m nk nl nt u h so sz wh gr md du kd ko ld lw lm td tw tm) r s q0 q1 q2 q3 r0 r1 r2 r3)
  | _, _ => False
theorem hFp_162 {PT : PTy} {ρ : Nat → Int} {α : Nat → Int → Int} (l : List AN) (a : List Nat) : hF PT ρ α (162, l, a) = PT 162 (l.map (den ρ)) (a.map α) := rfl
def HP11 (PT : PTy) : Prop := HP10 PT ∧ (PT 147 = P_wrX ∧ PT 148 = P_yx ∧ PT 149 = P_yi ∧ PT 150 = P_ar2 ∧ PT 151 = P_ocX ∧ PT 152 = P_osX ∧ PT 153 = P_onX ∧ PT 154 = P_okX ∧ PT 155 = P_olX ∧ PT 156 = P_opX ∧ PT 157 = P_amC ∧ PT 158 = P_obI ∧ PT 159 = P_obX ∧ PT 160 = P_bc ∧ PT 161 = P_wcX ∧ PT 162 = P_owX ∧ True)
def c_liveX : XC := (89, 3, (bX ++ [(0, 23)]), [.inr (.inl 0), .inl (some 14, 0)], (gX 999), [], [((bX ++ [(0, 23), (0, 49), (0, 49)]), none, (hst (gX 14) [(5, .inr (.inr (.inr (0, [.inr (.inl 6), .inr (.inl 9), .inr (.inl 14), .inr (.inl 18), .inr (.inl 22), .inr (.inl 26), .inr (.inl 27), .inr (.inl 28), .inr (.inl 29), .inr (.inl 30), .inl (some 15, 0), .inl (some 16, 0), .inl (none, 0), .inl (none, 0), .inr (.inl 14)]))))]), (ansT 58 [(26, 58), (27, 59), (28, 60), (29, 61), (30, 62)]), 63, [(148, [(some 14, 0), (some 2, 0), (some 3, 0), (some 4, 0), (some 5, 0), (some 6, 0), (none, 0), (none, 0)], [7, 8, 10, 11, 12, 13, 15, 16, 19, 20, 21, 23, 24, 25, 60, 61, 62])])])
def h_liveX : List XH := []
def w_liveX_0_0 : VC := ((bX ++ [(0, 23), (0, 49)]), [(89, [], [8, 60, 61, 62]), (86, [(some 2, 0), (some 3, 0), (some 4, 0), (some 5, 0), (some 6, 0), (some 15, 0)], [58, 59, 10, 12, 13, 15, 16, 19, 20, 23, 24])], (87, [(some 15, 0)], [58, 59]))
set_option maxRecDepth 20000 in
theorem v_liveX_0_0 {PT : PTy} (hp : HP11 PT) : vcOk PT w_liveX_0_0 := vc_of (fun ρ α hB hF => by
  obtain ⟨f0, f1, -⟩ := hF
  have e86 : PT 86 = P_arr := hp.1.1.1.1.1.1.1.1.2.2.2.2.2.2.2.1
  have e87 : PT 87 = P_pr := hp.1.1.1.1.1.1.1.1.2.2.2.2.2.2.2.2.1
  have e89 : PT 89 = P_bg := hp.1.1.1.1.1.1.1.1.2.2.2.2.2.2.2.2.2.2.1
  simp only [hFp_86, hFp_87, hFp_89, e86, e87, e89, P_arr, P_pr, P_bg, den_s, den_c, Int.add_zero, List.map_cons, List.map_nil] at f0 f1 ⊢
  have b2 : (0 : Int) ≤ ρ 2 ∧ ρ 2 ≤ 8 := hB 2 (0, 8) rfl
  have b3 : (0 : Int) ≤ ρ 3 ∧ ρ 3 ≤ 11 := hB 3 (0, 11) rfl
  have b4 : (0 : Int) ≤ ρ 4 ∧ ρ 4 ≤ 9 := hB 4 (0, 9) rfl
  have b5 : (0 : Int) ≤ ρ 5 ∧ ρ 5 ≤ 6 := hB 5 (0, 6) rfl
  have b6 : (0 : Int) ≤ ρ 6 ∧ ρ 6 ≤ 6 := hB 6 (0, 6) rfl
  have b15 : (0 : Int) ≤ ρ 15 ∧ ρ 15 ≤ 49 := hB 15 (0, 49) rfl
  exact (f1).1)
def w_liveX_0_1 : VC := ((bX ++ [(0, 23), (0, 49), (0, 49)]), [(91, [(none, 0), (some 16, 0), (some 15, 0), (some 14, 0), (none, 0), (none, 0)], [58, 59, 7, 8, 10, 11, 16, 20, 21, 24, 25, 60, 61, 62, 63, 64, 65]), (89, [], [8, 60, 61, 62]), (86, [(some 2, 0), (some 3, 0), (some 4, 0), (some 5, 0), (some 6, 0), (some 15, 0)], [58, 59, 10, 12, 13, 15, 16, 19, 20, 23, 24])], (148, [(some 14, 0), (some 2, 0), (some 3, 0), (some 4, 0), (some 5, 0), (some 6, 0), (none, 0), (none, 0)], [7, 8, 10, 11, 12, 13, 15, 16, 19, 20, 21, 23, 24, 25, 63, 64, 65]))
set_option maxRecDepth 20000 in
theorem v_liveX_0_1 {PT : PTy} (hp : HP11 PT) : vcOk PT w_liveX_0_1 := vc_of (fun ρ α hB hF => by
  obtain ⟨f0, f1, f2, -⟩ := hF
  have e86 : PT 86 = P_arr := hp.1.1.1.1.1.1.1.1.2.2.2.2.2.2.2.1
  have e89 : PT 89 = P_bg := hp.1.1.1.1.1.1.1.1.2.2.2.2.2.2.2.2.2.2.1
  have e91 : PT 91 = P_adE := hp.1.1.1.1.1.1.1.1.2.2.2.2.2.2.2.2.2.2.2.2.1
  have e148 : PT 148 = P_yx := hp.2.2.1
  simp only [hFp_86, hFp_89, hFp_91, hFp_148, e86, e89, e91, e148, P_arr, P_bg, P_adE, P_yx, den_s, den_c, Int.add_zero, List.map_cons, List.map_nil] at f0 f1 f2 ⊢
  have b2 : (0 : Int) ≤ ρ 2 ∧ ρ 2 ≤ 8 := hB 2 (0, 8) rfl
  have b3 : (0 : Int) ≤ ρ 3 ∧ ρ 3 ≤ 11 := hB 3 (0, 11) rfl
  have b4 : (0 : Int) ≤ ρ 4 ∧ ρ 4 ≤ 9 := hB 4 (0, 9) rfl
  have b5 : (0 : Int) ≤ ρ 5 ∧ ρ 5 ≤ 6 := hB 5 (0, 6) rfl
  have b6 : (0 : Int) ≤ ρ 6 ∧ ρ 6 ≤ 6 := hB 6 (0, 6) rfl
  have b14 : (0 : Int) ≤ ρ 14 ∧ ρ 14 ≤ 23 := hB 14 (0, 23) rfl
  have b15 : (0 : Int) ≤ ρ 15 ∧ ρ 15 ≤ 49 := hB 15 (0, 49) rfl
  have b16 : (0 : Int) ≤ ρ 16 ∧ ρ 16 ≤ 49 := hB 16 (0, 49) rfl
  first | omega | exact yX_by (f2).2 f1 f0)
set_option maxRecDepth 1000000 in
theorem k_liveX {PT : PTy} (hp : HP11 PT) : wfX c_liveX = true ∧ xcOk PT c_liveX := xctr (xl (k_arrange14 hp.1.1.1.1.1.1.1.1) (xl (k_begin14 hp.1.1.1.1.1.1.1) (xl (k_advance14 hp.1.1.1.1.1.1.1) (xl0)))) c_liveX 33 mX6_liveUntil rfl h_liveX (by decide +kernel) (by decide +kernel) (by decide) (vcs_by [w_liveX_0_0, w_liveX_0_1] (by decide +kernel) (vc (v_liveX_0_0 hp) (vc (v_liveX_0_1 hp) vn))) fmn
def c_bitCount : XC := (201, 0, (bX ++ [((-2147483648), 2147483647)]), [.inl (some 14, 0)], (gX 14), [], [((bX ++ [((-2147483648), 2147483647), ((-2147483648), 2147483647)]), some (.inl (some 15, 0)), (gX 14), (List.range 58), 58, [(160, [(some 15, 0), (some 14, 0)], [])])])
def h_bitCount : List XH := []
def w_bitCount_0_0 : VC := ((bX ++ List.replicate 13 ((-2147483648), 2147483647) ++ [(0, 65535), ((-2147483648), 2147483647), ((-2147483648), 2147483647)]), [(10, [(some 29, 0), (some 28, 0), (none, 63)], []), (16, [(some 28, 0), (some 26, 0), (some 27, 0)], []), (15, [(some 27, 0), (some 26, 0), (none, 16)], []), (16, [(some 26, 0), (some 24, 0), (some 25, 0)], []), (15, [(some 25, 0), (some 24, 0), (none, 8)], []), (10, [(some 24, 0), (some 23, 0), (none, 252645135)], []), (16, [(some 23, 0), (some 21, 0), (some 22, 0)], []), (15, [(some 22, 0), (some 21, 0), (none, 4)], []), (16, [(some 21, 0), (some 18, 0), (some 20, 0)], []), (10, [(some 20, 0), (some 19, 0), (none, 858993459)], []), (15, [(some 19, 0), (some 17, 0), (none, 2)], []), (10, [(some 18, 0), (some 17, 0), (none, 858993459)], []), (29, [(some 17, 0), (some 14, 0), (some 16, 0)], []), (10, [(some 16, 0), (some 15, 0), (none, 1431655765)], []), (15, [(some 15, 0), (some 14, 0), (none, 1)], [])], (160, [(some 29, 0), (some 14, 0)], []))
set_option maxRecDepth 20000 in
theorem v_bitCount_0_0 {PT : PTy} (hp : HP11 PT) : vcOk PT w_bitCount_0_0 := vc_of (fun ρ α hB hF => by
  obtain ⟨f0, f1, f2, f3, f4, f5, f6, f7, f8, f9, f10, f11, f12, f13, f14, -⟩ := hF
  have e160 : PT 160 = P_bc := hp.2.2.2.2.2.2.2.2.2.2.2.2.2.2.1
  simp only [hF10, hF15, hF16, hF29, hFp_160, e160, P_bc, den_s, den_c, Int.add_zero, List.map_cons, List.map_nil] at f0 f1 f2 f3 f4 f5 f6 f7 f8 f9 f10 f11 f12 f13 f14 ⊢
  have b14 : ((-2147483648) : Int) ≤ ρ 14 ∧ ρ 14 ≤ 2147483647 := hB 14 ((-2147483648), 2147483647) rfl
  have b15 : ((-2147483648) : Int) ≤ ρ 15 ∧ ρ 15 ≤ 2147483647 := hB 15 ((-2147483648), 2147483647) rfl
  have b16 : ((-2147483648) : Int) ≤ ρ 16 ∧ ρ 16 ≤ 2147483647 := hB 16 ((-2147483648), 2147483647) rfl
  have b17 : ((-2147483648) : Int) ≤ ρ 17 ∧ ρ 17 ≤ 2147483647 := hB 17 ((-2147483648), 2147483647) rfl
  have b18 : ((-2147483648) : Int) ≤ ρ 18 ∧ ρ 18 ≤ 2147483647 := hB 18 ((-2147483648), 2147483647) rfl
  have b19 : ((-2147483648) : Int) ≤ ρ 19 ∧ ρ 19 ≤ 2147483647 := hB 19 ((-2147483648), 2147483647) rfl
  have b20 : ((-2147483648) : Int) ≤ ρ 20 ∧ ρ 20 ≤ 2147483647 := hB 20 ((-2147483648), 2147483647) rfl
  have b21 : ((-2147483648) : Int) ≤ ρ 21 ∧ ρ 21 ≤ 2147483647 := hB 21 ((-2147483648), 2147483647) rfl
  have b22 : ((-2147483648) : Int) ≤ ρ 22 ∧ ρ 22 ≤ 2147483647 := hB 22 ((-2147483648), 2147483647) rfl
  have b23 : ((-2147483648) : Int) ≤ ρ 23 ∧ ρ 23 ≤ 2147483647 := hB 23 ((-2147483648), 2147483647) rfl
  have b24 : ((-2147483648) : Int) ≤ ρ 24 ∧ ρ 24 ≤ 2147483647 := hB 24 ((-2147483648), 2147483647) rfl
  have b25 : ((-2147483648) : Int) ≤ ρ 25 ∧ ρ 25 ≤ 2147483647 := hB 25 ((-2147483648), 2147483647) rfl
  have b26 : ((-2147483648) : Int) ≤ ρ 26 ∧ ρ 26 ≤ 2147483647 := hB 26 ((-2147483648), 2147483647) rfl
  have b27 : (0 : Int) ≤ ρ 27 ∧ ρ 27 ≤ 65535 := hB 27 (0, 65535) rfl
  have b28 : ((-2147483648) : Int) ≤ ρ 28 ∧ ρ 28 ≤ 2147483647 := hB 28 ((-2147483648), 2147483647) rfl
  have b29 : ((-2147483648) : Int) ≤ ρ 29 ∧ ρ 29 ≤ 2147483647 := hB 29 ((-2147483648), 2147483647) rfl
  clear hB
  generalize ρ 14 = r14, ρ 15 = r15, ρ 16 = r16, ρ 17 = r17, ρ 18 = r18, ρ 19 = r19, ρ 20 = r20, ρ 21 = r21, ρ 22 = r22, ρ 23 = r23, ρ 24 = r24, ρ 25 = r25, ρ 26 = r26, ρ 27 = r27, ρ 28 = r28, ρ 29 = r29 at *
  subst f0
  subst f1
  subst f2
  subst f3
  subst f4
  subst f5
  subst f6
  subst f7
  subst f8
  subst f9
  subst f10
  subst f11
  subst f12
  subst f13
  subst f14
  rfl)
set_option maxRecDepth 1000000 in
theorem k_bitCount {PT : PTy} (hp : HP11 PT) : wfX c_bitCount = true ∧ xcOk PT c_bitCount := xctr (xl0) c_bitCount 62 mJ6_bitCount_0f7a4 rfl h_bitCount (by decide +kernel) (by decide +kernel) (by decide) (vcs_by [w_bitCount_0_0] (by decide +kernel) (vc (v_bitCount_0_0 hp) vn)) fmn
def c_xo_writeC : XC := (77, 3, (bT ++ [((-2147483648), 2147483647), ((-2147483648), 2147483647)]), [.inr (.inl 0), .inl (some 14, 0), .inl (some 15, 0)], (gX 999), [], [((bT ++ [((-2147483648), 2147483647), ((-2147483648), 2147483647), ((-11), 24), (0, 5), (0, 49), (0, 49), ((-2147483648), 2147483647), ((-2147483648), 2147483647)]), some (.inl (some 16, 0)), (hst (gX 999) [(0, .inr (.inr (.inr (6, [.inr (.inl 1), .inr (.inl 3), .inr (.inl 5), .inr (.inl 6), .inr (.inl 9), .inr (.inl 14), .inr (.inl 18), .inr (.inl 22), .inr (.inl 31), .inr (.inl 35), .inr (.inl 39), .inr (.inl 47), .inl (some 17, 0)])))), (5, .inr (.inr (.inr (0, [.inr (.inl 6), .inr (.inl 9), .inr (.inl 14), .inr (.inl 18), .inr (.inl 22), .inr (.inl 26), .inr (.inl 27), .inr (.inl 28), .inr (.inl 29), .inr (.inl 30), .inl (some 18, 0), .inl (some 19, 0), .inl (some 20, 0), .inl (some 21, 0), .inr (.inl 999)]))))]), (ansT 58 [(26, 58), (27, 59), (28, 60), (29, 61), (30, 62), (41, 63), (42, 64), (43, 65), (44, 66)]), 67, [(162, [(some 16, 0), (some 14, 0), (some 15, 0), (some 13, 0), (some 17, 0), (some 2, 0), (some 3, 0), (some 4, 0), (some 5, 0), (some 6, 0), (none, 0), (none, 0)], [7, 8, 10, 11, 12, 13, 15, 16, 19, 20, 21, 23, 24, 25, 45, 46, 41, 42, 43, 44, 63, 64, 65, 66])])])
def h_xo_writeC : List XH := [(74, ([(0, 23), (0, 49), (1, 8), (0, 10), (0, 8), (0, 6), (0, 6), (0, 8), (0, 9), (0, 49), (0, 49), ((-2147483648), 2147483647), ((-2147483648), 2147483647), (0, 5), (0, 7), (0, 3), (0, 24), (0, 24), (0, 49), (0, 49)]), [some (.inr (.inl 0)), some (.inl (some 14, 0)), some (.inl (some 15, 0)), some (.inl (some 16, 0)), some (.inl (some 17, 0))], (hst (gX 14) [(5, .inr (.inr (.inr (0, [.inr (.inl 6), .inr (.inl 9), .inr (.inl 14), .inr (.inl 18), .inr (.inl 22), .inr (.inl 26), .inr (.inl 27), .inr (.inl 28), .inr (.inl 29), .inr (.inl 30), .inl (some 18, 0), .inl (some 19, 0), .inl (none, 0), .inl (none, 0), .inr (.inl 14)]))))]), (ansT 58 [(26, 58), (27, 59), (28, 60), (29, 61), (30, 62), (41, 63), (42, 64), (43, 65), (44, 66)]), 67, [(150, [(some 18, 0), (some 2, 0), (some 3, 0), (some 4, 0), (some 5, 0), (some 6, 0)], [58, 59, 7, 8, 10, 11, 12, 13, 15, 16, 19, 20, 21, 23, 24, 25]), (149, [(some 19, 0), (some 17, 0), (some 2, 0), (some 3, 0), (some 4, 0), (some 5, 0), (some 6, 0), (none, 0), (none, 0)], [7, 8, 10, 11, 12, 13, 15, 16, 19, 20, 21, 23, 24, 25, 58, 60, 61, 62]), (147, [(some 16, 0), (some 14, 0), (some 15, 0), (some 2, 0)], [45, 46]), (161, [(some 17, 0), (some 14, 0), (some 15, 0), (some 2, 0), (some 3, 0), (some 4, 0), (some 5, 0), (some 6, 0), (none, 0), (none, 0)], [7, 8, 10, 11, 12, 13, 15, 16, 19, 20, 21, 23, 24, 25, 46, 41, 42, 43, 44, 63, 64, 65, 66]), (3, [(some 16, 0), (some 17, 0)], []), (3, [(some 15, 0), (none, 0)], []), (3, [(none, 3), (some 15, 0)], []), (3, [(some 14, 0), (none, 0)], []), (2, [(some 14, 0), (some 2, 0)], [])], [(true, (none, 1)), (true, (some 17, 0))])]
def w_xo_writeC_0_0 : VC := ((bT ++ [((-2147483648), (-1)), ((-2147483648), 2147483647)]), [(0, [(none, 0), (none, 0)], []), (2, [(some 14, 0), (none, 0)], [])], (162, [(none, (-2)), (some 14, 0), (some 15, 0), (some 13, 0), (some 13, 0), (some 2, 0), (some 3, 0), (some 4, 0), (some 5, 0), (some 6, 0), (none, 0), (none, 0)], [7, 8, 10, 11, 12, 13, 15, 16, 19, 20, 21, 23, 24, 25, 45, 46, 41, 42, 43, 44, 41, 42, 43, 44]))
set_option maxRecDepth 20000 in
theorem v_xo_writeC_0_0 {PT : PTy} (hp : HP11 PT) : vcOk PT w_xo_writeC_0_0 := vc_of (fun ρ α hB hF => by
  obtain ⟨f0, f1, -⟩ := hF
  have e162 : PT 162 = P_owX := hp.2.2.2.2.2.2.2.2.2.2.2.2.2.2.2.2.1
  simp only [hF0, hF2, hFp_162, e162, P_owX, den_s, den_c, Int.add_zero, List.map_cons, List.map_nil] at f0 f1 ⊢
  have b2 : (0 : Int) ≤ ρ 2 ∧ ρ 2 ≤ 8 := hB 2 (0, 8) rfl
  have b3 : (0 : Int) ≤ ρ 3 ∧ ρ 3 ≤ 10 := hB 3 (0, 10) rfl
  have b4 : (0 : Int) ≤ ρ 4 ∧ ρ 4 ≤ 8 := hB 4 (0, 8) rfl
  have b5 : (0 : Int) ≤ ρ 5 ∧ ρ 5 ≤ 6 := hB 5 (0, 6) rfl
  have b6 : (0 : Int) ≤ ρ 6 ∧ ρ 6 ≤ 6 := hB 6 (0, 6) rfl
  have b13 : (0 : Int) ≤ ρ 13 ∧ ρ 13 ≤ 5 := hB 13 (0, 5) rfl
  have b14 : ((-2147483648) : Int) ≤ ρ 14 ∧ ρ 14 ≤ (-1) := hB 14 ((-2147483648), (-1)) rfl
  have b15 : ((-2147483648) : Int) ≤ ρ 15 ∧ ρ 15 ≤ 2147483647 := hB 15 ((-2147483648), 2147483647) rfl
  clear hB
  generalize ρ 2 = r2, ρ 3 = r3, ρ 4 = r4, ρ 5 = r5, ρ 6 = r6, ρ 13 = r13, ρ 14 = r14, ρ 15 = r15, α 7 = a7, α 8 = a8, α 10 = a10, α 11 = a11, α 12 = a12, α 13 = a13, α 15 = a15, α 16 = a16, α 19 = a19, α 20 = a20, α 21 = a21, α 23 = a23, α 24 = a24, α 25 = a25, α 41 = a41, α 42 = a42, α 43 = a43, α 44 = a44, α 45 = a45, α 46 = a46 at *
  ((repeat' (first | apply And.intro | intro h)) <;> first | omega | rfl | trivial | (exfalso; omega) | (congr 1; omega) | (congr 1; (repeat' split) <;> first | rfl | (exfalso; omega))))
def w_xo_writeC_0_1 : VC := ((bT ++ [(0, 2147483647), ((-2147483648), 2147483647)]), [(0, [(none, 0), (none, 0)], []), (3, [(some 14, 0), (some 2, 0)], []), (3, [(some 14, 0), (none, 0)], [])], (162, [(none, (-2)), (some 14, 0), (some 15, 0), (some 13, 0), (some 13, 0), (some 2, 0), (some 3, 0), (some 4, 0), (some 5, 0), (some 6, 0), (none, 0), (none, 0)], [7, 8, 10, 11, 12, 13, 15, 16, 19, 20, 21, 23, 24, 25, 45, 46, 41, 42, 43, 44, 41, 42, 43, 44]))
set_option maxRecDepth 20000 in
theorem v_xo_writeC_0_1 {PT : PTy} (hp : HP11 PT) : vcOk PT w_xo_writeC_0_1 := vc_of (fun ρ α hB hF => by
  obtain ⟨f0, f1, f2, -⟩ := hF
  have e162 : PT 162 = P_owX := hp.2.2.2.2.2.2.2.2.2.2.2.2.2.2.2.2.1
  simp only [hF0, hF3, hFp_162, e162, P_owX, den_s, den_c, Int.add_zero, List.map_cons, List.map_nil] at f0 f1 f2 ⊢
  have b2 : (0 : Int) ≤ ρ 2 ∧ ρ 2 ≤ 8 := hB 2 (0, 8) rfl
  have b3 : (0 : Int) ≤ ρ 3 ∧ ρ 3 ≤ 10 := hB 3 (0, 10) rfl
  have b4 : (0 : Int) ≤ ρ 4 ∧ ρ 4 ≤ 8 := hB 4 (0, 8) rfl
  have b5 : (0 : Int) ≤ ρ 5 ∧ ρ 5 ≤ 6 := hB 5 (0, 6) rfl
  have b6 : (0 : Int) ≤ ρ 6 ∧ ρ 6 ≤ 6 := hB 6 (0, 6) rfl
  have b13 : (0 : Int) ≤ ρ 13 ∧ ρ 13 ≤ 5 := hB 13 (0, 5) rfl
  have b14 : (0 : Int) ≤ ρ 14 ∧ ρ 14 ≤ 2147483647 := hB 14 (0, 2147483647) rfl
  have b15 : ((-2147483648) : Int) ≤ ρ 15 ∧ ρ 15 ≤ 2147483647 := hB 15 ((-2147483648), 2147483647) rfl
  clear hB
  generalize ρ 2 = r2, ρ 3 = r3, ρ 4 = r4, ρ 5 = r5, ρ 6 = r6, ρ 13 = r13, ρ 14 = r14, ρ 15 = r15, α 7 = a7, α 8 = a8, α 10 = a10, α 11 = a11, α 12 = a12, α 13 = a13, α 15 = a15, α 16 = a16, α 19 = a19, α 20 = a20, α 21 = a21, α 23 = a23, α 24 = a24, α 25 = a25, α 41 = a41, α 42 = a42, α 43 = a43, α 44 = a44, α 45 = a45, α 46 = a46 at *
  ((repeat' (first | apply And.intro | intro h)) <;> first | omega | rfl | trivial | (exfalso; omega) | (congr 1; omega) | (congr 1; (repeat' split) <;> first | rfl | (exfalso; omega))))
def w_xo_writeC_0_2 : VC := (([(0, 23), (0, 49), (1, 8), (0, 10), (0, 8), (0, 6), (0, 6), (0, 8), (0, 9), (0, 49), (0, 49), ((-2147483648), 2147483647), ((-2147483648), 2147483647), (0, 5), (0, 7), ((-2147483648), (-1))]), [(0, [(none, 0), (none, 0)], []), (2, [(some 15, 0), (none, 0)], []), (1, [(none, 1), (none, 0)], []), (2, [(some 14, 0), (some 2, 0)], []), (3, [(some 14, 0), (none, 0)], [])], (162, [(none, (-2)), (some 14, 0), (some 15, 0), (some 13, 0), (some 13, 0), (some 2, 0), (some 3, 0), (some 4, 0), (some 5, 0), (some 6, 0), (none, 0), (none, 0)], [7, 8, 10, 11, 12, 13, 15, 16, 19, 20, 21, 23, 24, 25, 45, 46, 41, 42, 43, 44, 41, 42, 43, 44]))
set_option maxRecDepth 20000 in
theorem v_xo_writeC_0_2 {PT : PTy} (hp : HP11 PT) : vcOk PT w_xo_writeC_0_2 := vc_of (fun ρ α hB hF => by
  obtain ⟨f0, f1, f2, f3, f4, -⟩ := hF
  have e162 : PT 162 = P_owX := hp.2.2.2.2.2.2.2.2.2.2.2.2.2.2.2.2.1
  simp only [hF0, hF1, hF2, hF3, hFp_162, e162, P_owX, den_s, den_c, Int.add_zero, List.map_cons, List.map_nil] at f0 f1 f2 f3 f4 ⊢
  have b2 : (1 : Int) ≤ ρ 2 ∧ ρ 2 ≤ 8 := hB 2 (1, 8) rfl
  have b3 : (0 : Int) ≤ ρ 3 ∧ ρ 3 ≤ 10 := hB 3 (0, 10) rfl
  have b4 : (0 : Int) ≤ ρ 4 ∧ ρ 4 ≤ 8 := hB 4 (0, 8) rfl
  have b5 : (0 : Int) ≤ ρ 5 ∧ ρ 5 ≤ 6 := hB 5 (0, 6) rfl
  have b6 : (0 : Int) ≤ ρ 6 ∧ ρ 6 ≤ 6 := hB 6 (0, 6) rfl
  have b13 : (0 : Int) ≤ ρ 13 ∧ ρ 13 ≤ 5 := hB 13 (0, 5) rfl
  have b14 : (0 : Int) ≤ ρ 14 ∧ ρ 14 ≤ 7 := hB 14 (0, 7) rfl
  have b15 : ((-2147483648) : Int) ≤ ρ 15 ∧ ρ 15 ≤ (-1) := hB 15 ((-2147483648), (-1)) rfl
  clear hB
  generalize ρ 2 = r2, ρ 3 = r3, ρ 4 = r4, ρ 5 = r5, ρ 6 = r6, ρ 13 = r13, ρ 14 = r14, ρ 15 = r15, α 7 = a7, α 8 = a8, α 10 = a10, α 11 = a11, α 12 = a12, α 13 = a13, α 15 = a15, α 16 = a16, α 19 = a19, α 20 = a20, α 21 = a21, α 23 = a23, α 24 = a24, α 25 = a25, α 41 = a41, α 42 = a42, α 43 = a43, α 44 = a44, α 45 = a45, α 46 = a46 at *
  ((repeat' (first | apply And.intro | intro h)) <;> first | omega | rfl | trivial | (exfalso; omega) | (congr 1; omega) | (congr 1; (repeat' split) <;> first | rfl | (exfalso; omega))))
def w_xo_writeC_0_3 : VC := (([(0, 23), (0, 49), (1, 8), (0, 10), (0, 8), (0, 6), (0, 6), (0, 8), (0, 9), (0, 49), (0, 49), ((-2147483648), 2147483647), ((-2147483648), 2147483647), (0, 5), (0, 7), (4, 2147483647)]), [(0, [(none, 0), (none, 0)], []), (2, [(none, 3), (some 15, 0)], []), (3, [(some 15, 0), (none, 0)], []), (1, [(none, 1), (none, 0)], []), (2, [(some 14, 0), (some 2, 0)], []), (3, [(some 14, 0), (none, 0)], [])], (162, [(none, (-2)), (some 14, 0), (some 15, 0), (some 13, 0), (some 13, 0), (some 2, 0), (some 3, 0), (some 4, 0), (some 5, 0), (some 6, 0), (none, 0), (none, 0)], [7, 8, 10, 11, 12, 13, 15, 16, 19, 20, 21, 23, 24, 25, 45, 46, 41, 42, 43, 44, 41, 42, 43, 44]))
set_option maxRecDepth 20000 in
theorem v_xo_writeC_0_3 {PT : PTy} (hp : HP11 PT) : vcOk PT w_xo_writeC_0_3 := vc_of (fun ρ α hB hF => by
  obtain ⟨f0, f1, f2, f3, f4, f5, -⟩ := hF
  have e162 : PT 162 = P_owX := hp.2.2.2.2.2.2.2.2.2.2.2.2.2.2.2.2.1
  simp only [hF0, hF1, hF2, hF3, hFp_162, e162, P_owX, den_s, den_c, Int.add_zero, List.map_cons, List.map_nil] at f0 f1 f2 f3 f4 f5 ⊢
  have b2 : (1 : Int) ≤ ρ 2 ∧ ρ 2 ≤ 8 := hB 2 (1, 8) rfl
  have b3 : (0 : Int) ≤ ρ 3 ∧ ρ 3 ≤ 10 := hB 3 (0, 10) rfl
  have b4 : (0 : Int) ≤ ρ 4 ∧ ρ 4 ≤ 8 := hB 4 (0, 8) rfl
  have b5 : (0 : Int) ≤ ρ 5 ∧ ρ 5 ≤ 6 := hB 5 (0, 6) rfl
  have b6 : (0 : Int) ≤ ρ 6 ∧ ρ 6 ≤ 6 := hB 6 (0, 6) rfl
  have b13 : (0 : Int) ≤ ρ 13 ∧ ρ 13 ≤ 5 := hB 13 (0, 5) rfl
  have b14 : (0 : Int) ≤ ρ 14 ∧ ρ 14 ≤ 7 := hB 14 (0, 7) rfl
  have b15 : (4 : Int) ≤ ρ 15 ∧ ρ 15 ≤ 2147483647 := hB 15 (4, 2147483647) rfl
  clear hB
  generalize ρ 2 = r2, ρ 3 = r3, ρ 4 = r4, ρ 5 = r5, ρ 6 = r6, ρ 13 = r13, ρ 14 = r14, ρ 15 = r15, α 7 = a7, α 8 = a8, α 10 = a10, α 11 = a11, α 12 = a12, α 13 = a13, α 15 = a15, α 16 = a16, α 19 = a19, α 20 = a20, α 21 = a21, α 23 = a23, α 24 = a24, α 25 = a25, α 41 = a41, α 42 = a42, α 43 = a43, α 44 = a44, α 45 = a45, α 46 = a46 at *
  ((repeat' (first | apply And.intro | intro h)) <;> first | omega | rfl | trivial | (exfalso; omega) | (congr 1; omega) | (congr 1; (repeat' split) <;> first | rfl | (exfalso; omega))))
def w_xo_writeC_0_4 : VC := (([(0, 23), (0, 49), (1, 8), (0, 10), (0, 8), (0, 6), (0, 6), (0, 8), (0, 9), (0, 49), (0, 49), ((-2147483648), 2147483647), ((-2147483648), 2147483647), (0, 5), (0, 7), (0, 3), (0, 2), (0, 60), (0, 24), (0, 49)]), [(89, [], [8, 60, 61, 62]), (86, [(some 2, 0), (some 3, 0), (some 4, 0), (some 5, 0), (some 6, 0), (some 19, 0)], [58, 59, 10, 12, 13, 15, 16, 19, 20, 23, 24]), (23, [(some 18, 0), (none, 24), (some 17, 0)], []), (20, [(some 17, 0), (some 15, 0)], [45]), (0, [(none, 0), (none, 0)], []), (1, [(some 16, 0), (none, (-1))], []), (20, [(some 16, 0), (some 15, 0)], [46]), (1, [(none, 1), (none, 0)], []), (3, [(none, 3), (some 15, 0)], []), (3, [(some 15, 0), (none, 0)], []), (1, [(none, 1), (none, 0)], []), (2, [(some 14, 0), (some 2, 0)], []), (3, [(some 14, 0), (none, 0)], [])], (150, [(some 19, 0), (some 2, 0), (some 3, 0), (some 4, 0), (some 5, 0), (some 6, 0)], [58, 59, 7, 8, 10, 11, 12, 13, 15, 16, 19, 20, 21, 23, 24, 25]))
set_option maxRecDepth 20000 in
theorem v_xo_writeC_0_4 {PT : PTy} (hp : HP11 PT) : vcOk PT w_xo_writeC_0_4 := vc_of (fun ρ α hB hF => by
  obtain ⟨f0, f1, f2, f3, f4, f5, f6, f7, f8, f9, f10, f11, f12, -⟩ := hF
  have e86 : PT 86 = P_arr := hp.1.1.1.1.1.1.1.1.2.2.2.2.2.2.2.1
  have e89 : PT 89 = P_bg := hp.1.1.1.1.1.1.1.1.2.2.2.2.2.2.2.2.2.2.1
  have e150 : PT 150 = P_ar2 := hp.2.2.2.2.1
  simp only [hF0, hF1, hF2, hF3, hF20, hF23, hFp_86, hFp_89, hFp_150, e86, e89, e150, P_arr, P_bg, P_ar2, den_s, den_c, Int.add_zero, List.map_cons, List.map_nil] at f0 f1 f2 f3 f4 f5 f6 f7 f8 f9 f10 f11 f12 ⊢
  have b2 : (1 : Int) ≤ ρ 2 ∧ ρ 2 ≤ 8 := hB 2 (1, 8) rfl
  have b3 : (0 : Int) ≤ ρ 3 ∧ ρ 3 ≤ 10 := hB 3 (0, 10) rfl
  have b4 : (0 : Int) ≤ ρ 4 ∧ ρ 4 ≤ 8 := hB 4 (0, 8) rfl
  have b5 : (0 : Int) ≤ ρ 5 ∧ ρ 5 ≤ 6 := hB 5 (0, 6) rfl
  have b6 : (0 : Int) ≤ ρ 6 ∧ ρ 6 ≤ 6 := hB 6 (0, 6) rfl
  have b14 : (0 : Int) ≤ ρ 14 ∧ ρ 14 ≤ 7 := hB 14 (0, 7) rfl
  have b15 : (0 : Int) ≤ ρ 15 ∧ ρ 15 ≤ 3 := hB 15 (0, 3) rfl
  have b16 : (0 : Int) ≤ ρ 16 ∧ ρ 16 ≤ 2 := hB 16 (0, 2) rfl
  have b17 : (0 : Int) ≤ ρ 17 ∧ ρ 17 ≤ 60 := hB 17 (0, 60) rfl
  have b18 : (0 : Int) ≤ ρ 18 ∧ ρ 18 ≤ 24 := hB 18 (0, 24) rfl
  have b19 : (0 : Int) ≤ ρ 19 ∧ ρ 19 ≤ 49 := hB 19 (0, 49) rfl
  exact f1)
def w_xo_writeC_0_5 : VC := (([(0, 23), (0, 49), (1, 8), (0, 10), (0, 8), (0, 6), (0, 6), (0, 8), (0, 9), (0, 49), (0, 49), ((-2147483648), 2147483647), ((-2147483648), 2147483647), (0, 5), (0, 7), (0, 3), (0, 2), (0, 60), (0, 24), (0, 49)]), [(89, [], [8, 60, 61, 62]), (86, [(some 2, 0), (some 3, 0), (some 4, 0), (some 5, 0), (some 6, 0), (some 19, 0)], [58, 59, 10, 12, 13, 15, 16, 19, 20, 23, 24]), (23, [(some 18, 0), (none, 24), (some 17, 0)], []), (20, [(some 17, 0), (some 15, 0)], [45]), (0, [(none, 0), (none, 0)], []), (1, [(some 16, 0), (none, (-1))], []), (20, [(some 16, 0), (some 15, 0)], [46]), (1, [(none, 1), (none, 0)], []), (3, [(none, 3), (some 15, 0)], []), (3, [(some 15, 0), (none, 0)], []), (1, [(none, 1), (none, 0)], []), (2, [(some 14, 0), (some 2, 0)], []), (3, [(some 14, 0), (none, 0)], [])], (149, [(none, 0), (none, 0), (some 2, 0), (some 3, 0), (some 4, 0), (some 5, 0), (some 6, 0), (none, 0), (none, 0)], [7, 8, 10, 11, 12, 13, 15, 16, 19, 20, 21, 23, 24, 25, 58, 60, 61, 62]))
set_option maxRecDepth 20000 in
theorem v_xo_writeC_0_5 {PT : PTy} (hp : HP11 PT) : vcOk PT w_xo_writeC_0_5 := vc_of (fun ρ α hB hF => by
  obtain ⟨f0, f1, f2, f3, f4, f5, f6, f7, f8, f9, f10, f11, f12, -⟩ := hF
  have e86 : PT 86 = P_arr := hp.1.1.1.1.1.1.1.1.2.2.2.2.2.2.2.1
  have e89 : PT 89 = P_bg := hp.1.1.1.1.1.1.1.1.2.2.2.2.2.2.2.2.2.2.1
  have e149 : PT 149 = P_yi := hp.2.2.2.1
  simp only [hF0, hF1, hF2, hF3, hF20, hF23, hFp_86, hFp_89, hFp_149, e86, e89, e149, P_arr, P_bg, P_yi, den_s, den_c, Int.add_zero, List.map_cons, List.map_nil] at f0 f1 f2 f3 f4 f5 f6 f7 f8 f9 f10 f11 f12 ⊢
  have b2 : (1 : Int) ≤ ρ 2 ∧ ρ 2 ≤ 8 := hB 2 (1, 8) rfl
  have b3 : (0 : Int) ≤ ρ 3 ∧ ρ 3 ≤ 10 := hB 3 (0, 10) rfl
  have b4 : (0 : Int) ≤ ρ 4 ∧ ρ 4 ≤ 8 := hB 4 (0, 8) rfl
  have b5 : (0 : Int) ≤ ρ 5 ∧ ρ 5 ≤ 6 := hB 5 (0, 6) rfl
  have b6 : (0 : Int) ≤ ρ 6 ∧ ρ 6 ≤ 6 := hB 6 (0, 6) rfl
  have b14 : (0 : Int) ≤ ρ 14 ∧ ρ 14 ≤ 7 := hB 14 (0, 7) rfl
  have b15 : (0 : Int) ≤ ρ 15 ∧ ρ 15 ≤ 3 := hB 15 (0, 3) rfl
  have b16 : (0 : Int) ≤ ρ 16 ∧ ρ 16 ≤ 2 := hB 16 (0, 2) rfl
  have b17 : (0 : Int) ≤ ρ 17 ∧ ρ 17 ≤ 60 := hB 17 (0, 60) rfl
  have b18 : (0 : Int) ≤ ρ 18 ∧ ρ 18 ≤ 24 := hB 18 (0, 24) rfl
  have b19 : (0 : Int) ≤ ρ 19 ∧ ρ 19 ≤ 49 := hB 19 (0, 49) rfl
  exact yI_z f0)
def w_xo_writeC_0_6 : VC := (([(0, 23), (0, 49), (1, 8), (0, 10), (0, 8), (0, 6), (0, 6), (0, 8), (0, 9), (0, 49), (0, 49), ((-2147483648), 2147483647), ((-2147483648), 2147483647), (0, 5), (0, 7), (0, 3), (0, 2), (0, 60), (0, 24), (0, 49)]), [(89, [], [8, 60, 61, 62]), (86, [(some 2, 0), (some 3, 0), (some 4, 0), (some 5, 0), (some 6, 0), (some 19, 0)], [58, 59, 10, 12, 13, 15, 16, 19, 20, 23, 24]), (23, [(some 18, 0), (none, 24), (some 17, 0)], []), (20, [(some 17, 0), (some 15, 0)], [45]), (0, [(none, 0), (none, 0)], []), (1, [(some 16, 0), (none, (-1))], []), (20, [(some 16, 0), (some 15, 0)], [46]), (1, [(none, 1), (none, 0)], []), (3, [(none, 3), (some 15, 0)], []), (3, [(some 15, 0), (none, 0)], []), (1, [(none, 1), (none, 0)], []), (2, [(some 14, 0), (some 2, 0)], []), (3, [(some 14, 0), (none, 0)], [])], (147, [(some 18, 0), (some 14, 0), (some 15, 0), (some 2, 0)], [45, 46]))
set_option maxRecDepth 20000 in
theorem v_xo_writeC_0_6 {PT : PTy} (hp : HP11 PT) : vcOk PT w_xo_writeC_0_6 := vc_of (fun ρ α hB hF => by
  obtain ⟨f0, f1, f2, f3, f4, f5, f6, f7, f8, f9, f10, f11, f12, -⟩ := hF
  have e86 : PT 86 = P_arr := hp.1.1.1.1.1.1.1.1.2.2.2.2.2.2.2.1
  have e89 : PT 89 = P_bg := hp.1.1.1.1.1.1.1.1.2.2.2.2.2.2.2.2.2.2.1
  have e147 : PT 147 = P_wrX := hp.2.1
  simp only [hF0, hF1, hF2, hF3, hF20, hF23, hFp_86, hFp_89, hFp_147, e86, e89, e147, P_arr, P_bg, P_wrX, den_s, den_c, Int.add_zero, List.map_cons, List.map_nil] at f0 f1 f2 f3 f4 f5 f6 f7 f8 f9 f10 f11 f12 ⊢
  have b2 : (1 : Int) ≤ ρ 2 ∧ ρ 2 ≤ 8 := hB 2 (1, 8) rfl
  have b3 : (0 : Int) ≤ ρ 3 ∧ ρ 3 ≤ 10 := hB 3 (0, 10) rfl
  have b4 : (0 : Int) ≤ ρ 4 ∧ ρ 4 ≤ 8 := hB 4 (0, 8) rfl
  have b5 : (0 : Int) ≤ ρ 5 ∧ ρ 5 ≤ 6 := hB 5 (0, 6) rfl
  have b6 : (0 : Int) ≤ ρ 6 ∧ ρ 6 ≤ 6 := hB 6 (0, 6) rfl
  have b14 : (0 : Int) ≤ ρ 14 ∧ ρ 14 ≤ 7 := hB 14 (0, 7) rfl
  have b15 : (0 : Int) ≤ ρ 15 ∧ ρ 15 ≤ 3 := hB 15 (0, 3) rfl
  have b16 : (0 : Int) ≤ ρ 16 ∧ ρ 16 ≤ 2 := hB 16 (0, 2) rfl
  have b17 : (0 : Int) ≤ ρ 17 ∧ ρ 17 ≤ 60 := hB 17 (0, 60) rfl
  have b18 : (0 : Int) ≤ ρ 18 ∧ ρ 18 ≤ 24 := hB 18 (0, 24) rfl
  have b19 : (0 : Int) ≤ ρ 19 ∧ ρ 19 ≤ 49 := hB 19 (0, 49) rfl
  clear hB
  generalize ρ 2 = r2, ρ 3 = r3, ρ 4 = r4, ρ 5 = r5, ρ 6 = r6, ρ 14 = r14, ρ 15 = r15, ρ 16 = r16, ρ 17 = r17, ρ 18 = r18, ρ 19 = r19, α 8 = a8, α 10 = a10, α 12 = a12, α 13 = a13, α 15 = a15, α 16 = a16, α 19 = a19, α 20 = a20, α 23 = a23, α 24 = a24, α 45 = a45, α 46 = a46, α 58 = a58, α 59 = a59, α 60 = a60, α 61 = a61, α 62 = a62 at *
  subst f2
  subst f3
  subst f6
  ((repeat' (first | apply And.intro | intro h)) <;> first | omega | rfl | trivial | (exfalso; omega)))
def w_xo_writeC_0_7 : VC := (([(0, 23), (0, 49), (1, 8), (0, 10), (0, 8), (0, 6), (0, 6), (0, 8), (0, 9), (0, 49), (0, 49), ((-2147483648), 2147483647), ((-2147483648), 2147483647), (0, 5), (0, 7), (0, 3), (0, 2), (0, 60), (0, 24), (0, 49)]), [(89, [], [8, 60, 61, 62]), (86, [(some 2, 0), (some 3, 0), (some 4, 0), (some 5, 0), (some 6, 0), (some 19, 0)], [58, 59, 10, 12, 13, 15, 16, 19, 20, 23, 24]), (23, [(some 18, 0), (none, 24), (some 17, 0)], []), (20, [(some 17, 0), (some 15, 0)], [45]), (0, [(none, 0), (none, 0)], []), (1, [(some 16, 0), (none, (-1))], []), (20, [(some 16, 0), (some 15, 0)], [46]), (1, [(none, 1), (none, 0)], []), (3, [(none, 3), (some 15, 0)], []), (3, [(some 15, 0), (none, 0)], []), (1, [(none, 1), (none, 0)], []), (2, [(some 14, 0), (some 2, 0)], []), (3, [(some 14, 0), (none, 0)], [])], (161, [(none, 0), (some 14, 0), (some 15, 0), (some 2, 0), (some 3, 0), (some 4, 0), (some 5, 0), (some 6, 0), (none, 0), (none, 0)], [7, 8, 10, 11, 12, 13, 15, 16, 19, 20, 21, 23, 24, 25, 46, 41, 42, 43, 44, 41, 42, 43, 44]))
set_option maxRecDepth 20000 in
theorem v_xo_writeC_0_7 {PT : PTy} (hp : HP11 PT) : vcOk PT w_xo_writeC_0_7 := vc_of (fun ρ α hB hF => by
  obtain ⟨f0, f1, f2, f3, f4, f5, f6, f7, f8, f9, f10, f11, f12, -⟩ := hF
  have e86 : PT 86 = P_arr := hp.1.1.1.1.1.1.1.1.2.2.2.2.2.2.2.1
  have e89 : PT 89 = P_bg := hp.1.1.1.1.1.1.1.1.2.2.2.2.2.2.2.2.2.2.1
  have e161 : PT 161 = P_wcX := hp.2.2.2.2.2.2.2.2.2.2.2.2.2.2.2.1
  simp only [hF0, hF1, hF2, hF3, hF20, hF23, hFp_86, hFp_89, hFp_161, e86, e89, e161, P_arr, P_bg, P_wcX, den_s, den_c, Int.add_zero, List.map_cons, List.map_nil] at f0 f1 f2 f3 f4 f5 f6 f7 f8 f9 f10 f11 f12 ⊢
  have b2 : (1 : Int) ≤ ρ 2 ∧ ρ 2 ≤ 8 := hB 2 (1, 8) rfl
  have b3 : (0 : Int) ≤ ρ 3 ∧ ρ 3 ≤ 10 := hB 3 (0, 10) rfl
  have b4 : (0 : Int) ≤ ρ 4 ∧ ρ 4 ≤ 8 := hB 4 (0, 8) rfl
  have b5 : (0 : Int) ≤ ρ 5 ∧ ρ 5 ≤ 6 := hB 5 (0, 6) rfl
  have b6 : (0 : Int) ≤ ρ 6 ∧ ρ 6 ≤ 6 := hB 6 (0, 6) rfl
  have b14 : (0 : Int) ≤ ρ 14 ∧ ρ 14 ≤ 7 := hB 14 (0, 7) rfl
  have b15 : (0 : Int) ≤ ρ 15 ∧ ρ 15 ≤ 3 := hB 15 (0, 3) rfl
  have b16 : (0 : Int) ≤ ρ 16 ∧ ρ 16 ≤ 2 := hB 16 (0, 2) rfl
  have b17 : (0 : Int) ≤ ρ 17 ∧ ρ 17 ≤ 60 := hB 17 (0, 60) rfl
  have b18 : (0 : Int) ≤ ρ 18 ∧ ρ 18 ≤ 24 := hB 18 (0, 24) rfl
  have b19 : (0 : Int) ≤ ρ 19 ∧ ρ 19 ≤ 49 := hB 19 (0, 49) rfl
  exact wcS_z)
def w_xo_writeC_0_8 : VC := (([(0, 23), (0, 49), (1, 8), (0, 10), (0, 8), (0, 6), (0, 6), (0, 8), (0, 9), (0, 49), (0, 49), ((-2147483648), 2147483647), ((-2147483648), 2147483647), (0, 5), (0, 7), (0, 3), (0, 2), (0, 60), (0, 24), (0, 49)]), [(89, [], [8, 60, 61, 62]), (86, [(some 2, 0), (some 3, 0), (some 4, 0), (some 5, 0), (some 6, 0), (some 19, 0)], [58, 59, 10, 12, 13, 15, 16, 19, 20, 23, 24]), (23, [(some 18, 0), (none, 24), (some 17, 0)], []), (20, [(some 17, 0), (some 15, 0)], [45]), (0, [(none, 0), (none, 0)], []), (1, [(some 16, 0), (none, (-1))], []), (20, [(some 16, 0), (some 15, 0)], [46]), (1, [(none, 1), (none, 0)], []), (3, [(none, 3), (some 15, 0)], []), (3, [(some 15, 0), (none, 0)], []), (1, [(none, 1), (none, 0)], []), (2, [(some 14, 0), (some 2, 0)], []), (3, [(some 14, 0), (none, 0)], [])], (3, [(some 18, 0), (none, 0)], []))
set_option maxRecDepth 20000 in
theorem v_xo_writeC_0_8 {PT : PTy} (hp : HP11 PT) : vcOk PT w_xo_writeC_0_8 := vc_of (fun ρ α hB hF => by
  obtain ⟨f0, f1, f2, f3, f4, f5, f6, f7, f8, f9, f10, f11, f12, -⟩ := hF
  have e86 : PT 86 = P_arr := hp.1.1.1.1.1.1.1.1.2.2.2.2.2.2.2.1
  have e89 : PT 89 = P_bg := hp.1.1.1.1.1.1.1.1.2.2.2.2.2.2.2.2.2.2.1
  simp only [hF0, hF1, hF2, hF3, hF20, hF23, hFp_86, hFp_89, e86, e89, P_arr, P_bg, den_s, den_c, Int.add_zero, List.map_cons, List.map_nil] at f0 f1 f2 f3 f4 f5 f6 f7 f8 f9 f10 f11 f12 ⊢
  have b2 : (1 : Int) ≤ ρ 2 ∧ ρ 2 ≤ 8 := hB 2 (1, 8) rfl
  have b3 : (0 : Int) ≤ ρ 3 ∧ ρ 3 ≤ 10 := hB 3 (0, 10) rfl
  have b4 : (0 : Int) ≤ ρ 4 ∧ ρ 4 ≤ 8 := hB 4 (0, 8) rfl
  have b5 : (0 : Int) ≤ ρ 5 ∧ ρ 5 ≤ 6 := hB 5 (0, 6) rfl
  have b6 : (0 : Int) ≤ ρ 6 ∧ ρ 6 ≤ 6 := hB 6 (0, 6) rfl
  have b14 : (0 : Int) ≤ ρ 14 ∧ ρ 14 ≤ 7 := hB 14 (0, 7) rfl
  have b15 : (0 : Int) ≤ ρ 15 ∧ ρ 15 ≤ 3 := hB 15 (0, 3) rfl
  have b16 : (0 : Int) ≤ ρ 16 ∧ ρ 16 ≤ 2 := hB 16 (0, 2) rfl
  have b17 : (0 : Int) ≤ ρ 17 ∧ ρ 17 ≤ 60 := hB 17 (0, 60) rfl
  have b18 : (0 : Int) ≤ ρ 18 ∧ ρ 18 ≤ 24 := hB 18 (0, 24) rfl
  have b19 : (0 : Int) ≤ ρ 19 ∧ ρ 19 ≤ 49 := hB 19 (0, 49) rfl
  clear hB
  generalize ρ 2 = r2, ρ 3 = r3, ρ 4 = r4, ρ 5 = r5, ρ 6 = r6, ρ 14 = r14, ρ 15 = r15, ρ 16 = r16, ρ 17 = r17, ρ 18 = r18, ρ 19 = r19, α 8 = a8, α 10 = a10, α 12 = a12, α 13 = a13, α 15 = a15, α 16 = a16, α 19 = a19, α 20 = a20, α 23 = a23, α 24 = a24, α 45 = a45, α 46 = a46, α 58 = a58, α 59 = a59, α 60 = a60, α 61 = a61, α 62 = a62 at *
  subst f2
  subst f3
  subst f6
  ((repeat' (first | apply And.intro | intro h)) <;> first | omega | rfl | trivial | (exfalso; omega)))
def w_xo_writeC_0_9 : VC := (([(0, 23), (0, 49), (1, 8), (0, 10), (0, 8), (0, 6), (0, 6), (0, 8), (0, 9), (0, 49), (0, 49), ((-2147483648), 2147483647), ((-2147483648), 2147483647), (0, 5), (0, 7), (0, 3), ((-1), (-1))]), [(1, [(none, 1), (none, 0)], []), (0, [(some 16, 0), (none, (-1))], []), (20, [(some 16, 0), (some 15, 0)], [46]), (1, [(none, 1), (none, 0)], []), (3, [(none, 3), (some 15, 0)], []), (3, [(some 15, 0), (none, 0)], []), (1, [(none, 1), (none, 0)], []), (2, [(some 14, 0), (some 2, 0)], []), (3, [(some 14, 0), (none, 0)], [])], (162, [(none, (-11)), (some 14, 0), (some 15, 0), (some 13, 0), (none, 1), (some 2, 0), (some 3, 0), (some 4, 0), (some 5, 0), (some 6, 0), (none, 0), (none, 0)], [7, 8, 10, 11, 12, 13, 15, 16, 19, 20, 21, 23, 24, 25, 45, 46, 41, 42, 43, 44, 41, 42, 43, 44]))
set_option maxRecDepth 20000 in
theorem v_xo_writeC_0_9 {PT : PTy} (hp : HP11 PT) : vcOk PT w_xo_writeC_0_9 := vc_of (fun ρ α hB hF => by
  obtain ⟨f0, f1, f2, f3, f4, f5, f6, f7, f8, -⟩ := hF
  have e162 : PT 162 = P_owX := hp.2.2.2.2.2.2.2.2.2.2.2.2.2.2.2.2.1
  simp only [hF0, hF1, hF2, hF3, hF20, hFp_162, e162, P_owX, den_s, den_c, Int.add_zero, List.map_cons, List.map_nil] at f0 f1 f2 f3 f4 f5 f6 f7 f8 ⊢
  have b2 : (1 : Int) ≤ ρ 2 ∧ ρ 2 ≤ 8 := hB 2 (1, 8) rfl
  have b3 : (0 : Int) ≤ ρ 3 ∧ ρ 3 ≤ 10 := hB 3 (0, 10) rfl
  have b4 : (0 : Int) ≤ ρ 4 ∧ ρ 4 ≤ 8 := hB 4 (0, 8) rfl
  have b5 : (0 : Int) ≤ ρ 5 ∧ ρ 5 ≤ 6 := hB 5 (0, 6) rfl
  have b6 : (0 : Int) ≤ ρ 6 ∧ ρ 6 ≤ 6 := hB 6 (0, 6) rfl
  have b13 : (0 : Int) ≤ ρ 13 ∧ ρ 13 ≤ 5 := hB 13 (0, 5) rfl
  have b14 : (0 : Int) ≤ ρ 14 ∧ ρ 14 ≤ 7 := hB 14 (0, 7) rfl
  have b15 : (0 : Int) ≤ ρ 15 ∧ ρ 15 ≤ 3 := hB 15 (0, 3) rfl
  have b16 : ((-1) : Int) ≤ ρ 16 ∧ ρ 16 ≤ (-1) := hB 16 ((-1), (-1)) rfl
  clear hB
  generalize ρ 2 = r2, ρ 3 = r3, ρ 4 = r4, ρ 5 = r5, ρ 6 = r6, ρ 13 = r13, ρ 14 = r14, ρ 15 = r15, ρ 16 = r16, α 7 = a7, α 8 = a8, α 10 = a10, α 11 = a11, α 12 = a12, α 13 = a13, α 15 = a15, α 16 = a16, α 19 = a19, α 20 = a20, α 21 = a21, α 23 = a23, α 24 = a24, α 25 = a25, α 41 = a41, α 42 = a42, α 43 = a43, α 44 = a44, α 45 = a45, α 46 = a46 at *
  subst f2
  ((repeat' (first | apply And.intro | intro h)) <;> first | omega | rfl | trivial | (exfalso; omega) | (congr 1; omega) | (congr 1; (repeat' split) <;> first | rfl | (exfalso; omega))))
def w_xo_writeC_1_0 : VC := (([(0, 23), (0, 49), (1, 8), (0, 10), (0, 8), (0, 6), (0, 6), (0, 8), (0, 9), (0, 49), (0, 49), ((-2147483648), 2147483647), ((-2147483648), 2147483647), (0, 5), (0, 7), (0, 3), (0, 24), (0, 24), (0, 49), (0, 49)]), [(3, [(some 17, 0), (some 16, 0)], []), (150, [(some 18, 0), (some 2, 0), (some 3, 0), (some 4, 0), (some 5, 0), (some 6, 0)], [58, 59, 7, 8, 10, 11, 12, 13, 15, 16, 19, 20, 21, 23, 24, 25]), (149, [(some 19, 0), (some 17, 0), (some 2, 0), (some 3, 0), (some 4, 0), (some 5, 0), (some 6, 0), (none, 0), (none, 0)], [7, 8, 10, 11, 12, 13, 15, 16, 19, 20, 21, 23, 24, 25, 58, 60, 61, 62]), (147, [(some 16, 0), (some 14, 0), (some 15, 0), (some 2, 0)], [45, 46]), (161, [(some 17, 0), (some 14, 0), (some 15, 0), (some 2, 0), (some 3, 0), (some 4, 0), (some 5, 0), (some 6, 0), (none, 0), (none, 0)], [7, 8, 10, 11, 12, 13, 15, 16, 19, 20, 21, 23, 24, 25, 46, 41, 42, 43, 44, 63, 64, 65, 66]), (3, [(some 16, 0), (some 17, 0)], []), (3, [(some 15, 0), (none, 0)], []), (3, [(none, 3), (some 15, 0)], []), (3, [(some 14, 0), (none, 0)], []), (2, [(some 14, 0), (some 2, 0)], [])], (162, [(some 16, 0), (some 14, 0), (some 15, 0), (some 13, 0), (some 13, 0), (some 2, 0), (some 3, 0), (some 4, 0), (some 5, 0), (some 6, 0), (none, 0), (none, 0)], [7, 8, 10, 11, 12, 13, 15, 16, 19, 20, 21, 23, 24, 25, 45, 46, 41, 42, 43, 44, 63, 64, 65, 66]))
set_option maxRecDepth 20000 in
theorem v_xo_writeC_1_0 {PT : PTy} (hp : HP11 PT) : vcOk PT w_xo_writeC_1_0 := vc_of (fun ρ α hB hF => by
  obtain ⟨f0, f1, f2, f3, f4, f5, f6, f7, f8, f9, -⟩ := hF
  have e147 : PT 147 = P_wrX := hp.2.1
  have e149 : PT 149 = P_yi := hp.2.2.2.1
  have e150 : PT 150 = P_ar2 := hp.2.2.2.2.1
  have e161 : PT 161 = P_wcX := hp.2.2.2.2.2.2.2.2.2.2.2.2.2.2.2.1
  have e162 : PT 162 = P_owX := hp.2.2.2.2.2.2.2.2.2.2.2.2.2.2.2.2.1
  simp only [hF2, hF3, hFp_147, hFp_149, hFp_150, hFp_161, hFp_162, e147, e149, e150, e161, e162, P_wrX, P_yi, P_ar2, P_wcX, P_owX, den_s, den_c, Int.add_zero, List.map_cons, List.map_nil] at f0 f1 f2 f3 f4 f5 f6 f7 f8 f9 ⊢
  have b2 : (1 : Int) ≤ ρ 2 ∧ ρ 2 ≤ 8 := hB 2 (1, 8) rfl
  have b3 : (0 : Int) ≤ ρ 3 ∧ ρ 3 ≤ 10 := hB 3 (0, 10) rfl
  have b4 : (0 : Int) ≤ ρ 4 ∧ ρ 4 ≤ 8 := hB 4 (0, 8) rfl
  have b5 : (0 : Int) ≤ ρ 5 ∧ ρ 5 ≤ 6 := hB 5 (0, 6) rfl
  have b6 : (0 : Int) ≤ ρ 6 ∧ ρ 6 ≤ 6 := hB 6 (0, 6) rfl
  have b13 : (0 : Int) ≤ ρ 13 ∧ ρ 13 ≤ 5 := hB 13 (0, 5) rfl
  have b14 : (0 : Int) ≤ ρ 14 ∧ ρ 14 ≤ 7 := hB 14 (0, 7) rfl
  have b15 : (0 : Int) ≤ ρ 15 ∧ ρ 15 ≤ 3 := hB 15 (0, 3) rfl
  have b16 : (0 : Int) ≤ ρ 16 ∧ ρ 16 ≤ 24 := hB 16 (0, 24) rfl
  have b17 : (0 : Int) ≤ ρ 17 ∧ ρ 17 ≤ 24 := hB 17 (0, 24) rfl
  have b18 : (0 : Int) ≤ ρ 18 ∧ ρ 18 ≤ 49 := hB 18 (0, 49) rfl
  have b19 : (0 : Int) ≤ ρ 19 ∧ ρ 19 ≤ 49 := hB 19 (0, 49) rfl
  clear hB
  generalize ρ 2 = r2, ρ 3 = r3, ρ 4 = r4, ρ 5 = r5, ρ 6 = r6, ρ 13 = r13, ρ 14 = r14, ρ 15 = r15, ρ 16 = r16, ρ 17 = r17, ρ 18 = r18, ρ 19 = r19, α 7 = a7, α 8 = a8, α 10 = a10, α 11 = a11, α 12 = a12, α 13 = a13, α 15 = a15, α 16 = a16, α 19 = a19, α 20 = a20, α 21 = a21, α 23 = a23, α 24 = a24, α 25 = a25, α 41 = a41, α 42 = a42, α 43 = a43, α 44 = a44, α 45 = a45, α 46 = a46, α 58 = a58, α 59 = a59, α 60 = a60, α 61 = a61, α 62 = a62, α 63 = a63, α 64 = a64, α 65 = a65, α 66 = a66 at *
  have hw := f4
  obtain ⟨x1, x2, x3, x4⟩ := f3
  rw [show r17 = r16 by omega] at hw
  refine ⟨fun h => ?_, fun h m => ?_, fun h m => ⟨x3 h m, x4 h m, by first | rfl | trivial, hw⟩⟩
  · exfalso; omega
  · have := x2 h m; exfalso; omega)
def w_xo_writeC_1_1 : VC := (([(0, 23), (0, 49), (1, 8), (0, 10), (0, 8), (0, 6), (0, 6), (0, 8), (0, 9), (0, 49), (0, 49), ((-2147483648), 2147483647), ((-2147483648), 2147483647), (0, 5), (0, 7), (0, 3), (1, 24), (0, 23), (0, 49), (0, 49)]), [(2, [(some 17, 0), (some 16, 0)], []), (150, [(some 18, 0), (some 2, 0), (some 3, 0), (some 4, 0), (some 5, 0), (some 6, 0)], [58, 59, 7, 8, 10, 11, 12, 13, 15, 16, 19, 20, 21, 23, 24, 25]), (149, [(some 19, 0), (some 17, 0), (some 2, 0), (some 3, 0), (some 4, 0), (some 5, 0), (some 6, 0), (none, 0), (none, 0)], [7, 8, 10, 11, 12, 13, 15, 16, 19, 20, 21, 23, 24, 25, 58, 60, 61, 62]), (147, [(some 16, 0), (some 14, 0), (some 15, 0), (some 2, 0)], [45, 46]), (161, [(some 17, 0), (some 14, 0), (some 15, 0), (some 2, 0), (some 3, 0), (some 4, 0), (some 5, 0), (some 6, 0), (none, 0), (none, 0)], [7, 8, 10, 11, 12, 13, 15, 16, 19, 20, 21, 23, 24, 25, 46, 41, 42, 43, 44, 63, 64, 65, 66]), (3, [(some 16, 0), (some 17, 0)], []), (3, [(some 15, 0), (none, 0)], []), (3, [(none, 3), (some 15, 0)], []), (3, [(some 14, 0), (none, 0)], []), (2, [(some 14, 0), (some 2, 0)], [])], (87, [(some 18, 0)], [58, 59]))
set_option maxRecDepth 20000 in
theorem v_xo_writeC_1_1 {PT : PTy} (hp : HP11 PT) : vcOk PT w_xo_writeC_1_1 := vc_of (fun ρ α hB hF => by
  obtain ⟨f0, f1, f2, f3, f4, f5, f6, f7, f8, f9, -⟩ := hF
  have e87 : PT 87 = P_pr := hp.1.1.1.1.1.1.1.1.2.2.2.2.2.2.2.2.1
  have e147 : PT 147 = P_wrX := hp.2.1
  have e149 : PT 149 = P_yi := hp.2.2.2.1
  have e150 : PT 150 = P_ar2 := hp.2.2.2.2.1
  have e161 : PT 161 = P_wcX := hp.2.2.2.2.2.2.2.2.2.2.2.2.2.2.2.1
  simp only [hF2, hF3, hFp_87, hFp_147, hFp_149, hFp_150, hFp_161, e87, e147, e149, e150, e161, P_pr, P_wrX, P_yi, P_ar2, P_wcX, den_s, den_c, Int.add_zero, List.map_cons, List.map_nil] at f0 f1 f2 f3 f4 f5 f6 f7 f8 f9 ⊢
  have b2 : (1 : Int) ≤ ρ 2 ∧ ρ 2 ≤ 8 := hB 2 (1, 8) rfl
  have b3 : (0 : Int) ≤ ρ 3 ∧ ρ 3 ≤ 10 := hB 3 (0, 10) rfl
  have b4 : (0 : Int) ≤ ρ 4 ∧ ρ 4 ≤ 8 := hB 4 (0, 8) rfl
  have b5 : (0 : Int) ≤ ρ 5 ∧ ρ 5 ≤ 6 := hB 5 (0, 6) rfl
  have b6 : (0 : Int) ≤ ρ 6 ∧ ρ 6 ≤ 6 := hB 6 (0, 6) rfl
  have b14 : (0 : Int) ≤ ρ 14 ∧ ρ 14 ≤ 7 := hB 14 (0, 7) rfl
  have b15 : (0 : Int) ≤ ρ 15 ∧ ρ 15 ≤ 3 := hB 15 (0, 3) rfl
  have b16 : (1 : Int) ≤ ρ 16 ∧ ρ 16 ≤ 24 := hB 16 (1, 24) rfl
  have b17 : (0 : Int) ≤ ρ 17 ∧ ρ 17 ≤ 23 := hB 17 (0, 23) rfl
  have b18 : (0 : Int) ≤ ρ 18 ∧ ρ 18 ≤ 49 := hB 18 (0, 49) rfl
  have b19 : (0 : Int) ≤ ρ 19 ∧ ρ 19 ≤ 49 := hB 19 (0, 49) rfl
  exact (f1).1)
def w_xo_writeC_1_2 : VC := (([(0, 23), (0, 49), (1, 8), (0, 10), (0, 8), (0, 6), (0, 6), (0, 8), (0, 9), (0, 49), (0, 49), ((-2147483648), 2147483647), ((-2147483648), 2147483647), (0, 5), (0, 7), (0, 0), (1, 24), (0, 23), (0, 49), (0, 49), (0, 49), (0, 99), ((-1), 2), ((-1), 2)]), [(21, [(some 17, 0), (some 21, 0)], [70, 63]), (1, [(some 23, 0), (none, 1)], []), (20, [(some 23, 0), (some 15, 0)], [46]), (1, [(some 22, 0), (none, 0)], []), (20, [(some 22, 0), (some 15, 0)], [46]), (0, [(some 15, 0), (none, 0)], []), (20, [(some 21, 0), (some 14, 0)], [67]), (91, [(some 19, 0), (some 20, 0), (some 18, 0), (some 17, 0), (none, 0), (none, 0)], [58, 59, 7, 8, 10, 11, 16, 20, 21, 24, 25, 60, 61, 62, 67, 68, 69]), (2, [(some 17, 0), (some 16, 0)], []), (150, [(some 18, 0), (some 2, 0), (some 3, 0), (some 4, 0), (some 5, 0), (some 6, 0)], [58, 59, 7, 8, 10, 11, 12, 13, 15, 16, 19, 20, 21, 23, 24, 25]), (149, [(some 19, 0), (some 17, 0), (some 2, 0), (some 3, 0), (some 4, 0), (some 5, 0), (some 6, 0), (none, 0), (none, 0)], [7, 8, 10, 11, 12, 13, 15, 16, 19, 20, 21, 23, 24, 25, 58, 60, 61, 62]), (147, [(some 16, 0), (some 14, 0), (some 15, 0), (some 2, 0)], [45, 46]), (161, [(some 17, 0), (some 14, 0), (some 15, 0), (some 2, 0), (some 3, 0), (some 4, 0), (some 5, 0), (some 6, 0), (none, 0), (none, 0)], [7, 8, 10, 11, 12, 13, 15, 16, 19, 20, 21, 23, 24, 25, 46, 41, 42, 43, 44, 63, 64, 65, 66]), (3, [(some 16, 0), (some 17, 0)], []), (3, [(some 15, 0), (none, 0)], []), (3, [(none, 3), (some 15, 0)], []), (3, [(some 14, 0), (none, 0)], []), (2, [(some 14, 0), (some 2, 0)], [])], (149, [(some 20, 0), (some 17, 1), (some 2, 0), (some 3, 0), (some 4, 0), (some 5, 0), (some 6, 0), (none, 0), (none, 0)], [7, 8, 10, 11, 12, 13, 15, 16, 19, 20, 21, 23, 24, 25, 58, 67, 68, 69]))
set_option maxRecDepth 20000 in
theorem v_xo_writeC_1_2 {PT : PTy} (hp : HP11 PT) : vcOk PT w_xo_writeC_1_2 := vc_of (fun ρ α hB hF => by
  obtain ⟨f0, f1, f2, f3, f4, f5, f6, f7, f8, f9, f10, f11, f12, f13, f14, f15, f16, f17, -⟩ := hF
  have e91 : PT 91 = P_adE := hp.1.1.1.1.1.1.1.1.2.2.2.2.2.2.2.2.2.2.2.2.1
  have e147 : PT 147 = P_wrX := hp.2.1
  have e149 : PT 149 = P_yi := hp.2.2.2.1
  have e150 : PT 150 = P_ar2 := hp.2.2.2.2.1
  have e161 : PT 161 = P_wcX := hp.2.2.2.2.2.2.2.2.2.2.2.2.2.2.2.1
  simp only [hF0, hF1, hF2, hF3, hF20, hF21, hFp_91, hFp_147, hFp_149, hFp_150, hFp_161, e91, e147, e149, e150, e161, P_adE, P_wrX, P_yi, P_ar2, P_wcX, den_s, den_c, Int.add_zero, List.map_cons, List.map_nil] at f0 f1 f2 f3 f4 f5 f6 f7 f8 f9 f10 f11 f12 f13 f14 f15 f16 f17 ⊢
  have b2 : (1 : Int) ≤ ρ 2 ∧ ρ 2 ≤ 8 := hB 2 (1, 8) rfl
  have b3 : (0 : Int) ≤ ρ 3 ∧ ρ 3 ≤ 10 := hB 3 (0, 10) rfl
  have b4 : (0 : Int) ≤ ρ 4 ∧ ρ 4 ≤ 8 := hB 4 (0, 8) rfl
  have b5 : (0 : Int) ≤ ρ 5 ∧ ρ 5 ≤ 6 := hB 5 (0, 6) rfl
  have b6 : (0 : Int) ≤ ρ 6 ∧ ρ 6 ≤ 6 := hB 6 (0, 6) rfl
  have b14 : (0 : Int) ≤ ρ 14 ∧ ρ 14 ≤ 7 := hB 14 (0, 7) rfl
  have b15 : (0 : Int) ≤ ρ 15 ∧ ρ 15 ≤ 0 := hB 15 (0, 0) rfl
  have b16 : (1 : Int) ≤ ρ 16 ∧ ρ 16 ≤ 24 := hB 16 (1, 24) rfl
  have b17 : (0 : Int) ≤ ρ 17 ∧ ρ 17 ≤ 23 := hB 17 (0, 23) rfl
  have b18 : (0 : Int) ≤ ρ 18 ∧ ρ 18 ≤ 49 := hB 18 (0, 49) rfl
  have b19 : (0 : Int) ≤ ρ 19 ∧ ρ 19 ≤ 49 := hB 19 (0, 49) rfl
  have b20 : (0 : Int) ≤ ρ 20 ∧ ρ 20 ≤ 49 := hB 20 (0, 49) rfl
  have b21 : (0 : Int) ≤ ρ 21 ∧ ρ 21 ≤ 99 := hB 21 (0, 99) rfl
  have b22 : ((-1) : Int) ≤ ρ 22 ∧ ρ 22 ≤ 2 := hB 22 ((-1), 2) rfl
  have b23 : ((-1) : Int) ≤ ρ 23 ∧ ρ 23 ≤ 2 := hB 23 ((-1), 2) rfl
  exact yI_s (f9).2 f10 (by omega) (f7).1)
def w_xo_writeC_1_3 : VC := (([(0, 23), (0, 49), (1, 8), (0, 10), (0, 8), (0, 6), (0, 6), (0, 8), (0, 9), (0, 49), (0, 49), ((-2147483648), 2147483647), ((-2147483648), 2147483647), (0, 5), (0, 7), (0, 0), (1, 24), (0, 23), (0, 49), (0, 49), (0, 49), (0, 99), ((-1), 2), ((-1), 2)]), [(21, [(some 17, 0), (some 21, 0)], [70, 63]), (1, [(some 23, 0), (none, 1)], []), (20, [(some 23, 0), (some 15, 0)], [46]), (1, [(some 22, 0), (none, 0)], []), (20, [(some 22, 0), (some 15, 0)], [46]), (0, [(some 15, 0), (none, 0)], []), (20, [(some 21, 0), (some 14, 0)], [67]), (91, [(some 19, 0), (some 20, 0), (some 18, 0), (some 17, 0), (none, 0), (none, 0)], [58, 59, 7, 8, 10, 11, 16, 20, 21, 24, 25, 60, 61, 62, 67, 68, 69]), (2, [(some 17, 0), (some 16, 0)], []), (150, [(some 18, 0), (some 2, 0), (some 3, 0), (some 4, 0), (some 5, 0), (some 6, 0)], [58, 59, 7, 8, 10, 11, 12, 13, 15, 16, 19, 20, 21, 23, 24, 25]), (149, [(some 19, 0), (some 17, 0), (some 2, 0), (some 3, 0), (some 4, 0), (some 5, 0), (some 6, 0), (none, 0), (none, 0)], [7, 8, 10, 11, 12, 13, 15, 16, 19, 20, 21, 23, 24, 25, 58, 60, 61, 62]), (147, [(some 16, 0), (some 14, 0), (some 15, 0), (some 2, 0)], [45, 46]), (161, [(some 17, 0), (some 14, 0), (some 15, 0), (some 2, 0), (some 3, 0), (some 4, 0), (some 5, 0), (some 6, 0), (none, 0), (none, 0)], [7, 8, 10, 11, 12, 13, 15, 16, 19, 20, 21, 23, 24, 25, 46, 41, 42, 43, 44, 63, 64, 65, 66]), (3, [(some 16, 0), (some 17, 0)], []), (3, [(some 15, 0), (none, 0)], []), (3, [(none, 3), (some 15, 0)], []), (3, [(some 14, 0), (none, 0)], []), (2, [(some 14, 0), (some 2, 0)], [])], (161, [(some 17, 1), (some 14, 0), (some 15, 0), (some 2, 0), (some 3, 0), (some 4, 0), (some 5, 0), (some 6, 0), (none, 0), (none, 0)], [7, 8, 10, 11, 12, 13, 15, 16, 19, 20, 21, 23, 24, 25, 46, 41, 42, 43, 44, 70, 64, 65, 66]))
set_option maxRecDepth 20000 in
theorem v_xo_writeC_1_3 {PT : PTy} (hp : HP11 PT) : vcOk PT w_xo_writeC_1_3 := vc_of (fun ρ α hB hF => by
  obtain ⟨f0, f1, f2, f3, f4, f5, f6, f7, f8, f9, f10, f11, f12, f13, f14, f15, f16, f17, -⟩ := hF
  have e91 : PT 91 = P_adE := hp.1.1.1.1.1.1.1.1.2.2.2.2.2.2.2.2.2.2.2.2.1
  have e147 : PT 147 = P_wrX := hp.2.1
  have e149 : PT 149 = P_yi := hp.2.2.2.1
  have e150 : PT 150 = P_ar2 := hp.2.2.2.2.1
  have e161 : PT 161 = P_wcX := hp.2.2.2.2.2.2.2.2.2.2.2.2.2.2.2.1
  simp only [hF0, hF1, hF2, hF3, hF20, hF21, hFp_91, hFp_147, hFp_149, hFp_150, hFp_161, e91, e147, e149, e150, e161, P_adE, P_wrX, P_yi, P_ar2, P_wcX, den_s, den_c, Int.add_zero, List.map_cons, List.map_nil] at f0 f1 f2 f3 f4 f5 f6 f7 f8 f9 f10 f11 f12 f13 f14 f15 f16 f17 ⊢
  have b2 : (1 : Int) ≤ ρ 2 ∧ ρ 2 ≤ 8 := hB 2 (1, 8) rfl
  have b3 : (0 : Int) ≤ ρ 3 ∧ ρ 3 ≤ 10 := hB 3 (0, 10) rfl
  have b4 : (0 : Int) ≤ ρ 4 ∧ ρ 4 ≤ 8 := hB 4 (0, 8) rfl
  have b5 : (0 : Int) ≤ ρ 5 ∧ ρ 5 ≤ 6 := hB 5 (0, 6) rfl
  have b6 : (0 : Int) ≤ ρ 6 ∧ ρ 6 ≤ 6 := hB 6 (0, 6) rfl
  have b14 : (0 : Int) ≤ ρ 14 ∧ ρ 14 ≤ 7 := hB 14 (0, 7) rfl
  have b15 : (0 : Int) ≤ ρ 15 ∧ ρ 15 ≤ 0 := hB 15 (0, 0) rfl
  have b16 : (1 : Int) ≤ ρ 16 ∧ ρ 16 ≤ 24 := hB 16 (1, 24) rfl
  have b17 : (0 : Int) ≤ ρ 17 ∧ ρ 17 ≤ 23 := hB 17 (0, 23) rfl
  have b18 : (0 : Int) ≤ ρ 18 ∧ ρ 18 ≤ 49 := hB 18 (0, 49) rfl
  have b19 : (0 : Int) ≤ ρ 19 ∧ ρ 19 ≤ 49 := hB 19 (0, 49) rfl
  have b20 : (0 : Int) ≤ ρ 20 ∧ ρ 20 ≤ 49 := hB 20 (0, 49) rfl
  have b21 : (0 : Int) ≤ ρ 21 ∧ ρ 21 ≤ 99 := hB 21 (0, 99) rfl
  have b22 : ((-1) : Int) ≤ ρ 22 ∧ ρ 22 ≤ 2 := hB 22 ((-1), 2) rfl
  have b23 : ((-1) : Int) ≤ ρ 23 ∧ ρ 23 ≤ 2 := hB 23 ((-1), 2) rfl
  clear hB
  generalize ρ 2 = r2, ρ 3 = r3, ρ 4 = r4, ρ 5 = r5, ρ 6 = r6, ρ 14 = r14, ρ 15 = r15, ρ 16 = r16, ρ 17 = r17, ρ 18 = r18, ρ 19 = r19, ρ 20 = r20, ρ 21 = r21, ρ 22 = r22, ρ 23 = r23, α 7 = a7, α 8 = a8, α 10 = a10, α 11 = a11, α 12 = a12, α 13 = a13, α 15 = a15, α 16 = a16, α 19 = a19, α 20 = a20, α 21 = a21, α 23 = a23, α 24 = a24, α 25 = a25, α 41 = a41, α 42 = a42, α 43 = a43, α 44 = a44, α 45 = a45, α 46 = a46, α 58 = a58, α 59 = a59, α 60 = a60, α 61 = a61, α 62 = a62, α 63 = a63, α 64 = a64, α 65 = a65, α 66 = a66, α 67 = a67, α 68 = a68, α 69 = a69, α 70 = a70 at *
  subst f0
  subst f2
  subst f4
  subst f6
  have hy := yI_e (f9).2 (yI_s (f9).2 f10 (by omega) (f7).1) (f7).2
  have hw := f12
  rcases (show r15 = 0 ∨ r15 = 1 ∨ r15 = 2 ∨ r15 = 3 by omega) with z | z | z | z <;> subst z <;> first
    | (exfalso; omega)
    | (refine wcS_s hw (by omega) (by simp only [rowX_0, rowX_1, rowX_2, rowX_3]; rfl) ⟨_, _, _, hy, ?_⟩ (fun t h1 h2 h3 => ?_)
       · unfold cutF
         (repeat' split) <;> first | rfl | (exfalso; omega)
       · rcases (show t = 0 ∨ t = 1 ∨ t = 2 ∨ t = 3 by omega) with y | y | y | y <;> subst y <;> first | (exact absurd rfl h3) | (simp only [rowX_0, rowX_1, rowX_2, rowX_3])))
def w_xo_writeC_1_4 : VC := (([(0, 23), (0, 49), (1, 8), (0, 10), (0, 8), (0, 6), (0, 6), (0, 8), (0, 9), (0, 49), (0, 49), ((-2147483648), 2147483647), ((-2147483648), 2147483647), (0, 5), (0, 7), (0, 0), (1, 24), (0, 23), (0, 49), (0, 49), (0, 49), (0, 99), ((-1), 2), ((-1), 2)]), [(21, [(some 17, 0), (some 21, 0)], [70, 63]), (1, [(some 23, 0), (none, 1)], []), (20, [(some 23, 0), (some 15, 0)], [46]), (1, [(some 22, 0), (none, 0)], []), (20, [(some 22, 0), (some 15, 0)], [46]), (0, [(some 15, 0), (none, 0)], []), (20, [(some 21, 0), (some 14, 0)], [67]), (91, [(some 19, 0), (some 20, 0), (some 18, 0), (some 17, 0), (none, 0), (none, 0)], [58, 59, 7, 8, 10, 11, 16, 20, 21, 24, 25, 60, 61, 62, 67, 68, 69]), (2, [(some 17, 0), (some 16, 0)], []), (150, [(some 18, 0), (some 2, 0), (some 3, 0), (some 4, 0), (some 5, 0), (some 6, 0)], [58, 59, 7, 8, 10, 11, 12, 13, 15, 16, 19, 20, 21, 23, 24, 25]), (149, [(some 19, 0), (some 17, 0), (some 2, 0), (some 3, 0), (some 4, 0), (some 5, 0), (some 6, 0), (none, 0), (none, 0)], [7, 8, 10, 11, 12, 13, 15, 16, 19, 20, 21, 23, 24, 25, 58, 60, 61, 62]), (147, [(some 16, 0), (some 14, 0), (some 15, 0), (some 2, 0)], [45, 46]), (161, [(some 17, 0), (some 14, 0), (some 15, 0), (some 2, 0), (some 3, 0), (some 4, 0), (some 5, 0), (some 6, 0), (none, 0), (none, 0)], [7, 8, 10, 11, 12, 13, 15, 16, 19, 20, 21, 23, 24, 25, 46, 41, 42, 43, 44, 63, 64, 65, 66]), (3, [(some 16, 0), (some 17, 0)], []), (3, [(some 15, 0), (none, 0)], []), (3, [(none, 3), (some 15, 0)], []), (3, [(some 14, 0), (none, 0)], []), (2, [(some 14, 0), (some 2, 0)], [])], (3, [(some 16, 0), (some 17, 1)], []))
set_option maxRecDepth 20000 in
theorem v_xo_writeC_1_4 {PT : PTy} (hp : HP11 PT) : vcOk PT w_xo_writeC_1_4 := vc_of (fun ρ α hB hF => by
  obtain ⟨f0, f1, f2, f3, f4, f5, f6, f7, f8, f9, f10, f11, f12, f13, f14, f15, f16, f17, -⟩ := hF
  have e91 : PT 91 = P_adE := hp.1.1.1.1.1.1.1.1.2.2.2.2.2.2.2.2.2.2.2.2.1
  have e147 : PT 147 = P_wrX := hp.2.1
  have e149 : PT 149 = P_yi := hp.2.2.2.1
  have e150 : PT 150 = P_ar2 := hp.2.2.2.2.1
  have e161 : PT 161 = P_wcX := hp.2.2.2.2.2.2.2.2.2.2.2.2.2.2.2.1
  simp only [hF0, hF1, hF2, hF3, hF20, hF21, hFp_91, hFp_147, hFp_149, hFp_150, hFp_161, e91, e147, e149, e150, e161, P_adE, P_wrX, P_yi, P_ar2, P_wcX, den_s, den_c, Int.add_zero, List.map_cons, List.map_nil] at f0 f1 f2 f3 f4 f5 f6 f7 f8 f9 f10 f11 f12 f13 f14 f15 f16 f17 ⊢
  have b2 : (1 : Int) ≤ ρ 2 ∧ ρ 2 ≤ 8 := hB 2 (1, 8) rfl
  have b3 : (0 : Int) ≤ ρ 3 ∧ ρ 3 ≤ 10 := hB 3 (0, 10) rfl
  have b4 : (0 : Int) ≤ ρ 4 ∧ ρ 4 ≤ 8 := hB 4 (0, 8) rfl
  have b5 : (0 : Int) ≤ ρ 5 ∧ ρ 5 ≤ 6 := hB 5 (0, 6) rfl
  have b6 : (0 : Int) ≤ ρ 6 ∧ ρ 6 ≤ 6 := hB 6 (0, 6) rfl
  have b14 : (0 : Int) ≤ ρ 14 ∧ ρ 14 ≤ 7 := hB 14 (0, 7) rfl
  have b15 : (0 : Int) ≤ ρ 15 ∧ ρ 15 ≤ 0 := hB 15 (0, 0) rfl
  have b16 : (1 : Int) ≤ ρ 16 ∧ ρ 16 ≤ 24 := hB 16 (1, 24) rfl
  have b17 : (0 : Int) ≤ ρ 17 ∧ ρ 17 ≤ 23 := hB 17 (0, 23) rfl
  have b18 : (0 : Int) ≤ ρ 18 ∧ ρ 18 ≤ 49 := hB 18 (0, 49) rfl
  have b19 : (0 : Int) ≤ ρ 19 ∧ ρ 19 ≤ 49 := hB 19 (0, 49) rfl
  have b20 : (0 : Int) ≤ ρ 20 ∧ ρ 20 ≤ 49 := hB 20 (0, 49) rfl
  have b21 : (0 : Int) ≤ ρ 21 ∧ ρ 21 ≤ 99 := hB 21 (0, 99) rfl
  have b22 : ((-1) : Int) ≤ ρ 22 ∧ ρ 22 ≤ 2 := hB 22 ((-1), 2) rfl
  have b23 : ((-1) : Int) ≤ ρ 23 ∧ ρ 23 ≤ 2 := hB 23 ((-1), 2) rfl
  clear hB
  generalize ρ 2 = r2, ρ 3 = r3, ρ 4 = r4, ρ 5 = r5, ρ 6 = r6, ρ 14 = r14, ρ 15 = r15, ρ 16 = r16, ρ 17 = r17, ρ 18 = r18, ρ 19 = r19, ρ 20 = r20, ρ 21 = r21, ρ 22 = r22, ρ 23 = r23, α 7 = a7, α 8 = a8, α 10 = a10, α 11 = a11, α 12 = a12, α 13 = a13, α 15 = a15, α 16 = a16, α 19 = a19, α 20 = a20, α 21 = a21, α 23 = a23, α 24 = a24, α 25 = a25, α 41 = a41, α 42 = a42, α 43 = a43, α 44 = a44, α 45 = a45, α 46 = a46, α 58 = a58, α 59 = a59, α 60 = a60, α 61 = a61, α 62 = a62, α 63 = a63, α 64 = a64, α 65 = a65, α 66 = a66, α 67 = a67, α 68 = a68, α 69 = a69, α 70 = a70 at *
  subst f0
  subst f2
  subst f4
  subst f6
  ((repeat' (first | apply And.intro | intro h)) <;> first | omega | rfl | trivial | (exfalso; omega)))
def w_xo_writeC_1_5 : VC := (([(0, 23), (0, 49), (1, 8), (0, 10), (0, 8), (0, 6), (0, 6), (0, 8), (0, 9), (0, 49), (0, 49), ((-2147483648), 2147483647), ((-2147483648), 2147483647), (0, 5), (0, 7), (0, 0), (1, 24), (0, 23), (0, 49), (0, 49), (0, 49), (0, 99), ((-1), 2), (1, 1), ((-2147483648), 2147483647)]), [(21, [(some 17, 0), (some 24, 0)], [70, 63]), (19, [(some 24, 0), (some 21, 0)], []), (0, [(some 23, 0), (none, 1)], []), (20, [(some 23, 0), (some 15, 0)], [46]), (1, [(some 22, 0), (none, 0)], []), (20, [(some 22, 0), (some 15, 0)], [46]), (0, [(some 15, 0), (none, 0)], []), (20, [(some 21, 0), (some 14, 0)], [67]), (91, [(some 19, 0), (some 20, 0), (some 18, 0), (some 17, 0), (none, 0), (none, 0)], [58, 59, 7, 8, 10, 11, 16, 20, 21, 24, 25, 60, 61, 62, 67, 68, 69]), (2, [(some 17, 0), (some 16, 0)], []), (150, [(some 18, 0), (some 2, 0), (some 3, 0), (some 4, 0), (some 5, 0), (some 6, 0)], [58, 59, 7, 8, 10, 11, 12, 13, 15, 16, 19, 20, 21, 23, 24, 25]), (149, [(some 19, 0), (some 17, 0), (some 2, 0), (some 3, 0), (some 4, 0), (some 5, 0), (some 6, 0), (none, 0), (none, 0)], [7, 8, 10, 11, 12, 13, 15, 16, 19, 20, 21, 23, 24, 25, 58, 60, 61, 62]), (147, [(some 16, 0), (some 14, 0), (some 15, 0), (some 2, 0)], [45, 46]), (161, [(some 17, 0), (some 14, 0), (some 15, 0), (some 2, 0), (some 3, 0), (some 4, 0), (some 5, 0), (some 6, 0), (none, 0), (none, 0)], [7, 8, 10, 11, 12, 13, 15, 16, 19, 20, 21, 23, 24, 25, 46, 41, 42, 43, 44, 63, 64, 65, 66]), (3, [(some 16, 0), (some 17, 0)], []), (3, [(some 15, 0), (none, 0)], []), (3, [(none, 3), (some 15, 0)], []), (3, [(some 14, 0), (none, 0)], []), (2, [(some 14, 0), (some 2, 0)], [])], (149, [(some 20, 0), (some 17, 1), (some 2, 0), (some 3, 0), (some 4, 0), (some 5, 0), (some 6, 0), (none, 0), (none, 0)], [7, 8, 10, 11, 12, 13, 15, 16, 19, 20, 21, 23, 24, 25, 58, 67, 68, 69]))
set_option maxRecDepth 20000 in
theorem v_xo_writeC_1_5 {PT : PTy} (hp : HP11 PT) : vcOk PT w_xo_writeC_1_5 := vc_of (fun ρ α hB hF => by
  obtain ⟨f0, f1, f2, f3, f4, f5, f6, f7, f8, f9, f10, f11, f12, f13, f14, f15, f16, f17, f18, -⟩ := hF
  have e91 : PT 91 = P_adE := hp.1.1.1.1.1.1.1.1.2.2.2.2.2.2.2.2.2.2.2.2.1
  have e147 : PT 147 = P_wrX := hp.2.1
  have e149 : PT 149 = P_yi := hp.2.2.2.1
  have e150 : PT 150 = P_ar2 := hp.2.2.2.2.1
  have e161 : PT 161 = P_wcX := hp.2.2.2.2.2.2.2.2.2.2.2.2.2.2.2.1
  simp only [hF0, hF1, hF2, hF3, hF19, hF20, hF21, hFp_91, hFp_147, hFp_149, hFp_150, hFp_161, e91, e147, e149, e150, e161, P_adE, P_wrX, P_yi, P_ar2, P_wcX, den_s, den_c, Int.add_zero, List.map_cons, List.map_nil] at f0 f1 f2 f3 f4 f5 f6 f7 f8 f9 f10 f11 f12 f13 f14 f15 f16 f17 f18 ⊢
  have b2 : (1 : Int) ≤ ρ 2 ∧ ρ 2 ≤ 8 := hB 2 (1, 8) rfl
  have b3 : (0 : Int) ≤ ρ 3 ∧ ρ 3 ≤ 10 := hB 3 (0, 10) rfl
  have b4 : (0 : Int) ≤ ρ 4 ∧ ρ 4 ≤ 8 := hB 4 (0, 8) rfl
  have b5 : (0 : Int) ≤ ρ 5 ∧ ρ 5 ≤ 6 := hB 5 (0, 6) rfl
  have b6 : (0 : Int) ≤ ρ 6 ∧ ρ 6 ≤ 6 := hB 6 (0, 6) rfl
  have b14 : (0 : Int) ≤ ρ 14 ∧ ρ 14 ≤ 7 := hB 14 (0, 7) rfl
  have b15 : (0 : Int) ≤ ρ 15 ∧ ρ 15 ≤ 0 := hB 15 (0, 0) rfl
  have b16 : (1 : Int) ≤ ρ 16 ∧ ρ 16 ≤ 24 := hB 16 (1, 24) rfl
  have b17 : (0 : Int) ≤ ρ 17 ∧ ρ 17 ≤ 23 := hB 17 (0, 23) rfl
  have b18 : (0 : Int) ≤ ρ 18 ∧ ρ 18 ≤ 49 := hB 18 (0, 49) rfl
  have b19 : (0 : Int) ≤ ρ 19 ∧ ρ 19 ≤ 49 := hB 19 (0, 49) rfl
  have b20 : (0 : Int) ≤ ρ 20 ∧ ρ 20 ≤ 49 := hB 20 (0, 49) rfl
  have b21 : (0 : Int) ≤ ρ 21 ∧ ρ 21 ≤ 99 := hB 21 (0, 99) rfl
  have b22 : ((-1) : Int) ≤ ρ 22 ∧ ρ 22 ≤ 2 := hB 22 ((-1), 2) rfl
  have b23 : (1 : Int) ≤ ρ 23 ∧ ρ 23 ≤ 1 := hB 23 (1, 1) rfl
  have b24 : ((-2147483648) : Int) ≤ ρ 24 ∧ ρ 24 ≤ 2147483647 := hB 24 ((-2147483648), 2147483647) rfl
  exact yI_s (f10).2 f11 (by omega) (f8).1)
def w_xo_writeC_1_6 : VC := (([(0, 23), (0, 49), (1, 8), (0, 10), (0, 8), (0, 6), (0, 6), (0, 8), (0, 9), (0, 49), (0, 49), ((-2147483648), 2147483647), ((-2147483648), 2147483647), (0, 5), (0, 7), (0, 0), (1, 24), (0, 23), (0, 49), (0, 49), (0, 49), (0, 99), ((-1), 2), (1, 1), ((-2147483648), 2147483647)]), [(21, [(some 17, 0), (some 24, 0)], [70, 63]), (19, [(some 24, 0), (some 21, 0)], []), (0, [(some 23, 0), (none, 1)], []), (20, [(some 23, 0), (some 15, 0)], [46]), (1, [(some 22, 0), (none, 0)], []), (20, [(some 22, 0), (some 15, 0)], [46]), (0, [(some 15, 0), (none, 0)], []), (20, [(some 21, 0), (some 14, 0)], [67]), (91, [(some 19, 0), (some 20, 0), (some 18, 0), (some 17, 0), (none, 0), (none, 0)], [58, 59, 7, 8, 10, 11, 16, 20, 21, 24, 25, 60, 61, 62, 67, 68, 69]), (2, [(some 17, 0), (some 16, 0)], []), (150, [(some 18, 0), (some 2, 0), (some 3, 0), (some 4, 0), (some 5, 0), (some 6, 0)], [58, 59, 7, 8, 10, 11, 12, 13, 15, 16, 19, 20, 21, 23, 24, 25]), (149, [(some 19, 0), (some 17, 0), (some 2, 0), (some 3, 0), (some 4, 0), (some 5, 0), (some 6, 0), (none, 0), (none, 0)], [7, 8, 10, 11, 12, 13, 15, 16, 19, 20, 21, 23, 24, 25, 58, 60, 61, 62]), (147, [(some 16, 0), (some 14, 0), (some 15, 0), (some 2, 0)], [45, 46]), (161, [(some 17, 0), (some 14, 0), (some 15, 0), (some 2, 0), (some 3, 0), (some 4, 0), (some 5, 0), (some 6, 0), (none, 0), (none, 0)], [7, 8, 10, 11, 12, 13, 15, 16, 19, 20, 21, 23, 24, 25, 46, 41, 42, 43, 44, 63, 64, 65, 66]), (3, [(some 16, 0), (some 17, 0)], []), (3, [(some 15, 0), (none, 0)], []), (3, [(none, 3), (some 15, 0)], []), (3, [(some 14, 0), (none, 0)], []), (2, [(some 14, 0), (some 2, 0)], [])], (161, [(some 17, 1), (some 14, 0), (some 15, 0), (some 2, 0), (some 3, 0), (some 4, 0), (some 5, 0), (some 6, 0), (none, 0), (none, 0)], [7, 8, 10, 11, 12, 13, 15, 16, 19, 20, 21, 23, 24, 25, 46, 41, 42, 43, 44, 70, 64, 65, 66]))
set_option maxRecDepth 20000 in
theorem v_xo_writeC_1_6 {PT : PTy} (hp : HP11 PT) : vcOk PT w_xo_writeC_1_6 := vc_of (fun ρ α hB hF => by
  obtain ⟨f0, f1, f2, f3, f4, f5, f6, f7, f8, f9, f10, f11, f12, f13, f14, f15, f16, f17, f18, -⟩ := hF
  have e91 : PT 91 = P_adE := hp.1.1.1.1.1.1.1.1.2.2.2.2.2.2.2.2.2.2.2.2.1
  have e147 : PT 147 = P_wrX := hp.2.1
  have e149 : PT 149 = P_yi := hp.2.2.2.1
  have e150 : PT 150 = P_ar2 := hp.2.2.2.2.1
  have e161 : PT 161 = P_wcX := hp.2.2.2.2.2.2.2.2.2.2.2.2.2.2.2.1
  simp only [hF0, hF1, hF2, hF3, hF19, hF20, hF21, hFp_91, hFp_147, hFp_149, hFp_150, hFp_161, e91, e147, e149, e150, e161, P_adE, P_wrX, P_yi, P_ar2, P_wcX, den_s, den_c, Int.add_zero, List.map_cons, List.map_nil] at f0 f1 f2 f3 f4 f5 f6 f7 f8 f9 f10 f11 f12 f13 f14 f15 f16 f17 f18 ⊢
  have b2 : (1 : Int) ≤ ρ 2 ∧ ρ 2 ≤ 8 := hB 2 (1, 8) rfl
  have b3 : (0 : Int) ≤ ρ 3 ∧ ρ 3 ≤ 10 := hB 3 (0, 10) rfl
  have b4 : (0 : Int) ≤ ρ 4 ∧ ρ 4 ≤ 8 := hB 4 (0, 8) rfl
  have b5 : (0 : Int) ≤ ρ 5 ∧ ρ 5 ≤ 6 := hB 5 (0, 6) rfl
  have b6 : (0 : Int) ≤ ρ 6 ∧ ρ 6 ≤ 6 := hB 6 (0, 6) rfl
  have b14 : (0 : Int) ≤ ρ 14 ∧ ρ 14 ≤ 7 := hB 14 (0, 7) rfl
  have b15 : (0 : Int) ≤ ρ 15 ∧ ρ 15 ≤ 0 := hB 15 (0, 0) rfl
  have b16 : (1 : Int) ≤ ρ 16 ∧ ρ 16 ≤ 24 := hB 16 (1, 24) rfl
  have b17 : (0 : Int) ≤ ρ 17 ∧ ρ 17 ≤ 23 := hB 17 (0, 23) rfl
  have b18 : (0 : Int) ≤ ρ 18 ∧ ρ 18 ≤ 49 := hB 18 (0, 49) rfl
  have b19 : (0 : Int) ≤ ρ 19 ∧ ρ 19 ≤ 49 := hB 19 (0, 49) rfl
  have b20 : (0 : Int) ≤ ρ 20 ∧ ρ 20 ≤ 49 := hB 20 (0, 49) rfl
  have b21 : (0 : Int) ≤ ρ 21 ∧ ρ 21 ≤ 99 := hB 21 (0, 99) rfl
  have b22 : ((-1) : Int) ≤ ρ 22 ∧ ρ 22 ≤ 2 := hB 22 ((-1), 2) rfl
  have b23 : (1 : Int) ≤ ρ 23 ∧ ρ 23 ≤ 1 := hB 23 (1, 1) rfl
  have b24 : ((-2147483648) : Int) ≤ ρ 24 ∧ ρ 24 ≤ 2147483647 := hB 24 ((-2147483648), 2147483647) rfl
  clear hB
  generalize ρ 2 = r2, ρ 3 = r3, ρ 4 = r4, ρ 5 = r5, ρ 6 = r6, ρ 14 = r14, ρ 15 = r15, ρ 16 = r16, ρ 17 = r17, ρ 18 = r18, ρ 19 = r19, ρ 20 = r20, ρ 21 = r21, ρ 22 = r22, ρ 23 = r23, ρ 24 = r24, α 7 = a7, α 8 = a8, α 10 = a10, α 11 = a11, α 12 = a12, α 13 = a13, α 15 = a15, α 16 = a16, α 19 = a19, α 20 = a20, α 21 = a21, α 23 = a23, α 24 = a24, α 25 = a25, α 41 = a41, α 42 = a42, α 43 = a43, α 44 = a44, α 45 = a45, α 46 = a46, α 58 = a58, α 59 = a59, α 60 = a60, α 61 = a61, α 62 = a62, α 63 = a63, α 64 = a64, α 65 = a65, α 66 = a66, α 67 = a67, α 68 = a68, α 69 = a69, α 70 = a70 at *
  subst f0
  subst f1
  subst f3
  subst f5
  subst f7
  have hy := yI_e (f10).2 (yI_s (f10).2 f11 (by omega) (f8).1) (f8).2
  have hw := f13
  rcases (show r15 = 0 ∨ r15 = 1 ∨ r15 = 2 ∨ r15 = 3 by omega) with z | z | z | z <;> subst z <;> first
    | (exfalso; omega)
    | (refine wcS_s hw (by omega) (by simp only [rowX_0, rowX_1, rowX_2, rowX_3]; rfl) ⟨_, _, _, hy, ?_⟩ (fun t h1 h2 h3 => ?_)
       · unfold cutF
         (repeat' split) <;> first | rfl | (exfalso; omega)
       · rcases (show t = 0 ∨ t = 1 ∨ t = 2 ∨ t = 3 by omega) with y | y | y | y <;> subst y <;> first | (exact absurd rfl h3) | (simp only [rowX_0, rowX_1, rowX_2, rowX_3])))
def w_xo_writeC_1_7 : VC := (([(0, 23), (0, 49), (1, 8), (0, 10), (0, 8), (0, 6), (0, 6), (0, 8), (0, 9), (0, 49), (0, 49), ((-2147483648), 2147483647), ((-2147483648), 2147483647), (0, 5), (0, 7), (0, 0), (1, 24), (0, 23), (0, 49), (0, 49), (0, 49), (0, 99), ((-1), 2), (1, 1), ((-2147483648), 2147483647)]), [(21, [(some 17, 0), (some 24, 0)], [70, 63]), (19, [(some 24, 0), (some 21, 0)], []), (0, [(some 23, 0), (none, 1)], []), (20, [(some 23, 0), (some 15, 0)], [46]), (1, [(some 22, 0), (none, 0)], []), (20, [(some 22, 0), (some 15, 0)], [46]), (0, [(some 15, 0), (none, 0)], []), (20, [(some 21, 0), (some 14, 0)], [67]), (91, [(some 19, 0), (some 20, 0), (some 18, 0), (some 17, 0), (none, 0), (none, 0)], [58, 59, 7, 8, 10, 11, 16, 20, 21, 24, 25, 60, 61, 62, 67, 68, 69]), (2, [(some 17, 0), (some 16, 0)], []), (150, [(some 18, 0), (some 2, 0), (some 3, 0), (some 4, 0), (some 5, 0), (some 6, 0)], [58, 59, 7, 8, 10, 11, 12, 13, 15, 16, 19, 20, 21, 23, 24, 25]), (149, [(some 19, 0), (some 17, 0), (some 2, 0), (some 3, 0), (some 4, 0), (some 5, 0), (some 6, 0), (none, 0), (none, 0)], [7, 8, 10, 11, 12, 13, 15, 16, 19, 20, 21, 23, 24, 25, 58, 60, 61, 62]), (147, [(some 16, 0), (some 14, 0), (some 15, 0), (some 2, 0)], [45, 46]), (161, [(some 17, 0), (some 14, 0), (some 15, 0), (some 2, 0), (some 3, 0), (some 4, 0), (some 5, 0), (some 6, 0), (none, 0), (none, 0)], [7, 8, 10, 11, 12, 13, 15, 16, 19, 20, 21, 23, 24, 25, 46, 41, 42, 43, 44, 63, 64, 65, 66]), (3, [(some 16, 0), (some 17, 0)], []), (3, [(some 15, 0), (none, 0)], []), (3, [(none, 3), (some 15, 0)], []), (3, [(some 14, 0), (none, 0)], []), (2, [(some 14, 0), (some 2, 0)], [])], (3, [(some 16, 0), (some 17, 1)], []))
set_option maxRecDepth 20000 in
theorem v_xo_writeC_1_7 {PT : PTy} (hp : HP11 PT) : vcOk PT w_xo_writeC_1_7 := vc_of (fun ρ α hB hF => by
  obtain ⟨f0, f1, f2, f3, f4, f5, f6, f7, f8, f9, f10, f11, f12, f13, f14, f15, f16, f17, f18, -⟩ := hF
  have e91 : PT 91 = P_adE := hp.1.1.1.1.1.1.1.1.2.2.2.2.2.2.2.2.2.2.2.2.1
  have e147 : PT 147 = P_wrX := hp.2.1
  have e149 : PT 149 = P_yi := hp.2.2.2.1
  have e150 : PT 150 = P_ar2 := hp.2.2.2.2.1
  have e161 : PT 161 = P_wcX := hp.2.2.2.2.2.2.2.2.2.2.2.2.2.2.2.1
  simp only [hF0, hF1, hF2, hF3, hF19, hF20, hF21, hFp_91, hFp_147, hFp_149, hFp_150, hFp_161, e91, e147, e149, e150, e161, P_adE, P_wrX, P_yi, P_ar2, P_wcX, den_s, den_c, Int.add_zero, List.map_cons, List.map_nil] at f0 f1 f2 f3 f4 f5 f6 f7 f8 f9 f10 f11 f12 f13 f14 f15 f16 f17 f18 ⊢
  have b2 : (1 : Int) ≤ ρ 2 ∧ ρ 2 ≤ 8 := hB 2 (1, 8) rfl
  have b3 : (0 : Int) ≤ ρ 3 ∧ ρ 3 ≤ 10 := hB 3 (0, 10) rfl
  have b4 : (0 : Int) ≤ ρ 4 ∧ ρ 4 ≤ 8 := hB 4 (0, 8) rfl
  have b5 : (0 : Int) ≤ ρ 5 ∧ ρ 5 ≤ 6 := hB 5 (0, 6) rfl
  have b6 : (0 : Int) ≤ ρ 6 ∧ ρ 6 ≤ 6 := hB 6 (0, 6) rfl
  have b14 : (0 : Int) ≤ ρ 14 ∧ ρ 14 ≤ 7 := hB 14 (0, 7) rfl
  have b15 : (0 : Int) ≤ ρ 15 ∧ ρ 15 ≤ 0 := hB 15 (0, 0) rfl
  have b16 : (1 : Int) ≤ ρ 16 ∧ ρ 16 ≤ 24 := hB 16 (1, 24) rfl
  have b17 : (0 : Int) ≤ ρ 17 ∧ ρ 17 ≤ 23 := hB 17 (0, 23) rfl
  have b18 : (0 : Int) ≤ ρ 18 ∧ ρ 18 ≤ 49 := hB 18 (0, 49) rfl
  have b19 : (0 : Int) ≤ ρ 19 ∧ ρ 19 ≤ 49 := hB 19 (0, 49) rfl
  have b20 : (0 : Int) ≤ ρ 20 ∧ ρ 20 ≤ 49 := hB 20 (0, 49) rfl
  have b21 : (0 : Int) ≤ ρ 21 ∧ ρ 21 ≤ 99 := hB 21 (0, 99) rfl
  have b22 : ((-1) : Int) ≤ ρ 22 ∧ ρ 22 ≤ 2 := hB 22 ((-1), 2) rfl
  have b23 : (1 : Int) ≤ ρ 23 ∧ ρ 23 ≤ 1 := hB 23 (1, 1) rfl
  have b24 : ((-2147483648) : Int) ≤ ρ 24 ∧ ρ 24 ≤ 2147483647 := hB 24 ((-2147483648), 2147483647) rfl
  clear hB
  generalize ρ 2 = r2, ρ 3 = r3, ρ 4 = r4, ρ 5 = r5, ρ 6 = r6, ρ 14 = r14, ρ 15 = r15, ρ 16 = r16, ρ 17 = r17, ρ 18 = r18, ρ 19 = r19, ρ 20 = r20, ρ 21 = r21, ρ 22 = r22, ρ 23 = r23, ρ 24 = r24, α 7 = a7, α 8 = a8, α 10 = a10, α 11 = a11, α 12 = a12, α 13 = a13, α 15 = a15, α 16 = a16, α 19 = a19, α 20 = a20, α 21 = a21, α 23 = a23, α 24 = a24, α 25 = a25, α 41 = a41, α 42 = a42, α 43 = a43, α 44 = a44, α 45 = a45, α 46 = a46, α 58 = a58, α 59 = a59, α 60 = a60, α 61 = a61, α 62 = a62, α 63 = a63, α 64 = a64, α 65 = a65, α 66 = a66, α 67 = a67, α 68 = a68, α 69 = a69, α 70 = a70 at *
  subst f0
  subst f1
  subst f3
  subst f5
  subst f7
  ((repeat' (first | apply And.intro | intro h)) <;> first | omega | rfl | trivial | (exfalso; omega)))
def w_xo_writeC_1_8 : VC := (([(0, 23), (0, 49), (1, 8), (0, 10), (0, 8), (0, 6), (0, 6), (0, 8), (0, 9), (0, 49), (0, 49), ((-2147483648), 2147483647), ((-2147483648), 2147483647), (0, 5), (0, 7), (0, 0), (1, 24), (0, 23), (0, 49), (0, 49), (0, 49), (0, 99), (0, 0), ((-2147483648), 2147483647)]), [(21, [(some 17, 0), (some 23, 0)], [70, 63]), (18, [(some 23, 0), (some 21, 0)], []), (0, [(some 22, 0), (none, 0)], []), (20, [(some 22, 0), (some 15, 0)], [46]), (0, [(some 15, 0), (none, 0)], []), (20, [(some 21, 0), (some 14, 0)], [67]), (91, [(some 19, 0), (some 20, 0), (some 18, 0), (some 17, 0), (none, 0), (none, 0)], [58, 59, 7, 8, 10, 11, 16, 20, 21, 24, 25, 60, 61, 62, 67, 68, 69]), (2, [(some 17, 0), (some 16, 0)], []), (150, [(some 18, 0), (some 2, 0), (some 3, 0), (some 4, 0), (some 5, 0), (some 6, 0)], [58, 59, 7, 8, 10, 11, 12, 13, 15, 16, 19, 20, 21, 23, 24, 25]), (149, [(some 19, 0), (some 17, 0), (some 2, 0), (some 3, 0), (some 4, 0), (some 5, 0), (some 6, 0), (none, 0), (none, 0)], [7, 8, 10, 11, 12, 13, 15, 16, 19, 20, 21, 23, 24, 25, 58, 60, 61, 62]), (147, [(some 16, 0), (some 14, 0), (some 15, 0), (some 2, 0)], [45, 46]), (161, [(some 17, 0), (some 14, 0), (some 15, 0), (some 2, 0), (some 3, 0), (some 4, 0), (some 5, 0), (some 6, 0), (none, 0), (none, 0)], [7, 8, 10, 11, 12, 13, 15, 16, 19, 20, 21, 23, 24, 25, 46, 41, 42, 43, 44, 63, 64, 65, 66]), (3, [(some 16, 0), (some 17, 0)], []), (3, [(some 15, 0), (none, 0)], []), (3, [(none, 3), (some 15, 0)], []), (3, [(some 14, 0), (none, 0)], []), (2, [(some 14, 0), (some 2, 0)], [])], (149, [(some 20, 0), (some 17, 1), (some 2, 0), (some 3, 0), (some 4, 0), (some 5, 0), (some 6, 0), (none, 0), (none, 0)], [7, 8, 10, 11, 12, 13, 15, 16, 19, 20, 21, 23, 24, 25, 58, 67, 68, 69]))
set_option maxRecDepth 20000 in
theorem v_xo_writeC_1_8 {PT : PTy} (hp : HP11 PT) : vcOk PT w_xo_writeC_1_8 := vc_of (fun ρ α hB hF => by
  obtain ⟨f0, f1, f2, f3, f4, f5, f6, f7, f8, f9, f10, f11, f12, f13, f14, f15, f16, -⟩ := hF
  have e91 : PT 91 = P_adE := hp.1.1.1.1.1.1.1.1.2.2.2.2.2.2.2.2.2.2.2.2.1
  have e147 : PT 147 = P_wrX := hp.2.1
  have e149 : PT 149 = P_yi := hp.2.2.2.1
  have e150 : PT 150 = P_ar2 := hp.2.2.2.2.1
  have e161 : PT 161 = P_wcX := hp.2.2.2.2.2.2.2.2.2.2.2.2.2.2.2.1
  simp only [hF0, hF2, hF3, hF18, hF20, hF21, hFp_91, hFp_147, hFp_149, hFp_150, hFp_161, e91, e147, e149, e150, e161, P_adE, P_wrX, P_yi, P_ar2, P_wcX, den_s, den_c, Int.add_zero, List.map_cons, List.map_nil] at f0 f1 f2 f3 f4 f5 f6 f7 f8 f9 f10 f11 f12 f13 f14 f15 f16 ⊢
  have b2 : (1 : Int) ≤ ρ 2 ∧ ρ 2 ≤ 8 := hB 2 (1, 8) rfl
  have b3 : (0 : Int) ≤ ρ 3 ∧ ρ 3 ≤ 10 := hB 3 (0, 10) rfl
  have b4 : (0 : Int) ≤ ρ 4 ∧ ρ 4 ≤ 8 := hB 4 (0, 8) rfl
  have b5 : (0 : Int) ≤ ρ 5 ∧ ρ 5 ≤ 6 := hB 5 (0, 6) rfl
  have b6 : (0 : Int) ≤ ρ 6 ∧ ρ 6 ≤ 6 := hB 6 (0, 6) rfl
  have b14 : (0 : Int) ≤ ρ 14 ∧ ρ 14 ≤ 7 := hB 14 (0, 7) rfl
  have b15 : (0 : Int) ≤ ρ 15 ∧ ρ 15 ≤ 0 := hB 15 (0, 0) rfl
  have b16 : (1 : Int) ≤ ρ 16 ∧ ρ 16 ≤ 24 := hB 16 (1, 24) rfl
  have b17 : (0 : Int) ≤ ρ 17 ∧ ρ 17 ≤ 23 := hB 17 (0, 23) rfl
  have b18 : (0 : Int) ≤ ρ 18 ∧ ρ 18 ≤ 49 := hB 18 (0, 49) rfl
  have b19 : (0 : Int) ≤ ρ 19 ∧ ρ 19 ≤ 49 := hB 19 (0, 49) rfl
  have b20 : (0 : Int) ≤ ρ 20 ∧ ρ 20 ≤ 49 := hB 20 (0, 49) rfl
  have b21 : (0 : Int) ≤ ρ 21 ∧ ρ 21 ≤ 99 := hB 21 (0, 99) rfl
  have b22 : (0 : Int) ≤ ρ 22 ∧ ρ 22 ≤ 0 := hB 22 (0, 0) rfl
  have b23 : ((-2147483648) : Int) ≤ ρ 23 ∧ ρ 23 ≤ 2147483647 := hB 23 ((-2147483648), 2147483647) rfl
  exact yI_s (f8).2 f9 (by omega) (f6).1)
def w_xo_writeC_1_9 : VC := (([(0, 23), (0, 49), (1, 8), (0, 10), (0, 8), (0, 6), (0, 6), (0, 8), (0, 9), (0, 49), (0, 49), ((-2147483648), 2147483647), ((-2147483648), 2147483647), (0, 5), (0, 7), (0, 0), (1, 24), (0, 23), (0, 49), (0, 49), (0, 49), (0, 99), (0, 0), ((-2147483648), 2147483647)]), [(21, [(some 17, 0), (some 23, 0)], [70, 63]), (18, [(some 23, 0), (some 21, 0)], []), (0, [(some 22, 0), (none, 0)], []), (20, [(some 22, 0), (some 15, 0)], [46]), (0, [(some 15, 0), (none, 0)], []), (20, [(some 21, 0), (some 14, 0)], [67]), (91, [(some 19, 0), (some 20, 0), (some 18, 0), (some 17, 0), (none, 0), (none, 0)], [58, 59, 7, 8, 10, 11, 16, 20, 21, 24, 25, 60, 61, 62, 67, 68, 69]), (2, [(some 17, 0), (some 16, 0)], []), (150, [(some 18, 0), (some 2, 0), (some 3, 0), (some 4, 0), (some 5, 0), (some 6, 0)], [58, 59, 7, 8, 10, 11, 12, 13, 15, 16, 19, 20, 21, 23, 24, 25]), (149, [(some 19, 0), (some 17, 0), (some 2, 0), (some 3, 0), (some 4, 0), (some 5, 0), (some 6, 0), (none, 0), (none, 0)], [7, 8, 10, 11, 12, 13, 15, 16, 19, 20, 21, 23, 24, 25, 58, 60, 61, 62]), (147, [(some 16, 0), (some 14, 0), (some 15, 0), (some 2, 0)], [45, 46]), (161, [(some 17, 0), (some 14, 0), (some 15, 0), (some 2, 0), (some 3, 0), (some 4, 0), (some 5, 0), (some 6, 0), (none, 0), (none, 0)], [7, 8, 10, 11, 12, 13, 15, 16, 19, 20, 21, 23, 24, 25, 46, 41, 42, 43, 44, 63, 64, 65, 66]), (3, [(some 16, 0), (some 17, 0)], []), (3, [(some 15, 0), (none, 0)], []), (3, [(none, 3), (some 15, 0)], []), (3, [(some 14, 0), (none, 0)], []), (2, [(some 14, 0), (some 2, 0)], [])], (161, [(some 17, 1), (some 14, 0), (some 15, 0), (some 2, 0), (some 3, 0), (some 4, 0), (some 5, 0), (some 6, 0), (none, 0), (none, 0)], [7, 8, 10, 11, 12, 13, 15, 16, 19, 20, 21, 23, 24, 25, 46, 41, 42, 43, 44, 70, 64, 65, 66]))
set_option maxRecDepth 20000 in
theorem v_xo_writeC_1_9 {PT : PTy} (hp : HP11 PT) : vcOk PT w_xo_writeC_1_9 := vc_of (fun ρ α hB hF => by
  obtain ⟨f0, f1, f2, f3, f4, f5, f6, f7, f8, f9, f10, f11, f12, f13, f14, f15, f16, -⟩ := hF
  have e91 : PT 91 = P_adE := hp.1.1.1.1.1.1.1.1.2.2.2.2.2.2.2.2.2.2.2.2.1
  have e147 : PT 147 = P_wrX := hp.2.1
  have e149 : PT 149 = P_yi := hp.2.2.2.1
  have e150 : PT 150 = P_ar2 := hp.2.2.2.2.1
  have e161 : PT 161 = P_wcX := hp.2.2.2.2.2.2.2.2.2.2.2.2.2.2.2.1
  simp only [hF0, hF2, hF3, hF18, hF20, hF21, hFp_91, hFp_147, hFp_149, hFp_150, hFp_161, e91, e147, e149, e150, e161, P_adE, P_wrX, P_yi, P_ar2, P_wcX, den_s, den_c, Int.add_zero, List.map_cons, List.map_nil] at f0 f1 f2 f3 f4 f5 f6 f7 f8 f9 f10 f11 f12 f13 f14 f15 f16 ⊢
  have b2 : (1 : Int) ≤ ρ 2 ∧ ρ 2 ≤ 8 := hB 2 (1, 8) rfl
  have b3 : (0 : Int) ≤ ρ 3 ∧ ρ 3 ≤ 10 := hB 3 (0, 10) rfl
  have b4 : (0 : Int) ≤ ρ 4 ∧ ρ 4 ≤ 8 := hB 4 (0, 8) rfl
  have b5 : (0 : Int) ≤ ρ 5 ∧ ρ 5 ≤ 6 := hB 5 (0, 6) rfl
  have b6 : (0 : Int) ≤ ρ 6 ∧ ρ 6 ≤ 6 := hB 6 (0, 6) rfl
  have b14 : (0 : Int) ≤ ρ 14 ∧ ρ 14 ≤ 7 := hB 14 (0, 7) rfl
  have b15 : (0 : Int) ≤ ρ 15 ∧ ρ 15 ≤ 0 := hB 15 (0, 0) rfl
  have b16 : (1 : Int) ≤ ρ 16 ∧ ρ 16 ≤ 24 := hB 16 (1, 24) rfl
  have b17 : (0 : Int) ≤ ρ 17 ∧ ρ 17 ≤ 23 := hB 17 (0, 23) rfl
  have b18 : (0 : Int) ≤ ρ 18 ∧ ρ 18 ≤ 49 := hB 18 (0, 49) rfl
  have b19 : (0 : Int) ≤ ρ 19 ∧ ρ 19 ≤ 49 := hB 19 (0, 49) rfl
  have b20 : (0 : Int) ≤ ρ 20 ∧ ρ 20 ≤ 49 := hB 20 (0, 49) rfl
  have b21 : (0 : Int) ≤ ρ 21 ∧ ρ 21 ≤ 99 := hB 21 (0, 99) rfl
  have b22 : (0 : Int) ≤ ρ 22 ∧ ρ 22 ≤ 0 := hB 22 (0, 0) rfl
  have b23 : ((-2147483648) : Int) ≤ ρ 23 ∧ ρ 23 ≤ 2147483647 := hB 23 ((-2147483648), 2147483647) rfl
  clear hB
  generalize ρ 2 = r2, ρ 3 = r3, ρ 4 = r4, ρ 5 = r5, ρ 6 = r6, ρ 14 = r14, ρ 15 = r15, ρ 16 = r16, ρ 17 = r17, ρ 18 = r18, ρ 19 = r19, ρ 20 = r20, ρ 21 = r21, ρ 22 = r22, ρ 23 = r23, α 7 = a7, α 8 = a8, α 10 = a10, α 11 = a11, α 12 = a12, α 13 = a13, α 15 = a15, α 16 = a16, α 19 = a19, α 20 = a20, α 21 = a21, α 23 = a23, α 24 = a24, α 25 = a25, α 41 = a41, α 42 = a42, α 43 = a43, α 44 = a44, α 45 = a45, α 46 = a46, α 58 = a58, α 59 = a59, α 60 = a60, α 61 = a61, α 62 = a62, α 63 = a63, α 64 = a64, α 65 = a65, α 66 = a66, α 67 = a67, α 68 = a68, α 69 = a69, α 70 = a70 at *
  subst f0
  subst f1
  subst f3
  subst f5
  have hy := yI_e (f8).2 (yI_s (f8).2 f9 (by omega) (f6).1) (f6).2
  have hw := f11
  rcases (show r15 = 0 ∨ r15 = 1 ∨ r15 = 2 ∨ r15 = 3 by omega) with z | z | z | z <;> subst z <;> first
    | (exfalso; omega)
    | (refine wcS_s hw (by omega) (by simp only [rowX_0, rowX_1, rowX_2, rowX_3]; rfl) ⟨_, _, _, hy, ?_⟩ (fun t h1 h2 h3 => ?_)
       · unfold cutF
         (repeat' split) <;> first | rfl | (exfalso; omega)
       · rcases (show t = 0 ∨ t = 1 ∨ t = 2 ∨ t = 3 by omega) with y | y | y | y <;> subst y <;> first | (exact absurd rfl h3) | (simp only [rowX_0, rowX_1, rowX_2, rowX_3])))
def w_xo_writeC_1_10 : VC := (([(0, 23), (0, 49), (1, 8), (0, 10), (0, 8), (0, 6), (0, 6), (0, 8), (0, 9), (0, 49), (0, 49), ((-2147483648), 2147483647), ((-2147483648), 2147483647), (0, 5), (0, 7), (0, 0), (1, 24), (0, 23), (0, 49), (0, 49), (0, 49), (0, 99), (0, 0), ((-2147483648), 2147483647)]), [(21, [(some 17, 0), (some 23, 0)], [70, 63]), (18, [(some 23, 0), (some 21, 0)], []), (0, [(some 22, 0), (none, 0)], []), (20, [(some 22, 0), (some 15, 0)], [46]), (0, [(some 15, 0), (none, 0)], []), (20, [(some 21, 0), (some 14, 0)], [67]), (91, [(some 19, 0), (some 20, 0), (some 18, 0), (some 17, 0), (none, 0), (none, 0)], [58, 59, 7, 8, 10, 11, 16, 20, 21, 24, 25, 60, 61, 62, 67, 68, 69]), (2, [(some 17, 0), (some 16, 0)], []), (150, [(some 18, 0), (some 2, 0), (some 3, 0), (some 4, 0), (some 5, 0), (some 6, 0)], [58, 59, 7, 8, 10, 11, 12, 13, 15, 16, 19, 20, 21, 23, 24, 25]), (149, [(some 19, 0), (some 17, 0), (some 2, 0), (some 3, 0), (some 4, 0), (some 5, 0), (some 6, 0), (none, 0), (none, 0)], [7, 8, 10, 11, 12, 13, 15, 16, 19, 20, 21, 23, 24, 25, 58, 60, 61, 62]), (147, [(some 16, 0), (some 14, 0), (some 15, 0), (some 2, 0)], [45, 46]), (161, [(some 17, 0), (some 14, 0), (some 15, 0), (some 2, 0), (some 3, 0), (some 4, 0), (some 5, 0), (some 6, 0), (none, 0), (none, 0)], [7, 8, 10, 11, 12, 13, 15, 16, 19, 20, 21, 23, 24, 25, 46, 41, 42, 43, 44, 63, 64, 65, 66]), (3, [(some 16, 0), (some 17, 0)], []), (3, [(some 15, 0), (none, 0)], []), (3, [(none, 3), (some 15, 0)], []), (3, [(some 14, 0), (none, 0)], []), (2, [(some 14, 0), (some 2, 0)], [])], (3, [(some 16, 0), (some 17, 1)], []))
set_option maxRecDepth 20000 in
theorem v_xo_writeC_1_10 {PT : PTy} (hp : HP11 PT) : vcOk PT w_xo_writeC_1_10 := vc_of (fun ρ α hB hF => by
  obtain ⟨f0, f1, f2, f3, f4, f5, f6, f7, f8, f9, f10, f11, f12, f13, f14, f15, f16, -⟩ := hF
  have e91 : PT 91 = P_adE := hp.1.1.1.1.1.1.1.1.2.2.2.2.2.2.2.2.2.2.2.2.1
  have e147 : PT 147 = P_wrX := hp.2.1
  have e149 : PT 149 = P_yi := hp.2.2.2.1
  have e150 : PT 150 = P_ar2 := hp.2.2.2.2.1
  have e161 : PT 161 = P_wcX := hp.2.2.2.2.2.2.2.2.2.2.2.2.2.2.2.1
  simp only [hF0, hF2, hF3, hF18, hF20, hF21, hFp_91, hFp_147, hFp_149, hFp_150, hFp_161, e91, e147, e149, e150, e161, P_adE, P_wrX, P_yi, P_ar2, P_wcX, den_s, den_c, Int.add_zero, List.map_cons, List.map_nil] at f0 f1 f2 f3 f4 f5 f6 f7 f8 f9 f10 f11 f12 f13 f14 f15 f16 ⊢
  have b2 : (1 : Int) ≤ ρ 2 ∧ ρ 2 ≤ 8 := hB 2 (1, 8) rfl
  have b3 : (0 : Int) ≤ ρ 3 ∧ ρ 3 ≤ 10 := hB 3 (0, 10) rfl
  have b4 : (0 : Int) ≤ ρ 4 ∧ ρ 4 ≤ 8 := hB 4 (0, 8) rfl
  have b5 : (0 : Int) ≤ ρ 5 ∧ ρ 5 ≤ 6 := hB 5 (0, 6) rfl
  have b6 : (0 : Int) ≤ ρ 6 ∧ ρ 6 ≤ 6 := hB 6 (0, 6) rfl
  have b14 : (0 : Int) ≤ ρ 14 ∧ ρ 14 ≤ 7 := hB 14 (0, 7) rfl
  have b15 : (0 : Int) ≤ ρ 15 ∧ ρ 15 ≤ 0 := hB 15 (0, 0) rfl
  have b16 : (1 : Int) ≤ ρ 16 ∧ ρ 16 ≤ 24 := hB 16 (1, 24) rfl
  have b17 : (0 : Int) ≤ ρ 17 ∧ ρ 17 ≤ 23 := hB 17 (0, 23) rfl
  have b18 : (0 : Int) ≤ ρ 18 ∧ ρ 18 ≤ 49 := hB 18 (0, 49) rfl
  have b19 : (0 : Int) ≤ ρ 19 ∧ ρ 19 ≤ 49 := hB 19 (0, 49) rfl
  have b20 : (0 : Int) ≤ ρ 20 ∧ ρ 20 ≤ 49 := hB 20 (0, 49) rfl
  have b21 : (0 : Int) ≤ ρ 21 ∧ ρ 21 ≤ 99 := hB 21 (0, 99) rfl
  have b22 : (0 : Int) ≤ ρ 22 ∧ ρ 22 ≤ 0 := hB 22 (0, 0) rfl
  have b23 : ((-2147483648) : Int) ≤ ρ 23 ∧ ρ 23 ≤ 2147483647 := hB 23 ((-2147483648), 2147483647) rfl
  clear hB
  generalize ρ 2 = r2, ρ 3 = r3, ρ 4 = r4, ρ 5 = r5, ρ 6 = r6, ρ 14 = r14, ρ 15 = r15, ρ 16 = r16, ρ 17 = r17, ρ 18 = r18, ρ 19 = r19, ρ 20 = r20, ρ 21 = r21, ρ 22 = r22, ρ 23 = r23, α 7 = a7, α 8 = a8, α 10 = a10, α 11 = a11, α 12 = a12, α 13 = a13, α 15 = a15, α 16 = a16, α 19 = a19, α 20 = a20, α 21 = a21, α 23 = a23, α 24 = a24, α 25 = a25, α 41 = a41, α 42 = a42, α 43 = a43, α 44 = a44, α 45 = a45, α 46 = a46, α 58 = a58, α 59 = a59, α 60 = a60, α 61 = a61, α 62 = a62, α 63 = a63, α 64 = a64, α 65 = a65, α 66 = a66, α 67 = a67, α 68 = a68, α 69 = a69, α 70 = a70 at *
  subst f0
  subst f1
  subst f3
  subst f5
  ((repeat' (first | apply And.intro | intro h)) <;> first | omega | rfl | trivial | (exfalso; omega)))
def w_xo_writeC_1_11 : VC := (([(0, 23), (0, 49), (1, 8), (0, 10), (0, 8), (0, 6), (0, 6), (0, 8), (0, 9), (0, 49), (0, 49), ((-2147483648), 2147483647), ((-2147483648), 2147483647), (0, 5), (0, 7), (1, 1), (1, 24), (0, 23), (0, 49), (0, 49), (0, 49), (0, 99), ((-1), 2), ((-1), 2)]), [(21, [(some 17, 0), (some 21, 0)], [70, 64]), (1, [(some 23, 0), (none, 1)], []), (20, [(some 23, 0), (some 15, 0)], [46]), (1, [(some 22, 0), (none, 0)], []), (20, [(some 22, 0), (some 15, 0)], [46]), (0, [(some 15, 0), (none, 1)], []), (20, [(some 21, 0), (some 14, 0)], [67]), (91, [(some 19, 0), (some 20, 0), (some 18, 0), (some 17, 0), (none, 0), (none, 0)], [58, 59, 7, 8, 10, 11, 16, 20, 21, 24, 25, 60, 61, 62, 67, 68, 69]), (2, [(some 17, 0), (some 16, 0)], []), (150, [(some 18, 0), (some 2, 0), (some 3, 0), (some 4, 0), (some 5, 0), (some 6, 0)], [58, 59, 7, 8, 10, 11, 12, 13, 15, 16, 19, 20, 21, 23, 24, 25]), (149, [(some 19, 0), (some 17, 0), (some 2, 0), (some 3, 0), (some 4, 0), (some 5, 0), (some 6, 0), (none, 0), (none, 0)], [7, 8, 10, 11, 12, 13, 15, 16, 19, 20, 21, 23, 24, 25, 58, 60, 61, 62]), (147, [(some 16, 0), (some 14, 0), (some 15, 0), (some 2, 0)], [45, 46]), (161, [(some 17, 0), (some 14, 0), (some 15, 0), (some 2, 0), (some 3, 0), (some 4, 0), (some 5, 0), (some 6, 0), (none, 0), (none, 0)], [7, 8, 10, 11, 12, 13, 15, 16, 19, 20, 21, 23, 24, 25, 46, 41, 42, 43, 44, 63, 64, 65, 66]), (3, [(some 16, 0), (some 17, 0)], []), (3, [(some 15, 0), (none, 0)], []), (3, [(none, 3), (some 15, 0)], []), (3, [(some 14, 0), (none, 0)], []), (2, [(some 14, 0), (some 2, 0)], [])], (149, [(some 20, 0), (some 17, 1), (some 2, 0), (some 3, 0), (some 4, 0), (some 5, 0), (some 6, 0), (none, 0), (none, 0)], [7, 8, 10, 11, 12, 13, 15, 16, 19, 20, 21, 23, 24, 25, 58, 67, 68, 69]))
set_option maxRecDepth 20000 in
theorem v_xo_writeC_1_11 {PT : PTy} (hp : HP11 PT) : vcOk PT w_xo_writeC_1_11 := vc_of (fun ρ α hB hF => by
  obtain ⟨f0, f1, f2, f3, f4, f5, f6, f7, f8, f9, f10, f11, f12, f13, f14, f15, f16, f17, -⟩ := hF
  have e91 : PT 91 = P_adE := hp.1.1.1.1.1.1.1.1.2.2.2.2.2.2.2.2.2.2.2.2.1
  have e147 : PT 147 = P_wrX := hp.2.1
  have e149 : PT 149 = P_yi := hp.2.2.2.1
  have e150 : PT 150 = P_ar2 := hp.2.2.2.2.1
  have e161 : PT 161 = P_wcX := hp.2.2.2.2.2.2.2.2.2.2.2.2.2.2.2.1
  simp only [hF0, hF1, hF2, hF3, hF20, hF21, hFp_91, hFp_147, hFp_149, hFp_150, hFp_161, e91, e147, e149, e150, e161, P_adE, P_wrX, P_yi, P_ar2, P_wcX, den_s, den_c, Int.add_zero, List.map_cons, List.map_nil] at f0 f1 f2 f3 f4 f5 f6 f7 f8 f9 f10 f11 f12 f13 f14 f15 f16 f17 ⊢
  have b2 : (1 : Int) ≤ ρ 2 ∧ ρ 2 ≤ 8 := hB 2 (1, 8) rfl
  have b3 : (0 : Int) ≤ ρ 3 ∧ ρ 3 ≤ 10 := hB 3 (0, 10) rfl
  have b4 : (0 : Int) ≤ ρ 4 ∧ ρ 4 ≤ 8 := hB 4 (0, 8) rfl
  have b5 : (0 : Int) ≤ ρ 5 ∧ ρ 5 ≤ 6 := hB 5 (0, 6) rfl
  have b6 : (0 : Int) ≤ ρ 6 ∧ ρ 6 ≤ 6 := hB 6 (0, 6) rfl
  have b14 : (0 : Int) ≤ ρ 14 ∧ ρ 14 ≤ 7 := hB 14 (0, 7) rfl
  have b15 : (1 : Int) ≤ ρ 15 ∧ ρ 15 ≤ 1 := hB 15 (1, 1) rfl
  have b16 : (1 : Int) ≤ ρ 16 ∧ ρ 16 ≤ 24 := hB 16 (1, 24) rfl
  have b17 : (0 : Int) ≤ ρ 17 ∧ ρ 17 ≤ 23 := hB 17 (0, 23) rfl
  have b18 : (0 : Int) ≤ ρ 18 ∧ ρ 18 ≤ 49 := hB 18 (0, 49) rfl
  have b19 : (0 : Int) ≤ ρ 19 ∧ ρ 19 ≤ 49 := hB 19 (0, 49) rfl
  have b20 : (0 : Int) ≤ ρ 20 ∧ ρ 20 ≤ 49 := hB 20 (0, 49) rfl
  have b21 : (0 : Int) ≤ ρ 21 ∧ ρ 21 ≤ 99 := hB 21 (0, 99) rfl
  have b22 : ((-1) : Int) ≤ ρ 22 ∧ ρ 22 ≤ 2 := hB 22 ((-1), 2) rfl
  have b23 : ((-1) : Int) ≤ ρ 23 ∧ ρ 23 ≤ 2 := hB 23 ((-1), 2) rfl
  exact yI_s (f9).2 f10 (by omega) (f7).1)
def w_xo_writeC_1_12 : VC := (([(0, 23), (0, 49), (1, 8), (0, 10), (0, 8), (0, 6), (0, 6), (0, 8), (0, 9), (0, 49), (0, 49), ((-2147483648), 2147483647), ((-2147483648), 2147483647), (0, 5), (0, 7), (1, 1), (1, 24), (0, 23), (0, 49), (0, 49), (0, 49), (0, 99), ((-1), 2), ((-1), 2)]), [(21, [(some 17, 0), (some 21, 0)], [70, 64]), (1, [(some 23, 0), (none, 1)], []), (20, [(some 23, 0), (some 15, 0)], [46]), (1, [(some 22, 0), (none, 0)], []), (20, [(some 22, 0), (some 15, 0)], [46]), (0, [(some 15, 0), (none, 1)], []), (20, [(some 21, 0), (some 14, 0)], [67]), (91, [(some 19, 0), (some 20, 0), (some 18, 0), (some 17, 0), (none, 0), (none, 0)], [58, 59, 7, 8, 10, 11, 16, 20, 21, 24, 25, 60, 61, 62, 67, 68, 69]), (2, [(some 17, 0), (some 16, 0)], []), (150, [(some 18, 0), (some 2, 0), (some 3, 0), (some 4, 0), (some 5, 0), (some 6, 0)], [58, 59, 7, 8, 10, 11, 12, 13, 15, 16, 19, 20, 21, 23, 24, 25]), (149, [(some 19, 0), (some 17, 0), (some 2, 0), (some 3, 0), (some 4, 0), (some 5, 0), (some 6, 0), (none, 0), (none, 0)], [7, 8, 10, 11, 12, 13, 15, 16, 19, 20, 21, 23, 24, 25, 58, 60, 61, 62]), (147, [(some 16, 0), (some 14, 0), (some 15, 0), (some 2, 0)], [45, 46]), (161, [(some 17, 0), (some 14, 0), (some 15, 0), (some 2, 0), (some 3, 0), (some 4, 0), (some 5, 0), (some 6, 0), (none, 0), (none, 0)], [7, 8, 10, 11, 12, 13, 15, 16, 19, 20, 21, 23, 24, 25, 46, 41, 42, 43, 44, 63, 64, 65, 66]), (3, [(some 16, 0), (some 17, 0)], []), (3, [(some 15, 0), (none, 0)], []), (3, [(none, 3), (some 15, 0)], []), (3, [(some 14, 0), (none, 0)], []), (2, [(some 14, 0), (some 2, 0)], [])], (161, [(some 17, 1), (some 14, 0), (some 15, 0), (some 2, 0), (some 3, 0), (some 4, 0), (some 5, 0), (some 6, 0), (none, 0), (none, 0)], [7, 8, 10, 11, 12, 13, 15, 16, 19, 20, 21, 23, 24, 25, 46, 41, 42, 43, 44, 63, 70, 65, 66]))
set_option maxRecDepth 20000 in
theorem v_xo_writeC_1_12 {PT : PTy} (hp : HP11 PT) : vcOk PT w_xo_writeC_1_12 := vc_of (fun ρ α hB hF => by
  obtain ⟨f0, f1, f2, f3, f4, f5, f6, f7, f8, f9, f10, f11, f12, f13, f14, f15, f16, f17, -⟩ := hF
  have e91 : PT 91 = P_adE := hp.1.1.1.1.1.1.1.1.2.2.2.2.2.2.2.2.2.2.2.2.1
  have e147 : PT 147 = P_wrX := hp.2.1
  have e149 : PT 149 = P_yi := hp.2.2.2.1
  have e150 : PT 150 = P_ar2 := hp.2.2.2.2.1
  have e161 : PT 161 = P_wcX := hp.2.2.2.2.2.2.2.2.2.2.2.2.2.2.2.1
  simp only [hF0, hF1, hF2, hF3, hF20, hF21, hFp_91, hFp_147, hFp_149, hFp_150, hFp_161, e91, e147, e149, e150, e161, P_adE, P_wrX, P_yi, P_ar2, P_wcX, den_s, den_c, Int.add_zero, List.map_cons, List.map_nil] at f0 f1 f2 f3 f4 f5 f6 f7 f8 f9 f10 f11 f12 f13 f14 f15 f16 f17 ⊢
  have b2 : (1 : Int) ≤ ρ 2 ∧ ρ 2 ≤ 8 := hB 2 (1, 8) rfl
  have b3 : (0 : Int) ≤ ρ 3 ∧ ρ 3 ≤ 10 := hB 3 (0, 10) rfl
  have b4 : (0 : Int) ≤ ρ 4 ∧ ρ 4 ≤ 8 := hB 4 (0, 8) rfl
  have b5 : (0 : Int) ≤ ρ 5 ∧ ρ 5 ≤ 6 := hB 5 (0, 6) rfl
  have b6 : (0 : Int) ≤ ρ 6 ∧ ρ 6 ≤ 6 := hB 6 (0, 6) rfl
  have b14 : (0 : Int) ≤ ρ 14 ∧ ρ 14 ≤ 7 := hB 14 (0, 7) rfl
  have b15 : (1 : Int) ≤ ρ 15 ∧ ρ 15 ≤ 1 := hB 15 (1, 1) rfl
  have b16 : (1 : Int) ≤ ρ 16 ∧ ρ 16 ≤ 24 := hB 16 (1, 24) rfl
  have b17 : (0 : Int) ≤ ρ 17 ∧ ρ 17 ≤ 23 := hB 17 (0, 23) rfl
  have b18 : (0 : Int) ≤ ρ 18 ∧ ρ 18 ≤ 49 := hB 18 (0, 49) rfl
  have b19 : (0 : Int) ≤ ρ 19 ∧ ρ 19 ≤ 49 := hB 19 (0, 49) rfl
  have b20 : (0 : Int) ≤ ρ 20 ∧ ρ 20 ≤ 49 := hB 20 (0, 49) rfl
  have b21 : (0 : Int) ≤ ρ 21 ∧ ρ 21 ≤ 99 := hB 21 (0, 99) rfl
  have b22 : ((-1) : Int) ≤ ρ 22 ∧ ρ 22 ≤ 2 := hB 22 ((-1), 2) rfl
  have b23 : ((-1) : Int) ≤ ρ 23 ∧ ρ 23 ≤ 2 := hB 23 ((-1), 2) rfl
  clear hB
  generalize ρ 2 = r2, ρ 3 = r3, ρ 4 = r4, ρ 5 = r5, ρ 6 = r6, ρ 14 = r14, ρ 15 = r15, ρ 16 = r16, ρ 17 = r17, ρ 18 = r18, ρ 19 = r19, ρ 20 = r20, ρ 21 = r21, ρ 22 = r22, ρ 23 = r23, α 7 = a7, α 8 = a8, α 10 = a10, α 11 = a11, α 12 = a12, α 13 = a13, α 15 = a15, α 16 = a16, α 19 = a19, α 20 = a20, α 21 = a21, α 23 = a23, α 24 = a24, α 25 = a25, α 41 = a41, α 42 = a42, α 43 = a43, α 44 = a44, α 45 = a45, α 46 = a46, α 58 = a58, α 59 = a59, α 60 = a60, α 61 = a61, α 62 = a62, α 63 = a63, α 64 = a64, α 65 = a65, α 66 = a66, α 67 = a67, α 68 = a68, α 69 = a69, α 70 = a70 at *
  subst f0
  subst f2
  subst f4
  subst f6
  have hy := yI_e (f9).2 (yI_s (f9).2 f10 (by omega) (f7).1) (f7).2
  have hw := f12
  rcases (show r15 = 0 ∨ r15 = 1 ∨ r15 = 2 ∨ r15 = 3 by omega) with z | z | z | z <;> subst z <;> first
    | (exfalso; omega)
    | (refine wcS_s hw (by omega) (by simp only [rowX_0, rowX_1, rowX_2, rowX_3]; rfl) ⟨_, _, _, hy, ?_⟩ (fun t h1 h2 h3 => ?_)
       · unfold cutF
         (repeat' split) <;> first | rfl | (exfalso; omega)
       · rcases (show t = 0 ∨ t = 1 ∨ t = 2 ∨ t = 3 by omega) with y | y | y | y <;> subst y <;> first | (exact absurd rfl h3) | (simp only [rowX_0, rowX_1, rowX_2, rowX_3])))
def w_xo_writeC_1_13 : VC := (([(0, 23), (0, 49), (1, 8), (0, 10), (0, 8), (0, 6), (0, 6), (0, 8), (0, 9), (0, 49), (0, 49), ((-2147483648), 2147483647), ((-2147483648), 2147483647), (0, 5), (0, 7), (1, 1), (1, 24), (0, 23), (0, 49), (0, 49), (0, 49), (0, 99), ((-1), 2), ((-1), 2)]), [(21, [(some 17, 0), (some 21, 0)], [70, 64]), (1, [(some 23, 0), (none, 1)], []), (20, [(some 23, 0), (some 15, 0)], [46]), (1, [(some 22, 0), (none, 0)], []), (20, [(some 22, 0), (some 15, 0)], [46]), (0, [(some 15, 0), (none, 1)], []), (20, [(some 21, 0), (some 14, 0)], [67]), (91, [(some 19, 0), (some 20, 0), (some 18, 0), (some 17, 0), (none, 0), (none, 0)], [58, 59, 7, 8, 10, 11, 16, 20, 21, 24, 25, 60, 61, 62, 67, 68, 69]), (2, [(some 17, 0), (some 16, 0)], []), (150, [(some 18, 0), (some 2, 0), (some 3, 0), (some 4, 0), (some 5, 0), (some 6, 0)], [58, 59, 7, 8, 10, 11, 12, 13, 15, 16, 19, 20, 21, 23, 24, 25]), (149, [(some 19, 0), (some 17, 0), (some 2, 0), (some 3, 0), (some 4, 0), (some 5, 0), (some 6, 0), (none, 0), (none, 0)], [7, 8, 10, 11, 12, 13, 15, 16, 19, 20, 21, 23, 24, 25, 58, 60, 61, 62]), (147, [(some 16, 0), (some 14, 0), (some 15, 0), (some 2, 0)], [45, 46]), (161, [(some 17, 0), (some 14, 0), (some 15, 0), (some 2, 0), (some 3, 0), (some 4, 0), (some 5, 0), (some 6, 0), (none, 0), (none, 0)], [7, 8, 10, 11, 12, 13, 15, 16, 19, 20, 21, 23, 24, 25, 46, 41, 42, 43, 44, 63, 64, 65, 66]), (3, [(some 16, 0), (some 17, 0)], []), (3, [(some 15, 0), (none, 0)], []), (3, [(none, 3), (some 15, 0)], []), (3, [(some 14, 0), (none, 0)], []), (2, [(some 14, 0), (some 2, 0)], [])], (3, [(some 16, 0), (some 17, 1)], []))
set_option maxRecDepth 20000 in
theorem v_xo_writeC_1_13 {PT : PTy} (hp : HP11 PT) : vcOk PT w_xo_writeC_1_13 := vc_of (fun ρ α hB hF => by
  obtain ⟨f0, f1, f2, f3, f4, f5, f6, f7, f8, f9, f10, f11, f12, f13, f14, f15, f16, f17, -⟩ := hF
  have e91 : PT 91 = P_adE := hp.1.1.1.1.1.1.1.1.2.2.2.2.2.2.2.2.2.2.2.2.1
  have e147 : PT 147 = P_wrX := hp.2.1
  have e149 : PT 149 = P_yi := hp.2.2.2.1
  have e150 : PT 150 = P_ar2 := hp.2.2.2.2.1
  have e161 : PT 161 = P_wcX := hp.2.2.2.2.2.2.2.2.2.2.2.2.2.2.2.1
  simp only [hF0, hF1, hF2, hF3, hF20, hF21, hFp_91, hFp_147, hFp_149, hFp_150, hFp_161, e91, e147, e149, e150, e161, P_adE, P_wrX, P_yi, P_ar2, P_wcX, den_s, den_c, Int.add_zero, List.map_cons, List.map_nil] at f0 f1 f2 f3 f4 f5 f6 f7 f8 f9 f10 f11 f12 f13 f14 f15 f16 f17 ⊢
  have b2 : (1 : Int) ≤ ρ 2 ∧ ρ 2 ≤ 8 := hB 2 (1, 8) rfl
  have b3 : (0 : Int) ≤ ρ 3 ∧ ρ 3 ≤ 10 := hB 3 (0, 10) rfl
  have b4 : (0 : Int) ≤ ρ 4 ∧ ρ 4 ≤ 8 := hB 4 (0, 8) rfl
  have b5 : (0 : Int) ≤ ρ 5 ∧ ρ 5 ≤ 6 := hB 5 (0, 6) rfl
  have b6 : (0 : Int) ≤ ρ 6 ∧ ρ 6 ≤ 6 := hB 6 (0, 6) rfl
  have b14 : (0 : Int) ≤ ρ 14 ∧ ρ 14 ≤ 7 := hB 14 (0, 7) rfl
  have b15 : (1 : Int) ≤ ρ 15 ∧ ρ 15 ≤ 1 := hB 15 (1, 1) rfl
  have b16 : (1 : Int) ≤ ρ 16 ∧ ρ 16 ≤ 24 := hB 16 (1, 24) rfl
  have b17 : (0 : Int) ≤ ρ 17 ∧ ρ 17 ≤ 23 := hB 17 (0, 23) rfl
  have b18 : (0 : Int) ≤ ρ 18 ∧ ρ 18 ≤ 49 := hB 18 (0, 49) rfl
  have b19 : (0 : Int) ≤ ρ 19 ∧ ρ 19 ≤ 49 := hB 19 (0, 49) rfl
  have b20 : (0 : Int) ≤ ρ 20 ∧ ρ 20 ≤ 49 := hB 20 (0, 49) rfl
  have b21 : (0 : Int) ≤ ρ 21 ∧ ρ 21 ≤ 99 := hB 21 (0, 99) rfl
  have b22 : ((-1) : Int) ≤ ρ 22 ∧ ρ 22 ≤ 2 := hB 22 ((-1), 2) rfl
  have b23 : ((-1) : Int) ≤ ρ 23 ∧ ρ 23 ≤ 2 := hB 23 ((-1), 2) rfl
  clear hB
  generalize ρ 2 = r2, ρ 3 = r3, ρ 4 = r4, ρ 5 = r5, ρ 6 = r6, ρ 14 = r14, ρ 15 = r15, ρ 16 = r16, ρ 17 = r17, ρ 18 = r18, ρ 19 = r19, ρ 20 = r20, ρ 21 = r21, ρ 22 = r22, ρ 23 = r23, α 7 = a7, α 8 = a8, α 10 = a10, α 11 = a11, α 12 = a12, α 13 = a13, α 15 = a15, α 16 = a16, α 19 = a19, α 20 = a20, α 21 = a21, α 23 = a23, α 24 = a24, α 25 = a25, α 41 = a41, α 42 = a42, α 43 = a43, α 44 = a44, α 45 = a45, α 46 = a46, α 58 = a58, α 59 = a59, α 60 = a60, α 61 = a61, α 62 = a62, α 63 = a63, α 64 = a64, α 65 = a65, α 66 = a66, α 67 = a67, α 68 = a68, α 69 = a69, α 70 = a70 at *
  subst f0
  subst f2
  subst f4
  subst f6
  ((repeat' (first | apply And.intro | intro h)) <;> first | omega | rfl | trivial | (exfalso; omega)))
def w_xo_writeC_1_14 : VC := (([(0, 23), (0, 49), (1, 8), (0, 10), (0, 8), (0, 6), (0, 6), (0, 8), (0, 9), (0, 49), (0, 49), ((-2147483648), 2147483647), ((-2147483648), 2147483647), (0, 5), (0, 7), (1, 1), (1, 24), (0, 23), (0, 49), (0, 49), (0, 49), (0, 99), ((-1), 2), (1, 1), ((-2147483648), 2147483647)]), [(21, [(some 17, 0), (some 24, 0)], [70, 64]), (19, [(some 24, 0), (some 21, 0)], []), (0, [(some 23, 0), (none, 1)], []), (20, [(some 23, 0), (some 15, 0)], [46]), (1, [(some 22, 0), (none, 0)], []), (20, [(some 22, 0), (some 15, 0)], [46]), (0, [(some 15, 0), (none, 1)], []), (20, [(some 21, 0), (some 14, 0)], [67]), (91, [(some 19, 0), (some 20, 0), (some 18, 0), (some 17, 0), (none, 0), (none, 0)], [58, 59, 7, 8, 10, 11, 16, 20, 21, 24, 25, 60, 61, 62, 67, 68, 69]), (2, [(some 17, 0), (some 16, 0)], []), (150, [(some 18, 0), (some 2, 0), (some 3, 0), (some 4, 0), (some 5, 0), (some 6, 0)], [58, 59, 7, 8, 10, 11, 12, 13, 15, 16, 19, 20, 21, 23, 24, 25]), (149, [(some 19, 0), (some 17, 0), (some 2, 0), (some 3, 0), (some 4, 0), (some 5, 0), (some 6, 0), (none, 0), (none, 0)], [7, 8, 10, 11, 12, 13, 15, 16, 19, 20, 21, 23, 24, 25, 58, 60, 61, 62]), (147, [(some 16, 0), (some 14, 0), (some 15, 0), (some 2, 0)], [45, 46]), (161, [(some 17, 0), (some 14, 0), (some 15, 0), (some 2, 0), (some 3, 0), (some 4, 0), (some 5, 0), (some 6, 0), (none, 0), (none, 0)], [7, 8, 10, 11, 12, 13, 15, 16, 19, 20, 21, 23, 24, 25, 46, 41, 42, 43, 44, 63, 64, 65, 66]), (3, [(some 16, 0), (some 17, 0)], []), (3, [(some 15, 0), (none, 0)], []), (3, [(none, 3), (some 15, 0)], []), (3, [(some 14, 0), (none, 0)], []), (2, [(some 14, 0), (some 2, 0)], [])], (149, [(some 20, 0), (some 17, 1), (some 2, 0), (some 3, 0), (some 4, 0), (some 5, 0), (some 6, 0), (none, 0), (none, 0)], [7, 8, 10, 11, 12, 13, 15, 16, 19, 20, 21, 23, 24, 25, 58, 67, 68, 69]))
set_option maxRecDepth 20000 in
theorem v_xo_writeC_1_14 {PT : PTy} (hp : HP11 PT) : vcOk PT w_xo_writeC_1_14 := vc_of (fun ρ α hB hF => by
  obtain ⟨f0, f1, f2, f3, f4, f5, f6, f7, f8, f9, f10, f11, f12, f13, f14, f15, f16, f17, f18, -⟩ := hF
  have e91 : PT 91 = P_adE := hp.1.1.1.1.1.1.1.1.2.2.2.2.2.2.2.2.2.2.2.2.1
  have e147 : PT 147 = P_wrX := hp.2.1
  have e149 : PT 149 = P_yi := hp.2.2.2.1
  have e150 : PT 150 = P_ar2 := hp.2.2.2.2.1
  have e161 : PT 161 = P_wcX := hp.2.2.2.2.2.2.2.2.2.2.2.2.2.2.2.1
  simp only [hF0, hF1, hF2, hF3, hF19, hF20, hF21, hFp_91, hFp_147, hFp_149, hFp_150, hFp_161, e91, e147, e149, e150, e161, P_adE, P_wrX, P_yi, P_ar2, P_wcX, den_s, den_c, Int.add_zero, List.map_cons, List.map_nil] at f0 f1 f2 f3 f4 f5 f6 f7 f8 f9 f10 f11 f12 f13 f14 f15 f16 f17 f18 ⊢
  have b2 : (1 : Int) ≤ ρ 2 ∧ ρ 2 ≤ 8 := hB 2 (1, 8) rfl
  have b3 : (0 : Int) ≤ ρ 3 ∧ ρ 3 ≤ 10 := hB 3 (0, 10) rfl
  have b4 : (0 : Int) ≤ ρ 4 ∧ ρ 4 ≤ 8 := hB 4 (0, 8) rfl
  have b5 : (0 : Int) ≤ ρ 5 ∧ ρ 5 ≤ 6 := hB 5 (0, 6) rfl
  have b6 : (0 : Int) ≤ ρ 6 ∧ ρ 6 ≤ 6 := hB 6 (0, 6) rfl
  have b14 : (0 : Int) ≤ ρ 14 ∧ ρ 14 ≤ 7 := hB 14 (0, 7) rfl
  have b15 : (1 : Int) ≤ ρ 15 ∧ ρ 15 ≤ 1 := hB 15 (1, 1) rfl
  have b16 : (1 : Int) ≤ ρ 16 ∧ ρ 16 ≤ 24 := hB 16 (1, 24) rfl
  have b17 : (0 : Int) ≤ ρ 17 ∧ ρ 17 ≤ 23 := hB 17 (0, 23) rfl
  have b18 : (0 : Int) ≤ ρ 18 ∧ ρ 18 ≤ 49 := hB 18 (0, 49) rfl
  have b19 : (0 : Int) ≤ ρ 19 ∧ ρ 19 ≤ 49 := hB 19 (0, 49) rfl
  have b20 : (0 : Int) ≤ ρ 20 ∧ ρ 20 ≤ 49 := hB 20 (0, 49) rfl
  have b21 : (0 : Int) ≤ ρ 21 ∧ ρ 21 ≤ 99 := hB 21 (0, 99) rfl
  have b22 : ((-1) : Int) ≤ ρ 22 ∧ ρ 22 ≤ 2 := hB 22 ((-1), 2) rfl
  have b23 : (1 : Int) ≤ ρ 23 ∧ ρ 23 ≤ 1 := hB 23 (1, 1) rfl
  have b24 : ((-2147483648) : Int) ≤ ρ 24 ∧ ρ 24 ≤ 2147483647 := hB 24 ((-2147483648), 2147483647) rfl
  exact yI_s (f10).2 f11 (by omega) (f8).1)
def w_xo_writeC_1_15 : VC := (([(0, 23), (0, 49), (1, 8), (0, 10), (0, 8), (0, 6), (0, 6), (0, 8), (0, 9), (0, 49), (0, 49), ((-2147483648), 2147483647), ((-2147483648), 2147483647), (0, 5), (0, 7), (1, 1), (1, 24), (0, 23), (0, 49), (0, 49), (0, 49), (0, 99), ((-1), 2), (1, 1), ((-2147483648), 2147483647)]), [(21, [(some 17, 0), (some 24, 0)], [70, 64]), (19, [(some 24, 0), (some 21, 0)], []), (0, [(some 23, 0), (none, 1)], []), (20, [(some 23, 0), (some 15, 0)], [46]), (1, [(some 22, 0), (none, 0)], []), (20, [(some 22, 0), (some 15, 0)], [46]), (0, [(some 15, 0), (none, 1)], []), (20, [(some 21, 0), (some 14, 0)], [67]), (91, [(some 19, 0), (some 20, 0), (some 18, 0), (some 17, 0), (none, 0), (none, 0)], [58, 59, 7, 8, 10, 11, 16, 20, 21, 24, 25, 60, 61, 62, 67, 68, 69]), (2, [(some 17, 0), (some 16, 0)], []), (150, [(some 18, 0), (some 2, 0), (some 3, 0), (some 4, 0), (some 5, 0), (some 6, 0)], [58, 59, 7, 8, 10, 11, 12, 13, 15, 16, 19, 20, 21, 23, 24, 25]), (149, [(some 19, 0), (some 17, 0), (some 2, 0), (some 3, 0), (some 4, 0), (some 5, 0), (some 6, 0), (none, 0), (none, 0)], [7, 8, 10, 11, 12, 13, 15, 16, 19, 20, 21, 23, 24, 25, 58, 60, 61, 62]), (147, [(some 16, 0), (some 14, 0), (some 15, 0), (some 2, 0)], [45, 46]), (161, [(some 17, 0), (some 14, 0), (some 15, 0), (some 2, 0), (some 3, 0), (some 4, 0), (some 5, 0), (some 6, 0), (none, 0), (none, 0)], [7, 8, 10, 11, 12, 13, 15, 16, 19, 20, 21, 23, 24, 25, 46, 41, 42, 43, 44, 63, 64, 65, 66]), (3, [(some 16, 0), (some 17, 0)], []), (3, [(some 15, 0), (none, 0)], []), (3, [(none, 3), (some 15, 0)], []), (3, [(some 14, 0), (none, 0)], []), (2, [(some 14, 0), (some 2, 0)], [])], (161, [(some 17, 1), (some 14, 0), (some 15, 0), (some 2, 0), (some 3, 0), (some 4, 0), (some 5, 0), (some 6, 0), (none, 0), (none, 0)], [7, 8, 10, 11, 12, 13, 15, 16, 19, 20, 21, 23, 24, 25, 46, 41, 42, 43, 44, 63, 70, 65, 66]))
set_option maxRecDepth 20000 in
theorem v_xo_writeC_1_15 {PT : PTy} (hp : HP11 PT) : vcOk PT w_xo_writeC_1_15 := vc_of (fun ρ α hB hF => by
  obtain ⟨f0, f1, f2, f3, f4, f5, f6, f7, f8, f9, f10, f11, f12, f13, f14, f15, f16, f17, f18, -⟩ := hF
  have e91 : PT 91 = P_adE := hp.1.1.1.1.1.1.1.1.2.2.2.2.2.2.2.2.2.2.2.2.1
  have e147 : PT 147 = P_wrX := hp.2.1
  have e149 : PT 149 = P_yi := hp.2.2.2.1
  have e150 : PT 150 = P_ar2 := hp.2.2.2.2.1
  have e161 : PT 161 = P_wcX := hp.2.2.2.2.2.2.2.2.2.2.2.2.2.2.2.1
  simp only [hF0, hF1, hF2, hF3, hF19, hF20, hF21, hFp_91, hFp_147, hFp_149, hFp_150, hFp_161, e91, e147, e149, e150, e161, P_adE, P_wrX, P_yi, P_ar2, P_wcX, den_s, den_c, Int.add_zero, List.map_cons, List.map_nil] at f0 f1 f2 f3 f4 f5 f6 f7 f8 f9 f10 f11 f12 f13 f14 f15 f16 f17 f18 ⊢
  have b2 : (1 : Int) ≤ ρ 2 ∧ ρ 2 ≤ 8 := hB 2 (1, 8) rfl
  have b3 : (0 : Int) ≤ ρ 3 ∧ ρ 3 ≤ 10 := hB 3 (0, 10) rfl
  have b4 : (0 : Int) ≤ ρ 4 ∧ ρ 4 ≤ 8 := hB 4 (0, 8) rfl
  have b5 : (0 : Int) ≤ ρ 5 ∧ ρ 5 ≤ 6 := hB 5 (0, 6) rfl
  have b6 : (0 : Int) ≤ ρ 6 ∧ ρ 6 ≤ 6 := hB 6 (0, 6) rfl
  have b14 : (0 : Int) ≤ ρ 14 ∧ ρ 14 ≤ 7 := hB 14 (0, 7) rfl
  have b15 : (1 : Int) ≤ ρ 15 ∧ ρ 15 ≤ 1 := hB 15 (1, 1) rfl
  have b16 : (1 : Int) ≤ ρ 16 ∧ ρ 16 ≤ 24 := hB 16 (1, 24) rfl
  have b17 : (0 : Int) ≤ ρ 17 ∧ ρ 17 ≤ 23 := hB 17 (0, 23) rfl
  have b18 : (0 : Int) ≤ ρ 18 ∧ ρ 18 ≤ 49 := hB 18 (0, 49) rfl
  have b19 : (0 : Int) ≤ ρ 19 ∧ ρ 19 ≤ 49 := hB 19 (0, 49) rfl
  have b20 : (0 : Int) ≤ ρ 20 ∧ ρ 20 ≤ 49 := hB 20 (0, 49) rfl
  have b21 : (0 : Int) ≤ ρ 21 ∧ ρ 21 ≤ 99 := hB 21 (0, 99) rfl
  have b22 : ((-1) : Int) ≤ ρ 22 ∧ ρ 22 ≤ 2 := hB 22 ((-1), 2) rfl
  have b23 : (1 : Int) ≤ ρ 23 ∧ ρ 23 ≤ 1 := hB 23 (1, 1) rfl
  have b24 : ((-2147483648) : Int) ≤ ρ 24 ∧ ρ 24 ≤ 2147483647 := hB 24 ((-2147483648), 2147483647) rfl
  clear hB
  generalize ρ 2 = r2, ρ 3 = r3, ρ 4 = r4, ρ 5 = r5, ρ 6 = r6, ρ 14 = r14, ρ 15 = r15, ρ 16 = r16, ρ 17 = r17, ρ 18 = r18, ρ 19 = r19, ρ 20 = r20, ρ 21 = r21, ρ 22 = r22, ρ 23 = r23, ρ 24 = r24, α 7 = a7, α 8 = a8, α 10 = a10, α 11 = a11, α 12 = a12, α 13 = a13, α 15 = a15, α 16 = a16, α 19 = a19, α 20 = a20, α 21 = a21, α 23 = a23, α 24 = a24, α 25 = a25, α 41 = a41, α 42 = a42, α 43 = a43, α 44 = a44, α 45 = a45, α 46 = a46, α 58 = a58, α 59 = a59, α 60 = a60, α 61 = a61, α 62 = a62, α 63 = a63, α 64 = a64, α 65 = a65, α 66 = a66, α 67 = a67, α 68 = a68, α 69 = a69, α 70 = a70 at *
  subst f0
  subst f1
  subst f3
  subst f5
  subst f7
  have hy := yI_e (f10).2 (yI_s (f10).2 f11 (by omega) (f8).1) (f8).2
  have hw := f13
  rcases (show r15 = 0 ∨ r15 = 1 ∨ r15 = 2 ∨ r15 = 3 by omega) with z | z | z | z <;> subst z <;> first
    | (exfalso; omega)
    | (refine wcS_s hw (by omega) (by simp only [rowX_0, rowX_1, rowX_2, rowX_3]; rfl) ⟨_, _, _, hy, ?_⟩ (fun t h1 h2 h3 => ?_)
       · unfold cutF
         (repeat' split) <;> first | rfl | (exfalso; omega)
       · rcases (show t = 0 ∨ t = 1 ∨ t = 2 ∨ t = 3 by omega) with y | y | y | y <;> subst y <;> first | (exact absurd rfl h3) | (simp only [rowX_0, rowX_1, rowX_2, rowX_3])))
def w_xo_writeC_1_16 : VC := (([(0, 23), (0, 49), (1, 8), (0, 10), (0, 8), (0, 6), (0, 6), (0, 8), (0, 9), (0, 49), (0, 49), ((-2147483648), 2147483647), ((-2147483648), 2147483647), (0, 5), (0, 7), (1, 1), (1, 24), (0, 23), (0, 49), (0, 49), (0, 49), (0, 99), ((-1), 2), (1, 1), ((-2147483648), 2147483647)]), [(21, [(some 17, 0), (some 24, 0)], [70, 64]), (19, [(some 24, 0), (some 21, 0)], []), (0, [(some 23, 0), (none, 1)], []), (20, [(some 23, 0), (some 15, 0)], [46]), (1, [(some 22, 0), (none, 0)], []), (20, [(some 22, 0), (some 15, 0)], [46]), (0, [(some 15, 0), (none, 1)], []), (20, [(some 21, 0), (some 14, 0)], [67]), (91, [(some 19, 0), (some 20, 0), (some 18, 0), (some 17, 0), (none, 0), (none, 0)], [58, 59, 7, 8, 10, 11, 16, 20, 21, 24, 25, 60, 61, 62, 67, 68, 69]), (2, [(some 17, 0), (some 16, 0)], []), (150, [(some 18, 0), (some 2, 0), (some 3, 0), (some 4, 0), (some 5, 0), (some 6, 0)], [58, 59, 7, 8, 10, 11, 12, 13, 15, 16, 19, 20, 21, 23, 24, 25]), (149, [(some 19, 0), (some 17, 0), (some 2, 0), (some 3, 0), (some 4, 0), (some 5, 0), (some 6, 0), (none, 0), (none, 0)], [7, 8, 10, 11, 12, 13, 15, 16, 19, 20, 21, 23, 24, 25, 58, 60, 61, 62]), (147, [(some 16, 0), (some 14, 0), (some 15, 0), (some 2, 0)], [45, 46]), (161, [(some 17, 0), (some 14, 0), (some 15, 0), (some 2, 0), (some 3, 0), (some 4, 0), (some 5, 0), (some 6, 0), (none, 0), (none, 0)], [7, 8, 10, 11, 12, 13, 15, 16, 19, 20, 21, 23, 24, 25, 46, 41, 42, 43, 44, 63, 64, 65, 66]), (3, [(some 16, 0), (some 17, 0)], []), (3, [(some 15, 0), (none, 0)], []), (3, [(none, 3), (some 15, 0)], []), (3, [(some 14, 0), (none, 0)], []), (2, [(some 14, 0), (some 2, 0)], [])], (3, [(some 16, 0), (some 17, 1)], []))
set_option maxRecDepth 20000 in
theorem v_xo_writeC_1_16 {PT : PTy} (hp : HP11 PT) : vcOk PT w_xo_writeC_1_16 := vc_of (fun ρ α hB hF => by
  obtain ⟨f0, f1, f2, f3, f4, f5, f6, f7, f8, f9, f10, f11, f12, f13, f14, f15, f16, f17, f18, -⟩ := hF
  have e91 : PT 91 = P_adE := hp.1.1.1.1.1.1.1.1.2.2.2.2.2.2.2.2.2.2.2.2.1
  have e147 : PT 147 = P_wrX := hp.2.1
  have e149 : PT 149 = P_yi := hp.2.2.2.1
  have e150 : PT 150 = P_ar2 := hp.2.2.2.2.1
  have e161 : PT 161 = P_wcX := hp.2.2.2.2.2.2.2.2.2.2.2.2.2.2.2.1
  simp only [hF0, hF1, hF2, hF3, hF19, hF20, hF21, hFp_91, hFp_147, hFp_149, hFp_150, hFp_161, e91, e147, e149, e150, e161, P_adE, P_wrX, P_yi, P_ar2, P_wcX, den_s, den_c, Int.add_zero, List.map_cons, List.map_nil] at f0 f1 f2 f3 f4 f5 f6 f7 f8 f9 f10 f11 f12 f13 f14 f15 f16 f17 f18 ⊢
  have b2 : (1 : Int) ≤ ρ 2 ∧ ρ 2 ≤ 8 := hB 2 (1, 8) rfl
  have b3 : (0 : Int) ≤ ρ 3 ∧ ρ 3 ≤ 10 := hB 3 (0, 10) rfl
  have b4 : (0 : Int) ≤ ρ 4 ∧ ρ 4 ≤ 8 := hB 4 (0, 8) rfl
  have b5 : (0 : Int) ≤ ρ 5 ∧ ρ 5 ≤ 6 := hB 5 (0, 6) rfl
  have b6 : (0 : Int) ≤ ρ 6 ∧ ρ 6 ≤ 6 := hB 6 (0, 6) rfl
  have b14 : (0 : Int) ≤ ρ 14 ∧ ρ 14 ≤ 7 := hB 14 (0, 7) rfl
  have b15 : (1 : Int) ≤ ρ 15 ∧ ρ 15 ≤ 1 := hB 15 (1, 1) rfl
  have b16 : (1 : Int) ≤ ρ 16 ∧ ρ 16 ≤ 24 := hB 16 (1, 24) rfl
  have b17 : (0 : Int) ≤ ρ 17 ∧ ρ 17 ≤ 23 := hB 17 (0, 23) rfl
  have b18 : (0 : Int) ≤ ρ 18 ∧ ρ 18 ≤ 49 := hB 18 (0, 49) rfl
  have b19 : (0 : Int) ≤ ρ 19 ∧ ρ 19 ≤ 49 := hB 19 (0, 49) rfl
  have b20 : (0 : Int) ≤ ρ 20 ∧ ρ 20 ≤ 49 := hB 20 (0, 49) rfl
  have b21 : (0 : Int) ≤ ρ 21 ∧ ρ 21 ≤ 99 := hB 21 (0, 99) rfl
  have b22 : ((-1) : Int) ≤ ρ 22 ∧ ρ 22 ≤ 2 := hB 22 ((-1), 2) rfl
  have b23 : (1 : Int) ≤ ρ 23 ∧ ρ 23 ≤ 1 := hB 23 (1, 1) rfl
  have b24 : ((-2147483648) : Int) ≤ ρ 24 ∧ ρ 24 ≤ 2147483647 := hB 24 ((-2147483648), 2147483647) rfl
  clear hB
  generalize ρ 2 = r2, ρ 3 = r3, ρ 4 = r4, ρ 5 = r5, ρ 6 = r6, ρ 14 = r14, ρ 15 = r15, ρ 16 = r16, ρ 17 = r17, ρ 18 = r18, ρ 19 = r19, ρ 20 = r20, ρ 21 = r21, ρ 22 = r22, ρ 23 = r23, ρ 24 = r24, α 7 = a7, α 8 = a8, α 10 = a10, α 11 = a11, α 12 = a12, α 13 = a13, α 15 = a15, α 16 = a16, α 19 = a19, α 20 = a20, α 21 = a21, α 23 = a23, α 24 = a24, α 25 = a25, α 41 = a41, α 42 = a42, α 43 = a43, α 44 = a44, α 45 = a45, α 46 = a46, α 58 = a58, α 59 = a59, α 60 = a60, α 61 = a61, α 62 = a62, α 63 = a63, α 64 = a64, α 65 = a65, α 66 = a66, α 67 = a67, α 68 = a68, α 69 = a69, α 70 = a70 at *
  subst f0
  subst f1
  subst f3
  subst f5
  subst f7
  ((repeat' (first | apply And.intro | intro h)) <;> first | omega | rfl | trivial | (exfalso; omega)))
def w_xo_writeC_1_17 : VC := (([(0, 23), (0, 49), (1, 8), (0, 10), (0, 8), (0, 6), (0, 6), (0, 8), (0, 9), (0, 49), (0, 49), ((-2147483648), 2147483647), ((-2147483648), 2147483647), (0, 5), (0, 7), (1, 1), (1, 24), (0, 23), (0, 49), (0, 49), (0, 49), (0, 99), (0, 0), ((-2147483648), 2147483647)]), [(21, [(some 17, 0), (some 23, 0)], [70, 64]), (18, [(some 23, 0), (some 21, 0)], []), (0, [(some 22, 0), (none, 0)], []), (20, [(some 22, 0), (some 15, 0)], [46]), (0, [(some 15, 0), (none, 1)], []), (20, [(some 21, 0), (some 14, 0)], [67]), (91, [(some 19, 0), (some 20, 0), (some 18, 0), (some 17, 0), (none, 0), (none, 0)], [58, 59, 7, 8, 10, 11, 16, 20, 21, 24, 25, 60, 61, 62, 67, 68, 69]), (2, [(some 17, 0), (some 16, 0)], []), (150, [(some 18, 0), (some 2, 0), (some 3, 0), (some 4, 0), (some 5, 0), (some 6, 0)], [58, 59, 7, 8, 10, 11, 12, 13, 15, 16, 19, 20, 21, 23, 24, 25]), (149, [(some 19, 0), (some 17, 0), (some 2, 0), (some 3, 0), (some 4, 0), (some 5, 0), (some 6, 0), (none, 0), (none, 0)], [7, 8, 10, 11, 12, 13, 15, 16, 19, 20, 21, 23, 24, 25, 58, 60, 61, 62]), (147, [(some 16, 0), (some 14, 0), (some 15, 0), (some 2, 0)], [45, 46]), (161, [(some 17, 0), (some 14, 0), (some 15, 0), (some 2, 0), (some 3, 0), (some 4, 0), (some 5, 0), (some 6, 0), (none, 0), (none, 0)], [7, 8, 10, 11, 12, 13, 15, 16, 19, 20, 21, 23, 24, 25, 46, 41, 42, 43, 44, 63, 64, 65, 66]), (3, [(some 16, 0), (some 17, 0)], []), (3, [(some 15, 0), (none, 0)], []), (3, [(none, 3), (some 15, 0)], []), (3, [(some 14, 0), (none, 0)], []), (2, [(some 14, 0), (some 2, 0)], [])], (149, [(some 20, 0), (some 17, 1), (some 2, 0), (some 3, 0), (some 4, 0), (some 5, 0), (some 6, 0), (none, 0), (none, 0)], [7, 8, 10, 11, 12, 13, 15, 16, 19, 20, 21, 23, 24, 25, 58, 67, 68, 69]))
set_option maxRecDepth 20000 in
theorem v_xo_writeC_1_17 {PT : PTy} (hp : HP11 PT) : vcOk PT w_xo_writeC_1_17 := vc_of (fun ρ α hB hF => by
  obtain ⟨f0, f1, f2, f3, f4, f5, f6, f7, f8, f9, f10, f11, f12, f13, f14, f15, f16, -⟩ := hF
  have e91 : PT 91 = P_adE := hp.1.1.1.1.1.1.1.1.2.2.2.2.2.2.2.2.2.2.2.2.1
  have e147 : PT 147 = P_wrX := hp.2.1
  have e149 : PT 149 = P_yi := hp.2.2.2.1
  have e150 : PT 150 = P_ar2 := hp.2.2.2.2.1
  have e161 : PT 161 = P_wcX := hp.2.2.2.2.2.2.2.2.2.2.2.2.2.2.2.1
  simp only [hF0, hF2, hF3, hF18, hF20, hF21, hFp_91, hFp_147, hFp_149, hFp_150, hFp_161, e91, e147, e149, e150, e161, P_adE, P_wrX, P_yi, P_ar2, P_wcX, den_s, den_c, Int.add_zero, List.map_cons, List.map_nil] at f0 f1 f2 f3 f4 f5 f6 f7 f8 f9 f10 f11 f12 f13 f14 f15 f16 ⊢
  have b2 : (1 : Int) ≤ ρ 2 ∧ ρ 2 ≤ 8 := hB 2 (1, 8) rfl
  have b3 : (0 : Int) ≤ ρ 3 ∧ ρ 3 ≤ 10 := hB 3 (0, 10) rfl
  have b4 : (0 : Int) ≤ ρ 4 ∧ ρ 4 ≤ 8 := hB 4 (0, 8) rfl
  have b5 : (0 : Int) ≤ ρ 5 ∧ ρ 5 ≤ 6 := hB 5 (0, 6) rfl
  have b6 : (0 : Int) ≤ ρ 6 ∧ ρ 6 ≤ 6 := hB 6 (0, 6) rfl
  have b14 : (0 : Int) ≤ ρ 14 ∧ ρ 14 ≤ 7 := hB 14 (0, 7) rfl
  have b15 : (1 : Int) ≤ ρ 15 ∧ ρ 15 ≤ 1 := hB 15 (1, 1) rfl
  have b16 : (1 : Int) ≤ ρ 16 ∧ ρ 16 ≤ 24 := hB 16 (1, 24) rfl
  have b17 : (0 : Int) ≤ ρ 17 ∧ ρ 17 ≤ 23 := hB 17 (0, 23) rfl
  have b18 : (0 : Int) ≤ ρ 18 ∧ ρ 18 ≤ 49 := hB 18 (0, 49) rfl
  have b19 : (0 : Int) ≤ ρ 19 ∧ ρ 19 ≤ 49 := hB 19 (0, 49) rfl
  have b20 : (0 : Int) ≤ ρ 20 ∧ ρ 20 ≤ 49 := hB 20 (0, 49) rfl
  have b21 : (0 : Int) ≤ ρ 21 ∧ ρ 21 ≤ 99 := hB 21 (0, 99) rfl
  have b22 : (0 : Int) ≤ ρ 22 ∧ ρ 22 ≤ 0 := hB 22 (0, 0) rfl
  have b23 : ((-2147483648) : Int) ≤ ρ 23 ∧ ρ 23 ≤ 2147483647 := hB 23 ((-2147483648), 2147483647) rfl
  exact yI_s (f8).2 f9 (by omega) (f6).1)
def w_xo_writeC_1_18 : VC := (([(0, 23), (0, 49), (1, 8), (0, 10), (0, 8), (0, 6), (0, 6), (0, 8), (0, 9), (0, 49), (0, 49), ((-2147483648), 2147483647), ((-2147483648), 2147483647), (0, 5), (0, 7), (1, 1), (1, 24), (0, 23), (0, 49), (0, 49), (0, 49), (0, 99), (0, 0), ((-2147483648), 2147483647)]), [(21, [(some 17, 0), (some 23, 0)], [70, 64]), (18, [(some 23, 0), (some 21, 0)], []), (0, [(some 22, 0), (none, 0)], []), (20, [(some 22, 0), (some 15, 0)], [46]), (0, [(some 15, 0), (none, 1)], []), (20, [(some 21, 0), (some 14, 0)], [67]), (91, [(some 19, 0), (some 20, 0), (some 18, 0), (some 17, 0), (none, 0), (none, 0)], [58, 59, 7, 8, 10, 11, 16, 20, 21, 24, 25, 60, 61, 62, 67, 68, 69]), (2, [(some 17, 0), (some 16, 0)], []), (150, [(some 18, 0), (some 2, 0), (some 3, 0), (some 4, 0), (some 5, 0), (some 6, 0)], [58, 59, 7, 8, 10, 11, 12, 13, 15, 16, 19, 20, 21, 23, 24, 25]), (149, [(some 19, 0), (some 17, 0), (some 2, 0), (some 3, 0), (some 4, 0), (some 5, 0), (some 6, 0), (none, 0), (none, 0)], [7, 8, 10, 11, 12, 13, 15, 16, 19, 20, 21, 23, 24, 25, 58, 60, 61, 62]), (147, [(some 16, 0), (some 14, 0), (some 15, 0), (some 2, 0)], [45, 46]), (161, [(some 17, 0), (some 14, 0), (some 15, 0), (some 2, 0), (some 3, 0), (some 4, 0), (some 5, 0), (some 6, 0), (none, 0), (none, 0)], [7, 8, 10, 11, 12, 13, 15, 16, 19, 20, 21, 23, 24, 25, 46, 41, 42, 43, 44, 63, 64, 65, 66]), (3, [(some 16, 0), (some 17, 0)], []), (3, [(some 15, 0), (none, 0)], []), (3, [(none, 3), (some 15, 0)], []), (3, [(some 14, 0), (none, 0)], []), (2, [(some 14, 0), (some 2, 0)], [])], (161, [(some 17, 1), (some 14, 0), (some 15, 0), (some 2, 0), (some 3, 0), (some 4, 0), (some 5, 0), (some 6, 0), (none, 0), (none, 0)], [7, 8, 10, 11, 12, 13, 15, 16, 19, 20, 21, 23, 24, 25, 46, 41, 42, 43, 44, 63, 70, 65, 66]))
set_option maxRecDepth 20000 in
theorem v_xo_writeC_1_18 {PT : PTy} (hp : HP11 PT) : vcOk PT w_xo_writeC_1_18 := vc_of (fun ρ α hB hF => by
  obtain ⟨f0, f1, f2, f3, f4, f5, f6, f7, f8, f9, f10, f11, f12, f13, f14, f15, f16, -⟩ := hF
  have e91 : PT 91 = P_adE := hp.1.1.1.1.1.1.1.1.2.2.2.2.2.2.2.2.2.2.2.2.1
  have e147 : PT 147 = P_wrX := hp.2.1
  have e149 : PT 149 = P_yi := hp.2.2.2.1
  have e150 : PT 150 = P_ar2 := hp.2.2.2.2.1
  have e161 : PT 161 = P_wcX := hp.2.2.2.2.2.2.2.2.2.2.2.2.2.2.2.1
  simp only [hF0, hF2, hF3, hF18, hF20, hF21, hFp_91, hFp_147, hFp_149, hFp_150, hFp_161, e91, e147, e149, e150, e161, P_adE, P_wrX, P_yi, P_ar2, P_wcX, den_s, den_c, Int.add_zero, List.map_cons, List.map_nil] at f0 f1 f2 f3 f4 f5 f6 f7 f8 f9 f10 f11 f12 f13 f14 f15 f16 ⊢
  have b2 : (1 : Int) ≤ ρ 2 ∧ ρ 2 ≤ 8 := hB 2 (1, 8) rfl
  have b3 : (0 : Int) ≤ ρ 3 ∧ ρ 3 ≤ 10 := hB 3 (0, 10) rfl
  have b4 : (0 : Int) ≤ ρ 4 ∧ ρ 4 ≤ 8 := hB 4 (0, 8) rfl
  have b5 : (0 : Int) ≤ ρ 5 ∧ ρ 5 ≤ 6 := hB 5 (0, 6) rfl
  have b6 : (0 : Int) ≤ ρ 6 ∧ ρ 6 ≤ 6 := hB 6 (0, 6) rfl
  have b14 : (0 : Int) ≤ ρ 14 ∧ ρ 14 ≤ 7 := hB 14 (0, 7) rfl
  have b15 : (1 : Int) ≤ ρ 15 ∧ ρ 15 ≤ 1 := hB 15 (1, 1) rfl
  have b16 : (1 : Int) ≤ ρ 16 ∧ ρ 16 ≤ 24 := hB 16 (1, 24) rfl
  have b17 : (0 : Int) ≤ ρ 17 ∧ ρ 17 ≤ 23 := hB 17 (0, 23) rfl
  have b18 : (0 : Int) ≤ ρ 18 ∧ ρ 18 ≤ 49 := hB 18 (0, 49) rfl
  have b19 : (0 : Int) ≤ ρ 19 ∧ ρ 19 ≤ 49 := hB 19 (0, 49) rfl
  have b20 : (0 : Int) ≤ ρ 20 ∧ ρ 20 ≤ 49 := hB 20 (0, 49) rfl
  have b21 : (0 : Int) ≤ ρ 21 ∧ ρ 21 ≤ 99 := hB 21 (0, 99) rfl
  have b22 : (0 : Int) ≤ ρ 22 ∧ ρ 22 ≤ 0 := hB 22 (0, 0) rfl
  have b23 : ((-2147483648) : Int) ≤ ρ 23 ∧ ρ 23 ≤ 2147483647 := hB 23 ((-2147483648), 2147483647) rfl
  clear hB
  generalize ρ 2 = r2, ρ 3 = r3, ρ 4 = r4, ρ 5 = r5, ρ 6 = r6, ρ 14 = r14, ρ 15 = r15, ρ 16 = r16, ρ 17 = r17, ρ 18 = r18, ρ 19 = r19, ρ 20 = r20, ρ 21 = r21, ρ 22 = r22, ρ 23 = r23, α 7 = a7, α 8 = a8, α 10 = a10, α 11 = a11, α 12 = a12, α 13 = a13, α 15 = a15, α 16 = a16, α 19 = a19, α 20 = a20, α 21 = a21, α 23 = a23, α 24 = a24, α 25 = a25, α 41 = a41, α 42 = a42, α 43 = a43, α 44 = a44, α 45 = a45, α 46 = a46, α 58 = a58, α 59 = a59, α 60 = a60, α 61 = a61, α 62 = a62, α 63 = a63, α 64 = a64, α 65 = a65, α 66 = a66, α 67 = a67, α 68 = a68, α 69 = a69, α 70 = a70 at *
  subst f0
  subst f1
  subst f3
  subst f5
  have hy := yI_e (f8).2 (yI_s (f8).2 f9 (by omega) (f6).1) (f6).2
  have hw := f11
  rcases (show r15 = 0 ∨ r15 = 1 ∨ r15 = 2 ∨ r15 = 3 by omega) with z | z | z | z <;> subst z <;> first
    | (exfalso; omega)
    | (refine wcS_s hw (by omega) (by simp only [rowX_0, rowX_1, rowX_2, rowX_3]; rfl) ⟨_, _, _, hy, ?_⟩ (fun t h1 h2 h3 => ?_)
       · unfold cutF
         (repeat' split) <;> first | rfl | (exfalso; omega)
       · rcases (show t = 0 ∨ t = 1 ∨ t = 2 ∨ t = 3 by omega) with y | y | y | y <;> subst y <;> first | (exact absurd rfl h3) | (simp only [rowX_0, rowX_1, rowX_2, rowX_3])))
def w_xo_writeC_1_19 : VC := (([(0, 23), (0, 49), (1, 8), (0, 10), (0, 8), (0, 6), (0, 6), (0, 8), (0, 9), (0, 49), (0, 49), ((-2147483648), 2147483647), ((-2147483648), 2147483647), (0, 5), (0, 7), (1, 1), (1, 24), (0, 23), (0, 49), (0, 49), (0, 49), (0, 99), (0, 0), ((-2147483648), 2147483647)]), [(21, [(some 17, 0), (some 23, 0)], [70, 64]), (18, [(some 23, 0), (some 21, 0)], []), (0, [(some 22, 0), (none, 0)], []), (20, [(some 22, 0), (some 15, 0)], [46]), (0, [(some 15, 0), (none, 1)], []), (20, [(some 21, 0), (some 14, 0)], [67]), (91, [(some 19, 0), (some 20, 0), (some 18, 0), (some 17, 0), (none, 0), (none, 0)], [58, 59, 7, 8, 10, 11, 16, 20, 21, 24, 25, 60, 61, 62, 67, 68, 69]), (2, [(some 17, 0), (some 16, 0)], []), (150, [(some 18, 0), (some 2, 0), (some 3, 0), (some 4, 0), (some 5, 0), (some 6, 0)], [58, 59, 7, 8, 10, 11, 12, 13, 15, 16, 19, 20, 21, 23, 24, 25]), (149, [(some 19, 0), (some 17, 0), (some 2, 0), (some 3, 0), (some 4, 0), (some 5, 0), (some 6, 0), (none, 0), (none, 0)], [7, 8, 10, 11, 12, 13, 15, 16, 19, 20, 21, 23, 24, 25, 58, 60, 61, 62]), (147, [(some 16, 0), (some 14, 0), (some 15, 0), (some 2, 0)], [45, 46]), (161, [(some 17, 0), (some 14, 0), (some 15, 0), (some 2, 0), (some 3, 0), (some 4, 0), (some 5, 0), (some 6, 0), (none, 0), (none, 0)], [7, 8, 10, 11, 12, 13, 15, 16, 19, 20, 21, 23, 24, 25, 46, 41, 42, 43, 44, 63, 64, 65, 66]), (3, [(some 16, 0), (some 17, 0)], []), (3, [(some 15, 0), (none, 0)], []), (3, [(none, 3), (some 15, 0)], []), (3, [(some 14, 0), (none, 0)], []), (2, [(some 14, 0), (some 2, 0)], [])], (3, [(some 16, 0), (some 17, 1)], []))
set_option maxRecDepth 20000 in
theorem v_xo_writeC_1_19 {PT : PTy} (hp : HP11 PT) : vcOk PT w_xo_writeC_1_19 := vc_of (fun ρ α hB hF => by
  obtain ⟨f0, f1, f2, f3, f4, f5, f6, f7, f8, f9, f10, f11, f12, f13, f14, f15, f16, -⟩ := hF
  have e91 : PT 91 = P_adE := hp.1.1.1.1.1.1.1.1.2.2.2.2.2.2.2.2.2.2.2.2.1
  have e147 : PT 147 = P_wrX := hp.2.1
  have e149 : PT 149 = P_yi := hp.2.2.2.1
  have e150 : PT 150 = P_ar2 := hp.2.2.2.2.1
  have e161 : PT 161 = P_wcX := hp.2.2.2.2.2.2.2.2.2.2.2.2.2.2.2.1
  simp only [hF0, hF2, hF3, hF18, hF20, hF21, hFp_91, hFp_147, hFp_149, hFp_150, hFp_161, e91, e147, e149, e150, e161, P_adE, P_wrX, P_yi, P_ar2, P_wcX, den_s, den_c, Int.add_zero, List.map_cons, List.map_nil] at f0 f1 f2 f3 f4 f5 f6 f7 f8 f9 f10 f11 f12 f13 f14 f15 f16 ⊢
  have b2 : (1 : Int) ≤ ρ 2 ∧ ρ 2 ≤ 8 := hB 2 (1, 8) rfl
  have b3 : (0 : Int) ≤ ρ 3 ∧ ρ 3 ≤ 10 := hB 3 (0, 10) rfl
  have b4 : (0 : Int) ≤ ρ 4 ∧ ρ 4 ≤ 8 := hB 4 (0, 8) rfl
  have b5 : (0 : Int) ≤ ρ 5 ∧ ρ 5 ≤ 6 := hB 5 (0, 6) rfl
  have b6 : (0 : Int) ≤ ρ 6 ∧ ρ 6 ≤ 6 := hB 6 (0, 6) rfl
  have b14 : (0 : Int) ≤ ρ 14 ∧ ρ 14 ≤ 7 := hB 14 (0, 7) rfl
  have b15 : (1 : Int) ≤ ρ 15 ∧ ρ 15 ≤ 1 := hB 15 (1, 1) rfl
  have b16 : (1 : Int) ≤ ρ 16 ∧ ρ 16 ≤ 24 := hB 16 (1, 24) rfl
  have b17 : (0 : Int) ≤ ρ 17 ∧ ρ 17 ≤ 23 := hB 17 (0, 23) rfl
  have b18 : (0 : Int) ≤ ρ 18 ∧ ρ 18 ≤ 49 := hB 18 (0, 49) rfl
  have b19 : (0 : Int) ≤ ρ 19 ∧ ρ 19 ≤ 49 := hB 19 (0, 49) rfl
  have b20 : (0 : Int) ≤ ρ 20 ∧ ρ 20 ≤ 49 := hB 20 (0, 49) rfl
  have b21 : (0 : Int) ≤ ρ 21 ∧ ρ 21 ≤ 99 := hB 21 (0, 99) rfl
  have b22 : (0 : Int) ≤ ρ 22 ∧ ρ 22 ≤ 0 := hB 22 (0, 0) rfl
  have b23 : ((-2147483648) : Int) ≤ ρ 23 ∧ ρ 23 ≤ 2147483647 := hB 23 ((-2147483648), 2147483647) rfl
  clear hB
  generalize ρ 2 = r2, ρ 3 = r3, ρ 4 = r4, ρ 5 = r5, ρ 6 = r6, ρ 14 = r14, ρ 15 = r15, ρ 16 = r16, ρ 17 = r17, ρ 18 = r18, ρ 19 = r19, ρ 20 = r20, ρ 21 = r21, ρ 22 = r22, ρ 23 = r23, α 7 = a7, α 8 = a8, α 10 = a10, α 11 = a11, α 12 = a12, α 13 = a13, α 15 = a15, α 16 = a16, α 19 = a19, α 20 = a20, α 21 = a21, α 23 = a23, α 24 = a24, α 25 = a25, α 41 = a41, α 42 = a42, α 43 = a43, α 44 = a44, α 45 = a45, α 46 = a46, α 58 = a58, α 59 = a59, α 60 = a60, α 61 = a61, α 62 = a62, α 63 = a63, α 64 = a64, α 65 = a65, α 66 = a66, α 67 = a67, α 68 = a68, α 69 = a69, α 70 = a70 at *
  subst f0
  subst f1
  subst f3
  subst f5
  ((repeat' (first | apply And.intro | intro h)) <;> first | omega | rfl | trivial | (exfalso; omega)))
def w_xo_writeC_1_20 : VC := (([(0, 23), (0, 49), (1, 8), (0, 10), (0, 8), (0, 6), (0, 6), (0, 8), (0, 9), (0, 49), (0, 49), ((-2147483648), 2147483647), ((-2147483648), 2147483647), (0, 5), (0, 7), (2, 2), (1, 24), (0, 23), (0, 49), (0, 49), (0, 49), (0, 99), ((-1), 2), ((-1), 2)]), [(21, [(some 17, 0), (some 21, 0)], [70, 65]), (1, [(some 23, 0), (none, 1)], []), (20, [(some 23, 0), (some 15, 0)], [46]), (1, [(some 22, 0), (none, 0)], []), (20, [(some 22, 0), (some 15, 0)], [46]), (0, [(some 15, 0), (none, 2)], []), (20, [(some 21, 0), (some 14, 0)], [67]), (91, [(some 19, 0), (some 20, 0), (some 18, 0), (some 17, 0), (none, 0), (none, 0)], [58, 59, 7, 8, 10, 11, 16, 20, 21, 24, 25, 60, 61, 62, 67, 68, 69]), (2, [(some 17, 0), (some 16, 0)], []), (150, [(some 18, 0), (some 2, 0), (some 3, 0), (some 4, 0), (some 5, 0), (some 6, 0)], [58, 59, 7, 8, 10, 11, 12, 13, 15, 16, 19, 20, 21, 23, 24, 25]), (149, [(some 19, 0), (some 17, 0), (some 2, 0), (some 3, 0), (some 4, 0), (some 5, 0), (some 6, 0), (none, 0), (none, 0)], [7, 8, 10, 11, 12, 13, 15, 16, 19, 20, 21, 23, 24, 25, 58, 60, 61, 62]), (147, [(some 16, 0), (some 14, 0), (some 15, 0), (some 2, 0)], [45, 46]), (161, [(some 17, 0), (some 14, 0), (some 15, 0), (some 2, 0), (some 3, 0), (some 4, 0), (some 5, 0), (some 6, 0), (none, 0), (none, 0)], [7, 8, 10, 11, 12, 13, 15, 16, 19, 20, 21, 23, 24, 25, 46, 41, 42, 43, 44, 63, 64, 65, 66]), (3, [(some 16, 0), (some 17, 0)], []), (3, [(some 15, 0), (none, 0)], []), (3, [(none, 3), (some 15, 0)], []), (3, [(some 14, 0), (none, 0)], []), (2, [(some 14, 0), (some 2, 0)], [])], (149, [(some 20, 0), (some 17, 1), (some 2, 0), (some 3, 0), (some 4, 0), (some 5, 0), (some 6, 0), (none, 0), (none, 0)], [7, 8, 10, 11, 12, 13, 15, 16, 19, 20, 21, 23, 24, 25, 58, 67, 68, 69]))
set_option maxRecDepth 20000 in
theorem v_xo_writeC_1_20 {PT : PTy} (hp : HP11 PT) : vcOk PT w_xo_writeC_1_20 := vc_of (fun ρ α hB hF => by
  obtain ⟨f0, f1, f2, f3, f4, f5, f6, f7, f8, f9, f10, f11, f12, f13, f14, f15, f16, f17, -⟩ := hF
  have e91 : PT 91 = P_adE := hp.1.1.1.1.1.1.1.1.2.2.2.2.2.2.2.2.2.2.2.2.1
  have e147 : PT 147 = P_wrX := hp.2.1
  have e149 : PT 149 = P_yi := hp.2.2.2.1
  have e150 : PT 150 = P_ar2 := hp.2.2.2.2.1
  have e161 : PT 161 = P_wcX := hp.2.2.2.2.2.2.2.2.2.2.2.2.2.2.2.1
  simp only [hF0, hF1, hF2, hF3, hF20, hF21, hFp_91, hFp_147, hFp_149, hFp_150, hFp_161, e91, e147, e149, e150, e161, P_adE, P_wrX, P_yi, P_ar2, P_wcX, den_s, den_c, Int.add_zero, List.map_cons, List.map_nil] at f0 f1 f2 f3 f4 f5 f6 f7 f8 f9 f10 f11 f12 f13 f14 f15 f16 f17 ⊢
  have b2 : (1 : Int) ≤ ρ 2 ∧ ρ 2 ≤ 8 := hB 2 (1, 8) rfl
  have b3 : (0 : Int) ≤ ρ 3 ∧ ρ 3 ≤ 10 := hB 3 (0, 10) rfl
  have b4 : (0 : Int) ≤ ρ 4 ∧ ρ 4 ≤ 8 := hB 4 (0, 8) rfl
  have b5 : (0 : Int) ≤ ρ 5 ∧ ρ 5 ≤ 6 := hB 5 (0, 6) rfl
  have b6 : (0 : Int) ≤ ρ 6 ∧ ρ 6 ≤ 6 := hB 6 (0, 6) rfl
  have b14 : (0 : Int) ≤ ρ 14 ∧ ρ 14 ≤ 7 := hB 14 (0, 7) rfl
  have b15 : (2 : Int) ≤ ρ 15 ∧ ρ 15 ≤ 2 := hB 15 (2, 2) rfl
  have b16 : (1 : Int) ≤ ρ 16 ∧ ρ 16 ≤ 24 := hB 16 (1, 24) rfl
  have b17 : (0 : Int) ≤ ρ 17 ∧ ρ 17 ≤ 23 := hB 17 (0, 23) rfl
  have b18 : (0 : Int) ≤ ρ 18 ∧ ρ 18 ≤ 49 := hB 18 (0, 49) rfl
  have b19 : (0 : Int) ≤ ρ 19 ∧ ρ 19 ≤ 49 := hB 19 (0, 49) rfl
  have b20 : (0 : Int) ≤ ρ 20 ∧ ρ 20 ≤ 49 := hB 20 (0, 49) rfl
  have b21 : (0 : Int) ≤ ρ 21 ∧ ρ 21 ≤ 99 := hB 21 (0, 99) rfl
  have b22 : ((-1) : Int) ≤ ρ 22 ∧ ρ 22 ≤ 2 := hB 22 ((-1), 2) rfl
  have b23 : ((-1) : Int) ≤ ρ 23 ∧ ρ 23 ≤ 2 := hB 23 ((-1), 2) rfl
  exact yI_s (f9).2 f10 (by omega) (f7).1)
def w_xo_writeC_1_21 : VC := (([(0, 23), (0, 49), (1, 8), (0, 10), (0, 8), (0, 6), (0, 6), (0, 8), (0, 9), (0, 49), (0, 49), ((-2147483648), 2147483647), ((-2147483648), 2147483647), (0, 5), (0, 7), (2, 2), (1, 24), (0, 23), (0, 49), (0, 49), (0, 49), (0, 99), ((-1), 2), ((-1), 2)]), [(21, [(some 17, 0), (some 21, 0)], [70, 65]), (1, [(some 23, 0), (none, 1)], []), (20, [(some 23, 0), (some 15, 0)], [46]), (1, [(some 22, 0), (none, 0)], []), (20, [(some 22, 0), (some 15, 0)], [46]), (0, [(some 15, 0), (none, 2)], []), (20, [(some 21, 0), (some 14, 0)], [67]), (91, [(some 19, 0), (some 20, 0), (some 18, 0), (some 17, 0), (none, 0), (none, 0)], [58, 59, 7, 8, 10, 11, 16, 20, 21, 24, 25, 60, 61, 62, 67, 68, 69]), (2, [(some 17, 0), (some 16, 0)], []), (150, [(some 18, 0), (some 2, 0), (some 3, 0), (some 4, 0), (some 5, 0), (some 6, 0)], [58, 59, 7, 8, 10, 11, 12, 13, 15, 16, 19, 20, 21, 23, 24, 25]), (149, [(some 19, 0), (some 17, 0), (some 2, 0), (some 3, 0), (some 4, 0), (some 5, 0), (some 6, 0), (none, 0), (none, 0)], [7, 8, 10, 11, 12, 13, 15, 16, 19, 20, 21, 23, 24, 25, 58, 60, 61, 62]), (147, [(some 16, 0), (some 14, 0), (some 15, 0), (some 2, 0)], [45, 46]), (161, [(some 17, 0), (some 14, 0), (some 15, 0), (some 2, 0), (some 3, 0), (some 4, 0), (some 5, 0), (some 6, 0), (none, 0), (none, 0)], [7, 8, 10, 11, 12, 13, 15, 16, 19, 20, 21, 23, 24, 25, 46, 41, 42, 43, 44, 63, 64, 65, 66]), (3, [(some 16, 0), (some 17, 0)], []), (3, [(some 15, 0), (none, 0)], []), (3, [(none, 3), (some 15, 0)], []), (3, [(some 14, 0), (none, 0)], []), (2, [(some 14, 0), (some 2, 0)], [])], (161, [(some 17, 1), (some 14, 0), (some 15, 0), (some 2, 0), (some 3, 0), (some 4, 0), (some 5, 0), (some 6, 0), (none, 0), (none, 0)], [7, 8, 10, 11, 12, 13, 15, 16, 19, 20, 21, 23, 24, 25, 46, 41, 42, 43, 44, 63, 64, 70, 66]))
set_option maxRecDepth 20000 in
theorem v_xo_writeC_1_21 {PT : PTy} (hp : HP11 PT) : vcOk PT w_xo_writeC_1_21 := vc_of (fun ρ α hB hF => by
  obtain ⟨f0, f1, f2, f3, f4, f5, f6, f7, f8, f9, f10, f11, f12, f13, f14, f15, f16, f17, -⟩ := hF
  have e91 : PT 91 = P_adE := hp.1.1.1.1.1.1.1.1.2.2.2.2.2.2.2.2.2.2.2.2.1
  have e147 : PT 147 = P_wrX := hp.2.1
  have e149 : PT 149 = P_yi := hp.2.2.2.1
  have e150 : PT 150 = P_ar2 := hp.2.2.2.2.1
  have e161 : PT 161 = P_wcX := hp.2.2.2.2.2.2.2.2.2.2.2.2.2.2.2.1
  simp only [hF0, hF1, hF2, hF3, hF20, hF21, hFp_91, hFp_147, hFp_149, hFp_150, hFp_161, e91, e147, e149, e150, e161, P_adE, P_wrX, P_yi, P_ar2, P_wcX, den_s, den_c, Int.add_zero, List.map_cons, List.map_nil] at f0 f1 f2 f3 f4 f5 f6 f7 f8 f9 f10 f11 f12 f13 f14 f15 f16 f17 ⊢
  have b2 : (1 : Int) ≤ ρ 2 ∧ ρ 2 ≤ 8 := hB 2 (1, 8) rfl
  have b3 : (0 : Int) ≤ ρ 3 ∧ ρ 3 ≤ 10 := hB 3 (0, 10) rfl
  have b4 : (0 : Int) ≤ ρ 4 ∧ ρ 4 ≤ 8 := hB 4 (0, 8) rfl
  have b5 : (0 : Int) ≤ ρ 5 ∧ ρ 5 ≤ 6 := hB 5 (0, 6) rfl
  have b6 : (0 : Int) ≤ ρ 6 ∧ ρ 6 ≤ 6 := hB 6 (0, 6) rfl
  have b14 : (0 : Int) ≤ ρ 14 ∧ ρ 14 ≤ 7 := hB 14 (0, 7) rfl
  have b15 : (2 : Int) ≤ ρ 15 ∧ ρ 15 ≤ 2 := hB 15 (2, 2) rfl
  have b16 : (1 : Int) ≤ ρ 16 ∧ ρ 16 ≤ 24 := hB 16 (1, 24) rfl
  have b17 : (0 : Int) ≤ ρ 17 ∧ ρ 17 ≤ 23 := hB 17 (0, 23) rfl
  have b18 : (0 : Int) ≤ ρ 18 ∧ ρ 18 ≤ 49 := hB 18 (0, 49) rfl
  have b19 : (0 : Int) ≤ ρ 19 ∧ ρ 19 ≤ 49 := hB 19 (0, 49) rfl
  have b20 : (0 : Int) ≤ ρ 20 ∧ ρ 20 ≤ 49 := hB 20 (0, 49) rfl
  have b21 : (0 : Int) ≤ ρ 21 ∧ ρ 21 ≤ 99 := hB 21 (0, 99) rfl
  have b22 : ((-1) : Int) ≤ ρ 22 ∧ ρ 22 ≤ 2 := hB 22 ((-1), 2) rfl
  have b23 : ((-1) : Int) ≤ ρ 23 ∧ ρ 23 ≤ 2 := hB 23 ((-1), 2) rfl
  clear hB
  generalize ρ 2 = r2, ρ 3 = r3, ρ 4 = r4, ρ 5 = r5, ρ 6 = r6, ρ 14 = r14, ρ 15 = r15, ρ 16 = r16, ρ 17 = r17, ρ 18 = r18, ρ 19 = r19, ρ 20 = r20, ρ 21 = r21, ρ 22 = r22, ρ 23 = r23, α 7 = a7, α 8 = a8, α 10 = a10, α 11 = a11, α 12 = a12, α 13 = a13, α 15 = a15, α 16 = a16, α 19 = a19, α 20 = a20, α 21 = a21, α 23 = a23, α 24 = a24, α 25 = a25, α 41 = a41, α 42 = a42, α 43 = a43, α 44 = a44, α 45 = a45, α 46 = a46, α 58 = a58, α 59 = a59, α 60 = a60, α 61 = a61, α 62 = a62, α 63 = a63, α 64 = a64, α 65 = a65, α 66 = a66, α 67 = a67, α 68 = a68, α 69 = a69, α 70 = a70 at *
  subst f0
  subst f2
  subst f4
  subst f6
  have hy := yI_e (f9).2 (yI_s (f9).2 f10 (by omega) (f7).1) (f7).2
  have hw := f12
  rcases (show r15 = 0 ∨ r15 = 1 ∨ r15 = 2 ∨ r15 = 3 by omega) with z | z | z | z <;> subst z <;> first
    | (exfalso; omega)
    | (refine wcS_s hw (by omega) (by simp only [rowX_0, rowX_1, rowX_2, rowX_3]; rfl) ⟨_, _, _, hy, ?_⟩ (fun t h1 h2 h3 => ?_)
       · unfold cutF
         (repeat' split) <;> first | rfl | (exfalso; omega)
       · rcases (show t = 0 ∨ t = 1 ∨ t = 2 ∨ t = 3 by omega) with y | y | y | y <;> subst y <;> first | (exact absurd rfl h3) | (simp only [rowX_0, rowX_1, rowX_2, rowX_3])))
def w_xo_writeC_1_22 : VC := (([(0, 23), (0, 49), (1, 8), (0, 10), (0, 8), (0, 6), (0, 6), (0, 8), (0, 9), (0, 49), (0, 49), ((-2147483648), 2147483647), ((-2147483648), 2147483647), (0, 5), (0, 7), (2, 2), (1, 24), (0, 23), (0, 49), (0, 49), (0, 49), (0, 99), ((-1), 2), ((-1), 2)]), [(21, [(some 17, 0), (some 21, 0)], [70, 65]), (1, [(some 23, 0), (none, 1)], []), (20, [(some 23, 0), (some 15, 0)], [46]), (1, [(some 22, 0), (none, 0)], []), (20, [(some 22, 0), (some 15, 0)], [46]), (0, [(some 15, 0), (none, 2)], []), (20, [(some 21, 0), (some 14, 0)], [67]), (91, [(some 19, 0), (some 20, 0), (some 18, 0), (some 17, 0), (none, 0), (none, 0)], [58, 59, 7, 8, 10, 11, 16, 20, 21, 24, 25, 60, 61, 62, 67, 68, 69]), (2, [(some 17, 0), (some 16, 0)], []), (150, [(some 18, 0), (some 2, 0), (some 3, 0), (some 4, 0), (some 5, 0), (some 6, 0)], [58, 59, 7, 8, 10, 11, 12, 13, 15, 16, 19, 20, 21, 23, 24, 25]), (149, [(some 19, 0), (some 17, 0), (some 2, 0), (some 3, 0), (some 4, 0), (some 5, 0), (some 6, 0), (none, 0), (none, 0)], [7, 8, 10, 11, 12, 13, 15, 16, 19, 20, 21, 23, 24, 25, 58, 60, 61, 62]), (147, [(some 16, 0), (some 14, 0), (some 15, 0), (some 2, 0)], [45, 46]), (161, [(some 17, 0), (some 14, 0), (some 15, 0), (some 2, 0), (some 3, 0), (some 4, 0), (some 5, 0), (some 6, 0), (none, 0), (none, 0)], [7, 8, 10, 11, 12, 13, 15, 16, 19, 20, 21, 23, 24, 25, 46, 41, 42, 43, 44, 63, 64, 65, 66]), (3, [(some 16, 0), (some 17, 0)], []), (3, [(some 15, 0), (none, 0)], []), (3, [(none, 3), (some 15, 0)], []), (3, [(some 14, 0), (none, 0)], []), (2, [(some 14, 0), (some 2, 0)], [])], (3, [(some 16, 0), (some 17, 1)], []))
set_option maxRecDepth 20000 in
theorem v_xo_writeC_1_22 {PT : PTy} (hp : HP11 PT) : vcOk PT w_xo_writeC_1_22 := vc_of (fun ρ α hB hF => by
  obtain ⟨f0, f1, f2, f3, f4, f5, f6, f7, f8, f9, f10, f11, f12, f13, f14, f15, f16, f17, -⟩ := hF
  have e91 : PT 91 = P_adE := hp.1.1.1.1.1.1.1.1.2.2.2.2.2.2.2.2.2.2.2.2.1
  have e147 : PT 147 = P_wrX := hp.2.1
  have e149 : PT 149 = P_yi := hp.2.2.2.1
  have e150 : PT 150 = P_ar2 := hp.2.2.2.2.1
  have e161 : PT 161 = P_wcX := hp.2.2.2.2.2.2.2.2.2.2.2.2.2.2.2.1
  simp only [hF0, hF1, hF2, hF3, hF20, hF21, hFp_91, hFp_147, hFp_149, hFp_150, hFp_161, e91, e147, e149, e150, e161, P_adE, P_wrX, P_yi, P_ar2, P_wcX, den_s, den_c, Int.add_zero, List.map_cons, List.map_nil] at f0 f1 f2 f3 f4 f5 f6 f7 f8 f9 f10 f11 f12 f13 f14 f15 f16 f17 ⊢
  have b2 : (1 : Int) ≤ ρ 2 ∧ ρ 2 ≤ 8 := hB 2 (1, 8) rfl
  have b3 : (0 : Int) ≤ ρ 3 ∧ ρ 3 ≤ 10 := hB 3 (0, 10) rfl
  have b4 : (0 : Int) ≤ ρ 4 ∧ ρ 4 ≤ 8 := hB 4 (0, 8) rfl
  have b5 : (0 : Int) ≤ ρ 5 ∧ ρ 5 ≤ 6 := hB 5 (0, 6) rfl
  have b6 : (0 : Int) ≤ ρ 6 ∧ ρ 6 ≤ 6 := hB 6 (0, 6) rfl
  have b14 : (0 : Int) ≤ ρ 14 ∧ ρ 14 ≤ 7 := hB 14 (0, 7) rfl
  have b15 : (2 : Int) ≤ ρ 15 ∧ ρ 15 ≤ 2 := hB 15 (2, 2) rfl
  have b16 : (1 : Int) ≤ ρ 16 ∧ ρ 16 ≤ 24 := hB 16 (1, 24) rfl
  have b17 : (0 : Int) ≤ ρ 17 ∧ ρ 17 ≤ 23 := hB 17 (0, 23) rfl
  have b18 : (0 : Int) ≤ ρ 18 ∧ ρ 18 ≤ 49 := hB 18 (0, 49) rfl
  have b19 : (0 : Int) ≤ ρ 19 ∧ ρ 19 ≤ 49 := hB 19 (0, 49) rfl
  have b20 : (0 : Int) ≤ ρ 20 ∧ ρ 20 ≤ 49 := hB 20 (0, 49) rfl
  have b21 : (0 : Int) ≤ ρ 21 ∧ ρ 21 ≤ 99 := hB 21 (0, 99) rfl
  have b22 : ((-1) : Int) ≤ ρ 22 ∧ ρ 22 ≤ 2 := hB 22 ((-1), 2) rfl
  have b23 : ((-1) : Int) ≤ ρ 23 ∧ ρ 23 ≤ 2 := hB 23 ((-1), 2) rfl
  clear hB
  generalize ρ 2 = r2, ρ 3 = r3, ρ 4 = r4, ρ 5 = r5, ρ 6 = r6, ρ 14 = r14, ρ 15 = r15, ρ 16 = r16, ρ 17 = r17, ρ 18 = r18, ρ 19 = r19, ρ 20 = r20, ρ 21 = r21, ρ 22 = r22, ρ 23 = r23, α 7 = a7, α 8 = a8, α 10 = a10, α 11 = a11, α 12 = a12, α 13 = a13, α 15 = a15, α 16 = a16, α 19 = a19, α 20 = a20, α 21 = a21, α 23 = a23, α 24 = a24, α 25 = a25, α 41 = a41, α 42 = a42, α 43 = a43, α 44 = a44, α 45 = a45, α 46 = a46, α 58 = a58, α 59 = a59, α 60 = a60, α 61 = a61, α 62 = a62, α 63 = a63, α 64 = a64, α 65 = a65, α 66 = a66, α 67 = a67, α 68 = a68, α 69 = a69, α 70 = a70 at *
  subst f0
  subst f2
  subst f4
  subst f6
  ((repeat' (first | apply And.intro | intro h)) <;> first | omega | rfl | trivial | (exfalso; omega)))
def w_xo_writeC_1_23 : VC := (([(0, 23), (0, 49), (1, 8), (0, 10), (0, 8), (0, 6), (0, 6), (0, 8), (0, 9), (0, 49), (0, 49), ((-2147483648), 2147483647), ((-2147483648), 2147483647), (0, 5), (0, 7), (2, 2), (1, 24), (0, 23), (0, 49), (0, 49), (0, 49), (0, 99), ((-1), 2), (1, 1), ((-2147483648), 2147483647)]), [(21, [(some 17, 0), (some 24, 0)], [70, 65]), (19, [(some 24, 0), (some 21, 0)], []), (0, [(some 23, 0), (none, 1)], []), (20, [(some 23, 0), (some 15, 0)], [46]), (1, [(some 22, 0), (none, 0)], []), (20, [(some 22, 0), (some 15, 0)], [46]), (0, [(some 15, 0), (none, 2)], []), (20, [(some 21, 0), (some 14, 0)], [67]), (91, [(some 19, 0), (some 20, 0), (some 18, 0), (some 17, 0), (none, 0), (none, 0)], [58, 59, 7, 8, 10, 11, 16, 20, 21, 24, 25, 60, 61, 62, 67, 68, 69]), (2, [(some 17, 0), (some 16, 0)], []), (150, [(some 18, 0), (some 2, 0), (some 3, 0), (some 4, 0), (some 5, 0), (some 6, 0)], [58, 59, 7, 8, 10, 11, 12, 13, 15, 16, 19, 20, 21, 23, 24, 25]), (149, [(some 19, 0), (some 17, 0), (some 2, 0), (some 3, 0), (some 4, 0), (some 5, 0), (some 6, 0), (none, 0), (none, 0)], [7, 8, 10, 11, 12, 13, 15, 16, 19, 20, 21, 23, 24, 25, 58, 60, 61, 62]), (147, [(some 16, 0), (some 14, 0), (some 15, 0), (some 2, 0)], [45, 46]), (161, [(some 17, 0), (some 14, 0), (some 15, 0), (some 2, 0), (some 3, 0), (some 4, 0), (some 5, 0), (some 6, 0), (none, 0), (none, 0)], [7, 8, 10, 11, 12, 13, 15, 16, 19, 20, 21, 23, 24, 25, 46, 41, 42, 43, 44, 63, 64, 65, 66]), (3, [(some 16, 0), (some 17, 0)], []), (3, [(some 15, 0), (none, 0)], []), (3, [(none, 3), (some 15, 0)], []), (3, [(some 14, 0), (none, 0)], []), (2, [(some 14, 0), (some 2, 0)], [])], (149, [(some 20, 0), (some 17, 1), (some 2, 0), (some 3, 0), (some 4, 0), (some 5, 0), (some 6, 0), (none, 0), (none, 0)], [7, 8, 10, 11, 12, 13, 15, 16, 19, 20, 21, 23, 24, 25, 58, 67, 68, 69]))
set_option maxRecDepth 20000 in
theorem v_xo_writeC_1_23 {PT : PTy} (hp : HP11 PT) : vcOk PT w_xo_writeC_1_23 := vc_of (fun ρ α hB hF => by
  obtain ⟨f0, f1, f2, f3, f4, f5, f6, f7, f8, f9, f10, f11, f12, f13, f14, f15, f16, f17, f18, -⟩ := hF
  have e91 : PT 91 = P_adE := hp.1.1.1.1.1.1.1.1.2.2.2.2.2.2.2.2.2.2.2.2.1
  have e147 : PT 147 = P_wrX := hp.2.1
  have e149 : PT 149 = P_yi := hp.2.2.2.1
  have e150 : PT 150 = P_ar2 := hp.2.2.2.2.1
  have e161 : PT 161 = P_wcX := hp.2.2.2.2.2.2.2.2.2.2.2.2.2.2.2.1
  simp only [hF0, hF1, hF2, hF3, hF19, hF20, hF21, hFp_91, hFp_147, hFp_149, hFp_150, hFp_161, e91, e147, e149, e150, e161, P_adE, P_wrX, P_yi, P_ar2, P_wcX, den_s, den_c, Int.add_zero, List.map_cons, List.map_nil] at f0 f1 f2 f3 f4 f5 f6 f7 f8 f9 f10 f11 f12 f13 f14 f15 f16 f17 f18 ⊢
  have b2 : (1 : Int) ≤ ρ 2 ∧ ρ 2 ≤ 8 := hB 2 (1, 8) rfl
  have b3 : (0 : Int) ≤ ρ 3 ∧ ρ 3 ≤ 10 := hB 3 (0, 10) rfl
  have b4 : (0 : Int) ≤ ρ 4 ∧ ρ 4 ≤ 8 := hB 4 (0, 8) rfl
  have b5 : (0 : Int) ≤ ρ 5 ∧ ρ 5 ≤ 6 := hB 5 (0, 6) rfl
  have b6 : (0 : Int) ≤ ρ 6 ∧ ρ 6 ≤ 6 := hB 6 (0, 6) rfl
  have b14 : (0 : Int) ≤ ρ 14 ∧ ρ 14 ≤ 7 := hB 14 (0, 7) rfl
  have b15 : (2 : Int) ≤ ρ 15 ∧ ρ 15 ≤ 2 := hB 15 (2, 2) rfl
  have b16 : (1 : Int) ≤ ρ 16 ∧ ρ 16 ≤ 24 := hB 16 (1, 24) rfl
  have b17 : (0 : Int) ≤ ρ 17 ∧ ρ 17 ≤ 23 := hB 17 (0, 23) rfl
  have b18 : (0 : Int) ≤ ρ 18 ∧ ρ 18 ≤ 49 := hB 18 (0, 49) rfl
  have b19 : (0 : Int) ≤ ρ 19 ∧ ρ 19 ≤ 49 := hB 19 (0, 49) rfl
  have b20 : (0 : Int) ≤ ρ 20 ∧ ρ 20 ≤ 49 := hB 20 (0, 49) rfl
  have b21 : (0 : Int) ≤ ρ 21 ∧ ρ 21 ≤ 99 := hB 21 (0, 99) rfl
  have b22 : ((-1) : Int) ≤ ρ 22 ∧ ρ 22 ≤ 2 := hB 22 ((-1), 2) rfl
  have b23 : (1 : Int) ≤ ρ 23 ∧ ρ 23 ≤ 1 := hB 23 (1, 1) rfl
  have b24 : ((-2147483648) : Int) ≤ ρ 24 ∧ ρ 24 ≤ 2147483647 := hB 24 ((-2147483648), 2147483647) rfl
  exact yI_s (f10).2 f11 (by omega) (f8).1)
def w_xo_writeC_1_24 : VC := (([(0, 23), (0, 49), (1, 8), (0, 10), (0, 8), (0, 6), (0, 6), (0, 8), (0, 9), (0, 49), (0, 49), ((-2147483648), 2147483647), ((-2147483648), 2147483647), (0, 5), (0, 7), (2, 2), (1, 24), (0, 23), (0, 49), (0, 49), (0, 49), (0, 99), ((-1), 2), (1, 1), ((-2147483648), 2147483647)]), [(21, [(some 17, 0), (some 24, 0)], [70, 65]), (19, [(some 24, 0), (some 21, 0)], []), (0, [(some 23, 0), (none, 1)], []), (20, [(some 23, 0), (some 15, 0)], [46]), (1, [(some 22, 0), (none, 0)], []), (20, [(some 22, 0), (some 15, 0)], [46]), (0, [(some 15, 0), (none, 2)], []), (20, [(some 21, 0), (some 14, 0)], [67]), (91, [(some 19, 0), (some 20, 0), (some 18, 0), (some 17, 0), (none, 0), (none, 0)], [58, 59, 7, 8, 10, 11, 16, 20, 21, 24, 25, 60, 61, 62, 67, 68, 69]), (2, [(some 17, 0), (some 16, 0)], []), (150, [(some 18, 0), (some 2, 0), (some 3, 0), (some 4, 0), (some 5, 0), (some 6, 0)], [58, 59, 7, 8, 10, 11, 12, 13, 15, 16, 19, 20, 21, 23, 24, 25]), (149, [(some 19, 0), (some 17, 0), (some 2, 0), (some 3, 0), (some 4, 0), (some 5, 0), (some 6, 0), (none, 0), (none, 0)], [7, 8, 10, 11, 12, 13, 15, 16, 19, 20, 21, 23, 24, 25, 58, 60, 61, 62]), (147, [(some 16, 0), (some 14, 0), (some 15, 0), (some 2, 0)], [45, 46]), (161, [(some 17, 0), (some 14, 0), (some 15, 0), (some 2, 0), (some 3, 0), (some 4, 0), (some 5, 0), (some 6, 0), (none, 0), (none, 0)], [7, 8, 10, 11, 12, 13, 15, 16, 19, 20, 21, 23, 24, 25, 46, 41, 42, 43, 44, 63, 64, 65, 66]), (3, [(some 16, 0), (some 17, 0)], []), (3, [(some 15, 0), (none, 0)], []), (3, [(none, 3), (some 15, 0)], []), (3, [(some 14, 0), (none, 0)], []), (2, [(some 14, 0), (some 2, 0)], [])], (161, [(some 17, 1), (some 14, 0), (some 15, 0), (some 2, 0), (some 3, 0), (some 4, 0), (some 5, 0), (some 6, 0), (none, 0), (none, 0)], [7, 8, 10, 11, 12, 13, 15, 16, 19, 20, 21, 23, 24, 25, 46, 41, 42, 43, 44, 63, 64, 70, 66]))
set_option maxRecDepth 20000 in
theorem v_xo_writeC_1_24 {PT : PTy} (hp : HP11 PT) : vcOk PT w_xo_writeC_1_24 := vc_of (fun ρ α hB hF => by
  obtain ⟨f0, f1, f2, f3, f4, f5, f6, f7, f8, f9, f10, f11, f12, f13, f14, f15, f16, f17, f18, -⟩ := hF
  have e91 : PT 91 = P_adE := hp.1.1.1.1.1.1.1.1.2.2.2.2.2.2.2.2.2.2.2.2.1
  have e147 : PT 147 = P_wrX := hp.2.1
  have e149 : PT 149 = P_yi := hp.2.2.2.1
  have e150 : PT 150 = P_ar2 := hp.2.2.2.2.1
  have e161 : PT 161 = P_wcX := hp.2.2.2.2.2.2.2.2.2.2.2.2.2.2.2.1
  simp only [hF0, hF1, hF2, hF3, hF19, hF20, hF21, hFp_91, hFp_147, hFp_149, hFp_150, hFp_161, e91, e147, e149, e150, e161, P_adE, P_wrX, P_yi, P_ar2, P_wcX, den_s, den_c, Int.add_zero, List.map_cons, List.map_nil] at f0 f1 f2 f3 f4 f5 f6 f7 f8 f9 f10 f11 f12 f13 f14 f15 f16 f17 f18 ⊢
  have b2 : (1 : Int) ≤ ρ 2 ∧ ρ 2 ≤ 8 := hB 2 (1, 8) rfl
  have b3 : (0 : Int) ≤ ρ 3 ∧ ρ 3 ≤ 10 := hB 3 (0, 10) rfl
  have b4 : (0 : Int) ≤ ρ 4 ∧ ρ 4 ≤ 8 := hB 4 (0, 8) rfl
  have b5 : (0 : Int) ≤ ρ 5 ∧ ρ 5 ≤ 6 := hB 5 (0, 6) rfl
  have b6 : (0 : Int) ≤ ρ 6 ∧ ρ 6 ≤ 6 := hB 6 (0, 6) rfl
  have b14 : (0 : Int) ≤ ρ 14 ∧ ρ 14 ≤ 7 := hB 14 (0, 7) rfl
  have b15 : (2 : Int) ≤ ρ 15 ∧ ρ 15 ≤ 2 := hB 15 (2, 2) rfl
  have b16 : (1 : Int) ≤ ρ 16 ∧ ρ 16 ≤ 24 := hB 16 (1, 24) rfl
  have b17 : (0 : Int) ≤ ρ 17 ∧ ρ 17 ≤ 23 := hB 17 (0, 23) rfl
  have b18 : (0 : Int) ≤ ρ 18 ∧ ρ 18 ≤ 49 := hB 18 (0, 49) rfl
  have b19 : (0 : Int) ≤ ρ 19 ∧ ρ 19 ≤ 49 := hB 19 (0, 49) rfl
  have b20 : (0 : Int) ≤ ρ 20 ∧ ρ 20 ≤ 49 := hB 20 (0, 49) rfl
  have b21 : (0 : Int) ≤ ρ 21 ∧ ρ 21 ≤ 99 := hB 21 (0, 99) rfl
  have b22 : ((-1) : Int) ≤ ρ 22 ∧ ρ 22 ≤ 2 := hB 22 ((-1), 2) rfl
  have b23 : (1 : Int) ≤ ρ 23 ∧ ρ 23 ≤ 1 := hB 23 (1, 1) rfl
  have b24 : ((-2147483648) : Int) ≤ ρ 24 ∧ ρ 24 ≤ 2147483647 := hB 24 ((-2147483648), 2147483647) rfl
  clear hB
  generalize ρ 2 = r2, ρ 3 = r3, ρ 4 = r4, ρ 5 = r5, ρ 6 = r6, ρ 14 = r14, ρ 15 = r15, ρ 16 = r16, ρ 17 = r17, ρ 18 = r18, ρ 19 = r19, ρ 20 = r20, ρ 21 = r21, ρ 22 = r22, ρ 23 = r23, ρ 24 = r24, α 7 = a7, α 8 = a8, α 10 = a10, α 11 = a11, α 12 = a12, α 13 = a13, α 15 = a15, α 16 = a16, α 19 = a19, α 20 = a20, α 21 = a21, α 23 = a23, α 24 = a24, α 25 = a25, α 41 = a41, α 42 = a42, α 43 = a43, α 44 = a44, α 45 = a45, α 46 = a46, α 58 = a58, α 59 = a59, α 60 = a60, α 61 = a61, α 62 = a62, α 63 = a63, α 64 = a64, α 65 = a65, α 66 = a66, α 67 = a67, α 68 = a68, α 69 = a69, α 70 = a70 at *
  subst f0
  subst f1
  subst f3
  subst f5
  subst f7
  have hy := yI_e (f10).2 (yI_s (f10).2 f11 (by omega) (f8).1) (f8).2
  have hw := f13
  rcases (show r15 = 0 ∨ r15 = 1 ∨ r15 = 2 ∨ r15 = 3 by omega) with z | z | z | z <;> subst z <;> first
    | (exfalso; omega)
    | (refine wcS_s hw (by omega) (by simp only [rowX_0, rowX_1, rowX_2, rowX_3]; rfl) ⟨_, _, _, hy, ?_⟩ (fun t h1 h2 h3 => ?_)
       · unfold cutF
         (repeat' split) <;> first | rfl | (exfalso; omega)
       · rcases (show t = 0 ∨ t = 1 ∨ t = 2 ∨ t = 3 by omega) with y | y | y | y <;> subst y <;> first | (exact absurd rfl h3) | (simp only [rowX_0, rowX_1, rowX_2, rowX_3])))
def w_xo_writeC_1_25 : VC := (([(0, 23), (0, 49), (1, 8), (0, 10), (0, 8), (0, 6), (0, 6), (0, 8), (0, 9), (0, 49), (0, 49), ((-2147483648), 2147483647), ((-2147483648), 2147483647), (0, 5), (0, 7), (2, 2), (1, 24), (0, 23), (0, 49), (0, 49), (0, 49), (0, 99), ((-1), 2), (1, 1), ((-2147483648), 2147483647)]), [(21, [(some 17, 0), (some 24, 0)], [70, 65]), (19, [(some 24, 0), (some 21, 0)], []), (0, [(some 23, 0), (none, 1)], []), (20, [(some 23, 0), (some 15, 0)], [46]), (1, [(some 22, 0), (none, 0)], []), (20, [(some 22, 0), (some 15, 0)], [46]), (0, [(some 15, 0), (none, 2)], []), (20, [(some 21, 0), (some 14, 0)], [67]), (91, [(some 19, 0), (some 20, 0), (some 18, 0), (some 17, 0), (none, 0), (none, 0)], [58, 59, 7, 8, 10, 11, 16, 20, 21, 24, 25, 60, 61, 62, 67, 68, 69]), (2, [(some 17, 0), (some 16, 0)], []), (150, [(some 18, 0), (some 2, 0), (some 3, 0), (some 4, 0), (some 5, 0), (some 6, 0)], [58, 59, 7, 8, 10, 11, 12, 13, 15, 16, 19, 20, 21, 23, 24, 25]), (149, [(some 19, 0), (some 17, 0), (some 2, 0), (some 3, 0), (some 4, 0), (some 5, 0), (some 6, 0), (none, 0), (none, 0)], [7, 8, 10, 11, 12, 13, 15, 16, 19, 20, 21, 23, 24, 25, 58, 60, 61, 62]), (147, [(some 16, 0), (some 14, 0), (some 15, 0), (some 2, 0)], [45, 46]), (161, [(some 17, 0), (some 14, 0), (some 15, 0), (some 2, 0), (some 3, 0), (some 4, 0), (some 5, 0), (some 6, 0), (none, 0), (none, 0)], [7, 8, 10, 11, 12, 13, 15, 16, 19, 20, 21, 23, 24, 25, 46, 41, 42, 43, 44, 63, 64, 65, 66]), (3, [(some 16, 0), (some 17, 0)], []), (3, [(some 15, 0), (none, 0)], []), (3, [(none, 3), (some 15, 0)], []), (3, [(some 14, 0), (none, 0)], []), (2, [(some 14, 0), (some 2, 0)], [])], (3, [(some 16, 0), (some 17, 1)], []))
set_option maxRecDepth 20000 in
theorem v_xo_writeC_1_25 {PT : PTy} (hp : HP11 PT) : vcOk PT w_xo_writeC_1_25 := vc_of (fun ρ α hB hF => by
  obtain ⟨f0, f1, f2, f3, f4, f5, f6, f7, f8, f9, f10, f11, f12, f13, f14, f15, f16, f17, f18, -⟩ := hF
  have e91 : PT 91 = P_adE := hp.1.1.1.1.1.1.1.1.2.2.2.2.2.2.2.2.2.2.2.2.1
  have e147 : PT 147 = P_wrX := hp.2.1
  have e149 : PT 149 = P_yi := hp.2.2.2.1
  have e150 : PT 150 = P_ar2 := hp.2.2.2.2.1
  have e161 : PT 161 = P_wcX := hp.2.2.2.2.2.2.2.2.2.2.2.2.2.2.2.1
  simp only [hF0, hF1, hF2, hF3, hF19, hF20, hF21, hFp_91, hFp_147, hFp_149, hFp_150, hFp_161, e91, e147, e149, e150, e161, P_adE, P_wrX, P_yi, P_ar2, P_wcX, den_s, den_c, Int.add_zero, List.map_cons, List.map_nil] at f0 f1 f2 f3 f4 f5 f6 f7 f8 f9 f10 f11 f12 f13 f14 f15 f16 f17 f18 ⊢
  have b2 : (1 : Int) ≤ ρ 2 ∧ ρ 2 ≤ 8 := hB 2 (1, 8) rfl
  have b3 : (0 : Int) ≤ ρ 3 ∧ ρ 3 ≤ 10 := hB 3 (0, 10) rfl
  have b4 : (0 : Int) ≤ ρ 4 ∧ ρ 4 ≤ 8 := hB 4 (0, 8) rfl
  have b5 : (0 : Int) ≤ ρ 5 ∧ ρ 5 ≤ 6 := hB 5 (0, 6) rfl
  have b6 : (0 : Int) ≤ ρ 6 ∧ ρ 6 ≤ 6 := hB 6 (0, 6) rfl
  have b14 : (0 : Int) ≤ ρ 14 ∧ ρ 14 ≤ 7 := hB 14 (0, 7) rfl
  have b15 : (2 : Int) ≤ ρ 15 ∧ ρ 15 ≤ 2 := hB 15 (2, 2) rfl
  have b16 : (1 : Int) ≤ ρ 16 ∧ ρ 16 ≤ 24 := hB 16 (1, 24) rfl
  have b17 : (0 : Int) ≤ ρ 17 ∧ ρ 17 ≤ 23 := hB 17 (0, 23) rfl
  have b18 : (0 : Int) ≤ ρ 18 ∧ ρ 18 ≤ 49 := hB 18 (0, 49) rfl
  have b19 : (0 : Int) ≤ ρ 19 ∧ ρ 19 ≤ 49 := hB 19 (0, 49) rfl
  have b20 : (0 : Int) ≤ ρ 20 ∧ ρ 20 ≤ 49 := hB 20 (0, 49) rfl
  have b21 : (0 : Int) ≤ ρ 21 ∧ ρ 21 ≤ 99 := hB 21 (0, 99) rfl
  have b22 : ((-1) : Int) ≤ ρ 22 ∧ ρ 22 ≤ 2 := hB 22 ((-1), 2) rfl
  have b23 : (1 : Int) ≤ ρ 23 ∧ ρ 23 ≤ 1 := hB 23 (1, 1) rfl
  have b24 : ((-2147483648) : Int) ≤ ρ 24 ∧ ρ 24 ≤ 2147483647 := hB 24 ((-2147483648), 2147483647) rfl
  clear hB
  generalize ρ 2 = r2, ρ 3 = r3, ρ 4 = r4, ρ 5 = r5, ρ 6 = r6, ρ 14 = r14, ρ 15 = r15, ρ 16 = r16, ρ 17 = r17, ρ 18 = r18, ρ 19 = r19, ρ 20 = r20, ρ 21 = r21, ρ 22 = r22, ρ 23 = r23, ρ 24 = r24, α 7 = a7, α 8 = a8, α 10 = a10, α 11 = a11, α 12 = a12, α 13 = a13, α 15 = a15, α 16 = a16, α 19 = a19, α 20 = a20, α 21 = a21, α 23 = a23, α 24 = a24, α 25 = a25, α 41 = a41, α 42 = a42, α 43 = a43, α 44 = a44, α 45 = a45, α 46 = a46, α 58 = a58, α 59 = a59, α 60 = a60, α 61 = a61, α 62 = a62, α 63 = a63, α 64 = a64, α 65 = a65, α 66 = a66, α 67 = a67, α 68 = a68, α 69 = a69, α 70 = a70 at *
  subst f0
  subst f1
  subst f3
  subst f5
  subst f7
  ((repeat' (first | apply And.intro | intro h)) <;> first | omega | rfl | trivial | (exfalso; omega)))
def w_xo_writeC_1_26 : VC := (([(0, 23), (0, 49), (1, 8), (0, 10), (0, 8), (0, 6), (0, 6), (0, 8), (0, 9), (0, 49), (0, 49), ((-2147483648), 2147483647), ((-2147483648), 2147483647), (0, 5), (0, 7), (2, 2), (1, 24), (0, 23), (0, 49), (0, 49), (0, 49), (0, 99), (0, 0), ((-2147483648), 2147483647)]), [(21, [(some 17, 0), (some 23, 0)], [70, 65]), (18, [(some 23, 0), (some 21, 0)], []), (0, [(some 22, 0), (none, 0)], []), (20, [(some 22, 0), (some 15, 0)], [46]), (0, [(some 15, 0), (none, 2)], []), (20, [(some 21, 0), (some 14, 0)], [67]), (91, [(some 19, 0), (some 20, 0), (some 18, 0), (some 17, 0), (none, 0), (none, 0)], [58, 59, 7, 8, 10, 11, 16, 20, 21, 24, 25, 60, 61, 62, 67, 68, 69]), (2, [(some 17, 0), (some 16, 0)], []), (150, [(some 18, 0), (some 2, 0), (some 3, 0), (some 4, 0), (some 5, 0), (some 6, 0)], [58, 59, 7, 8, 10, 11, 12, 13, 15, 16, 19, 20, 21, 23, 24, 25]), (149, [(some 19, 0), (some 17, 0), (some 2, 0), (some 3, 0), (some 4, 0), (some 5, 0), (some 6, 0), (none, 0), (none, 0)], [7, 8, 10, 11, 12, 13, 15, 16, 19, 20, 21, 23, 24, 25, 58, 60, 61, 62]), (147, [(some 16, 0), (some 14, 0), (some 15, 0), (some 2, 0)], [45, 46]), (161, [(some 17, 0), (some 14, 0), (some 15, 0), (some 2, 0), (some 3, 0), (some 4, 0), (some 5, 0), (some 6, 0), (none, 0), (none, 0)], [7, 8, 10, 11, 12, 13, 15, 16, 19, 20, 21, 23, 24, 25, 46, 41, 42, 43, 44, 63, 64, 65, 66]), (3, [(some 16, 0), (some 17, 0)], []), (3, [(some 15, 0), (none, 0)], []), (3, [(none, 3), (some 15, 0)], []), (3, [(some 14, 0), (none, 0)], []), (2, [(some 14, 0), (some 2, 0)], [])], (149, [(some 20, 0), (some 17, 1), (some 2, 0), (some 3, 0), (some 4, 0), (some 5, 0), (some 6, 0), (none, 0), (none, 0)], [7, 8, 10, 11, 12, 13, 15, 16, 19, 20, 21, 23, 24, 25, 58, 67, 68, 69]))
set_option maxRecDepth 20000 in
theorem v_xo_writeC_1_26 {PT : PTy} (hp : HP11 PT) : vcOk PT w_xo_writeC_1_26 := vc_of (fun ρ α hB hF => by
  obtain ⟨f0, f1, f2, f3, f4, f5, f6, f7, f8, f9, f10, f11, f12, f13, f14, f15, f16, -⟩ := hF
  have e91 : PT 91 = P_adE := hp.1.1.1.1.1.1.1.1.2.2.2.2.2.2.2.2.2.2.2.2.1
  have e147 : PT 147 = P_wrX := hp.2.1
  have e149 : PT 149 = P_yi := hp.2.2.2.1
  have e150 : PT 150 = P_ar2 := hp.2.2.2.2.1
  have e161 : PT 161 = P_wcX := hp.2.2.2.2.2.2.2.2.2.2.2.2.2.2.2.1
  simp only [hF0, hF2, hF3, hF18, hF20, hF21, hFp_91, hFp_147, hFp_149, hFp_150, hFp_161, e91, e147, e149, e150, e161, P_adE, P_wrX, P_yi, P_ar2, P_wcX, den_s, den_c, Int.add_zero, List.map_cons, List.map_nil] at f0 f1 f2 f3 f4 f5 f6 f7 f8 f9 f10 f11 f12 f13 f14 f15 f16 ⊢
  have b2 : (1 : Int) ≤ ρ 2 ∧ ρ 2 ≤ 8 := hB 2 (1, 8) rfl
  have b3 : (0 : Int) ≤ ρ 3 ∧ ρ 3 ≤ 10 := hB 3 (0, 10) rfl
  have b4 : (0 : Int) ≤ ρ 4 ∧ ρ 4 ≤ 8 := hB 4 (0, 8) rfl
  have b5 : (0 : Int) ≤ ρ 5 ∧ ρ 5 ≤ 6 := hB 5 (0, 6) rfl
  have b6 : (0 : Int) ≤ ρ 6 ∧ ρ 6 ≤ 6 := hB 6 (0, 6) rfl
  have b14 : (0 : Int) ≤ ρ 14 ∧ ρ 14 ≤ 7 := hB 14 (0, 7) rfl
  have b15 : (2 : Int) ≤ ρ 15 ∧ ρ 15 ≤ 2 := hB 15 (2, 2) rfl
  have b16 : (1 : Int) ≤ ρ 16 ∧ ρ 16 ≤ 24 := hB 16 (1, 24) rfl
  have b17 : (0 : Int) ≤ ρ 17 ∧ ρ 17 ≤ 23 := hB 17 (0, 23) rfl
  have b18 : (0 : Int) ≤ ρ 18 ∧ ρ 18 ≤ 49 := hB 18 (0, 49) rfl
  have b19 : (0 : Int) ≤ ρ 19 ∧ ρ 19 ≤ 49 := hB 19 (0, 49) rfl
  have b20 : (0 : Int) ≤ ρ 20 ∧ ρ 20 ≤ 49 := hB 20 (0, 49) rfl
  have b21 : (0 : Int) ≤ ρ 21 ∧ ρ 21 ≤ 99 := hB 21 (0, 99) rfl
  have b22 : (0 : Int) ≤ ρ 22 ∧ ρ 22 ≤ 0 := hB 22 (0, 0) rfl
  have b23 : ((-2147483648) : Int) ≤ ρ 23 ∧ ρ 23 ≤ 2147483647 := hB 23 ((-2147483648), 2147483647) rfl
  exact yI_s (f8).2 f9 (by omega) (f6).1)
def w_xo_writeC_1_27 : VC := (([(0, 23), (0, 49), (1, 8), (0, 10), (0, 8), (0, 6), (0, 6), (0, 8), (0, 9), (0, 49), (0, 49), ((-2147483648), 2147483647), ((-2147483648), 2147483647), (0, 5), (0, 7), (2, 2), (1, 24), (0, 23), (0, 49), (0, 49), (0, 49), (0, 99), (0, 0), ((-2147483648), 2147483647)]), [(21, [(some 17, 0), (some 23, 0)], [70, 65]), (18, [(some 23, 0), (some 21, 0)], []), (0, [(some 22, 0), (none, 0)], []), (20, [(some 22, 0), (some 15, 0)], [46]), (0, [(some 15, 0), (none, 2)], []), (20, [(some 21, 0), (some 14, 0)], [67]), (91, [(some 19, 0), (some 20, 0), (some 18, 0), (some 17, 0), (none, 0), (none, 0)], [58, 59, 7, 8, 10, 11, 16, 20, 21, 24, 25, 60, 61, 62, 67, 68, 69]), (2, [(some 17, 0), (some 16, 0)], []), (150, [(some 18, 0), (some 2, 0), (some 3, 0), (some 4, 0), (some 5, 0), (some 6, 0)], [58, 59, 7, 8, 10, 11, 12, 13, 15, 16, 19, 20, 21, 23, 24, 25]), (149, [(some 19, 0), (some 17, 0), (some 2, 0), (some 3, 0), (some 4, 0), (some 5, 0), (some 6, 0), (none, 0), (none, 0)], [7, 8, 10, 11, 12, 13, 15, 16, 19, 20, 21, 23, 24, 25, 58, 60, 61, 62]), (147, [(some 16, 0), (some 14, 0), (some 15, 0), (some 2, 0)], [45, 46]), (161, [(some 17, 0), (some 14, 0), (some 15, 0), (some 2, 0), (some 3, 0), (some 4, 0), (some 5, 0), (some 6, 0), (none, 0), (none, 0)], [7, 8, 10, 11, 12, 13, 15, 16, 19, 20, 21, 23, 24, 25, 46, 41, 42, 43, 44, 63, 64, 65, 66]), (3, [(some 16, 0), (some 17, 0)], []), (3, [(some 15, 0), (none, 0)], []), (3, [(none, 3), (some 15, 0)], []), (3, [(some 14, 0), (none, 0)], []), (2, [(some 14, 0), (some 2, 0)], [])], (161, [(some 17, 1), (some 14, 0), (some 15, 0), (some 2, 0), (some 3, 0), (some 4, 0), (some 5, 0), (some 6, 0), (none, 0), (none, 0)], [7, 8, 10, 11, 12, 13, 15, 16, 19, 20, 21, 23, 24, 25, 46, 41, 42, 43, 44, 63, 64, 70, 66]))
set_option maxRecDepth 20000 in
theorem v_xo_writeC_1_27 {PT : PTy} (hp : HP11 PT) : vcOk PT w_xo_writeC_1_27 := vc_of (fun ρ α hB hF => by
  obtain ⟨f0, f1, f2, f3, f4, f5, f6, f7, f8, f9, f10, f11, f12, f13, f14, f15, f16, -⟩ := hF
  have e91 : PT 91 = P_adE := hp.1.1.1.1.1.1.1.1.2.2.2.2.2.2.2.2.2.2.2.2.1
  have e147 : PT 147 = P_wrX := hp.2.1
  have e149 : PT 149 = P_yi := hp.2.2.2.1
  have e150 : PT 150 = P_ar2 := hp.2.2.2.2.1
  have e161 : PT 161 = P_wcX := hp.2.2.2.2.2.2.2.2.2.2.2.2.2.2.2.1
  simp only [hF0, hF2, hF3, hF18, hF20, hF21, hFp_91, hFp_147, hFp_149, hFp_150, hFp_161, e91, e147, e149, e150, e161, P_adE, P_wrX, P_yi, P_ar2, P_wcX, den_s, den_c, Int.add_zero, List.map_cons, List.map_nil] at f0 f1 f2 f3 f4 f5 f6 f7 f8 f9 f10 f11 f12 f13 f14 f15 f16 ⊢
  have b2 : (1 : Int) ≤ ρ 2 ∧ ρ 2 ≤ 8 := hB 2 (1, 8) rfl
  have b3 : (0 : Int) ≤ ρ 3 ∧ ρ 3 ≤ 10 := hB 3 (0, 10) rfl
  have b4 : (0 : Int) ≤ ρ 4 ∧ ρ 4 ≤ 8 := hB 4 (0, 8) rfl
  have b5 : (0 : Int) ≤ ρ 5 ∧ ρ 5 ≤ 6 := hB 5 (0, 6) rfl
  have b6 : (0 : Int) ≤ ρ 6 ∧ ρ 6 ≤ 6 := hB 6 (0, 6) rfl
  have b14 : (0 : Int) ≤ ρ 14 ∧ ρ 14 ≤ 7 := hB 14 (0, 7) rfl
  have b15 : (2 : Int) ≤ ρ 15 ∧ ρ 15 ≤ 2 := hB 15 (2, 2) rfl
  have b16 : (1 : Int) ≤ ρ 16 ∧ ρ 16 ≤ 24 := hB 16 (1, 24) rfl
  have b17 : (0 : Int) ≤ ρ 17 ∧ ρ 17 ≤ 23 := hB 17 (0, 23) rfl
  have b18 : (0 : Int) ≤ ρ 18 ∧ ρ 18 ≤ 49 := hB 18 (0, 49) rfl
  have b19 : (0 : Int) ≤ ρ 19 ∧ ρ 19 ≤ 49 := hB 19 (0, 49) rfl
  have b20 : (0 : Int) ≤ ρ 20 ∧ ρ 20 ≤ 49 := hB 20 (0, 49) rfl
  have b21 : (0 : Int) ≤ ρ 21 ∧ ρ 21 ≤ 99 := hB 21 (0, 99) rfl
  have b22 : (0 : Int) ≤ ρ 22 ∧ ρ 22 ≤ 0 := hB 22 (0, 0) rfl
  have b23 : ((-2147483648) : Int) ≤ ρ 23 ∧ ρ 23 ≤ 2147483647 := hB 23 ((-2147483648), 2147483647) rfl
  clear hB
  generalize ρ 2 = r2, ρ 3 = r3, ρ 4 = r4, ρ 5 = r5, ρ 6 = r6, ρ 14 = r14, ρ 15 = r15, ρ 16 = r16, ρ 17 = r17, ρ 18 = r18, ρ 19 = r19, ρ 20 = r20, ρ 21 = r21, ρ 22 = r22, ρ 23 = r23, α 7 = a7, α 8 = a8, α 10 = a10, α 11 = a11, α 12 = a12, α 13 = a13, α 15 = a15, α 16 = a16, α 19 = a19, α 20 = a20, α 21 = a21, α 23 = a23, α 24 = a24, α 25 = a25, α 41 = a41, α 42 = a42, α 43 = a43, α 44 = a44, α 45 = a45, α 46 = a46, α 58 = a58, α 59 = a59, α 60 = a60, α 61 = a61, α 62 = a62, α 63 = a63, α 64 = a64, α 65 = a65, α 66 = a66, α 67 = a67, α 68 = a68, α 69 = a69, α 70 = a70 at *
  subst f0
  subst f1
  subst f3
  subst f5
  have hy := yI_e (f8).2 (yI_s (f8).2 f9 (by omega) (f6).1) (f6).2
  have hw := f11
  rcases (show r15 = 0 ∨ r15 = 1 ∨ r15 = 2 ∨ r15 = 3 by omega) with z | z | z | z <;> subst z <;> first
    | (exfalso; omega)
    | (refine wcS_s hw (by omega) (by simp only [rowX_0, rowX_1, rowX_2, rowX_3]; rfl) ⟨_, _, _, hy, ?_⟩ (fun t h1 h2 h3 => ?_)
       · unfold cutF
         (repeat' split) <;> first | rfl | (exfalso; omega)
       · rcases (show t = 0 ∨ t = 1 ∨ t = 2 ∨ t = 3 by omega) with y | y | y | y <;> subst y <;> first | (exact absurd rfl h3) | (simp only [rowX_0, rowX_1, rowX_2, rowX_3])))
def w_xo_writeC_1_28 : VC := (([(0, 23), (0, 49), (1, 8), (0, 10), (0, 8), (0, 6), (0, 6), (0, 8), (0, 9), (0, 49), (0, 49), ((-2147483648), 2147483647), ((-2147483648), 2147483647), (0, 5), (0, 7), (2, 2), (1, 24), (0, 23), (0, 49), (0, 49), (0, 49), (0, 99), (0, 0), ((-2147483648), 2147483647)]), [(21, [(some 17, 0), (some 23, 0)], [70, 65]), (18, [(some 23, 0), (some 21, 0)], []), (0, [(some 22, 0), (none, 0)], []), (20, [(some 22, 0), (some 15, 0)], [46]), (0, [(some 15, 0), (none, 2)], []), (20, [(some 21, 0), (some 14, 0)], [67]), (91, [(some 19, 0), (some 20, 0), (some 18, 0), (some 17, 0), (none, 0), (none, 0)], [58, 59, 7, 8, 10, 11, 16, 20, 21, 24, 25, 60, 61, 62, 67, 68, 69]), (2, [(some 17, 0), (some 16, 0)], []), (150, [(some 18, 0), (some 2, 0), (some 3, 0), (some 4, 0), (some 5, 0), (some 6, 0)], [58, 59, 7, 8, 10, 11, 12, 13, 15, 16, 19, 20, 21, 23, 24, 25]), (149, [(some 19, 0), (some 17, 0), (some 2, 0), (some 3, 0), (some 4, 0), (some 5, 0), (some 6, 0), (none, 0), (none, 0)], [7, 8, 10, 11, 12, 13, 15, 16, 19, 20, 21, 23, 24, 25, 58, 60, 61, 62]), (147, [(some 16, 0), (some 14, 0), (some 15, 0), (some 2, 0)], [45, 46]), (161, [(some 17, 0), (some 14, 0), (some 15, 0), (some 2, 0), (some 3, 0), (some 4, 0), (some 5, 0), (some 6, 0), (none, 0), (none, 0)], [7, 8, 10, 11, 12, 13, 15, 16, 19, 20, 21, 23, 24, 25, 46, 41, 42, 43, 44, 63, 64, 65, 66]), (3, [(some 16, 0), (some 17, 0)], []), (3, [(some 15, 0), (none, 0)], []), (3, [(none, 3), (some 15, 0)], []), (3, [(some 14, 0), (none, 0)], []), (2, [(some 14, 0), (some 2, 0)], [])], (3, [(some 16, 0), (some 17, 1)], []))
set_option maxRecDepth 20000 in
theorem v_xo_writeC_1_28 {PT : PTy} (hp : HP11 PT) : vcOk PT w_xo_writeC_1_28 := vc_of (fun ρ α hB hF => by
  obtain ⟨f0, f1, f2, f3, f4, f5, f6, f7, f8, f9, f10, f11, f12, f13, f14, f15, f16, -⟩ := hF
  have e91 : PT 91 = P_adE := hp.1.1.1.1.1.1.1.1.2.2.2.2.2.2.2.2.2.2.2.2.1
  have e147 : PT 147 = P_wrX := hp.2.1
  have e149 : PT 149 = P_yi := hp.2.2.2.1
  have e150 : PT 150 = P_ar2 := hp.2.2.2.2.1
  have e161 : PT 161 = P_wcX := hp.2.2.2.2.2.2.2.2.2.2.2.2.2.2.2.1
  simp only [hF0, hF2, hF3, hF18, hF20, hF21, hFp_91, hFp_147, hFp_149, hFp_150, hFp_161, e91, e147, e149, e150, e161, P_adE, P_wrX, P_yi, P_ar2, P_wcX, den_s, den_c, Int.add_zero, List.map_cons, List.map_nil] at f0 f1 f2 f3 f4 f5 f6 f7 f8 f9 f10 f11 f12 f13 f14 f15 f16 ⊢
  have b2 : (1 : Int) ≤ ρ 2 ∧ ρ 2 ≤ 8 := hB 2 (1, 8) rfl
  have b3 : (0 : Int) ≤ ρ 3 ∧ ρ 3 ≤ 10 := hB 3 (0, 10) rfl
  have b4 : (0 : Int) ≤ ρ 4 ∧ ρ 4 ≤ 8 := hB 4 (0, 8) rfl
  have b5 : (0 : Int) ≤ ρ 5 ∧ ρ 5 ≤ 6 := hB 5 (0, 6) rfl
  have b6 : (0 : Int) ≤ ρ 6 ∧ ρ 6 ≤ 6 := hB 6 (0, 6) rfl
  have b14 : (0 : Int) ≤ ρ 14 ∧ ρ 14 ≤ 7 := hB 14 (0, 7) rfl
  have b15 : (2 : Int) ≤ ρ 15 ∧ ρ 15 ≤ 2 := hB 15 (2, 2) rfl
  have b16 : (1 : Int) ≤ ρ 16 ∧ ρ 16 ≤ 24 := hB 16 (1, 24) rfl
  have b17 : (0 : Int) ≤ ρ 17 ∧ ρ 17 ≤ 23 := hB 17 (0, 23) rfl
  have b18 : (0 : Int) ≤ ρ 18 ∧ ρ 18 ≤ 49 := hB 18 (0, 49) rfl
  have b19 : (0 : Int) ≤ ρ 19 ∧ ρ 19 ≤ 49 := hB 19 (0, 49) rfl
  have b20 : (0 : Int) ≤ ρ 20 ∧ ρ 20 ≤ 49 := hB 20 (0, 49) rfl
  have b21 : (0 : Int) ≤ ρ 21 ∧ ρ 21 ≤ 99 := hB 21 (0, 99) rfl
  have b22 : (0 : Int) ≤ ρ 22 ∧ ρ 22 ≤ 0 := hB 22 (0, 0) rfl
  have b23 : ((-2147483648) : Int) ≤ ρ 23 ∧ ρ 23 ≤ 2147483647 := hB 23 ((-2147483648), 2147483647) rfl
  clear hB
  generalize ρ 2 = r2, ρ 3 = r3, ρ 4 = r4, ρ 5 = r5, ρ 6 = r6, ρ 14 = r14, ρ 15 = r15, ρ 16 = r16, ρ 17 = r17, ρ 18 = r18, ρ 19 = r19, ρ 20 = r20, ρ 21 = r21, ρ 22 = r22, ρ 23 = r23, α 7 = a7, α 8 = a8, α 10 = a10, α 11 = a11, α 12 = a12, α 13 = a13, α 15 = a15, α 16 = a16, α 19 = a19, α 20 = a20, α 21 = a21, α 23 = a23, α 24 = a24, α 25 = a25, α 41 = a41, α 42 = a42, α 43 = a43, α 44 = a44, α 45 = a45, α 46 = a46, α 58 = a58, α 59 = a59, α 60 = a60, α 61 = a61, α 62 = a62, α 63 = a63, α 64 = a64, α 65 = a65, α 66 = a66, α 67 = a67, α 68 = a68, α 69 = a69, α 70 = a70 at *
  subst f0
  subst f1
  subst f3
  subst f5
  ((repeat' (first | apply And.intro | intro h)) <;> first | omega | rfl | trivial | (exfalso; omega)))
def w_xo_writeC_1_29 : VC := (([(0, 23), (0, 49), (1, 8), (0, 10), (0, 8), (0, 6), (0, 6), (0, 8), (0, 9), (0, 49), (0, 49), ((-2147483648), 2147483647), ((-2147483648), 2147483647), (0, 5), (0, 7), (3, 3), (1, 24), (0, 23), (0, 49), (0, 49), (0, 49), (0, 99), ((-1), 2), ((-1), 2)]), [(21, [(some 17, 0), (some 21, 0)], [70, 66]), (1, [(some 23, 0), (none, 1)], []), (20, [(some 23, 0), (some 15, 0)], [46]), (1, [(some 22, 0), (none, 0)], []), (20, [(some 22, 0), (some 15, 0)], [46]), (0, [(some 15, 0), (none, 3)], []), (20, [(some 21, 0), (some 14, 0)], [67]), (91, [(some 19, 0), (some 20, 0), (some 18, 0), (some 17, 0), (none, 0), (none, 0)], [58, 59, 7, 8, 10, 11, 16, 20, 21, 24, 25, 60, 61, 62, 67, 68, 69]), (2, [(some 17, 0), (some 16, 0)], []), (150, [(some 18, 0), (some 2, 0), (some 3, 0), (some 4, 0), (some 5, 0), (some 6, 0)], [58, 59, 7, 8, 10, 11, 12, 13, 15, 16, 19, 20, 21, 23, 24, 25]), (149, [(some 19, 0), (some 17, 0), (some 2, 0), (some 3, 0), (some 4, 0), (some 5, 0), (some 6, 0), (none, 0), (none, 0)], [7, 8, 10, 11, 12, 13, 15, 16, 19, 20, 21, 23, 24, 25, 58, 60, 61, 62]), (147, [(some 16, 0), (some 14, 0), (some 15, 0), (some 2, 0)], [45, 46]), (161, [(some 17, 0), (some 14, 0), (some 15, 0), (some 2, 0), (some 3, 0), (some 4, 0), (some 5, 0), (some 6, 0), (none, 0), (none, 0)], [7, 8, 10, 11, 12, 13, 15, 16, 19, 20, 21, 23, 24, 25, 46, 41, 42, 43, 44, 63, 64, 65, 66]), (3, [(some 16, 0), (some 17, 0)], []), (3, [(some 15, 0), (none, 0)], []), (3, [(none, 3), (some 15, 0)], []), (3, [(some 14, 0), (none, 0)], []), (2, [(some 14, 0), (some 2, 0)], [])], (149, [(some 20, 0), (some 17, 1), (some 2, 0), (some 3, 0), (some 4, 0), (some 5, 0), (some 6, 0), (none, 0), (none, 0)], [7, 8, 10, 11, 12, 13, 15, 16, 19, 20, 21, 23, 24, 25, 58, 67, 68, 69]))
set_option maxRecDepth 20000 in
theorem v_xo_writeC_1_29 {PT : PTy} (hp : HP11 PT) : vcOk PT w_xo_writeC_1_29 := vc_of (fun ρ α hB hF => by
  obtain ⟨f0, f1, f2, f3, f4, f5, f6, f7, f8, f9, f10, f11, f12, f13, f14, f15, f16, f17, -⟩ := hF
  have e91 : PT 91 = P_adE := hp.1.1.1.1.1.1.1.1.2.2.2.2.2.2.2.2.2.2.2.2.1
  have e147 : PT 147 = P_wrX := hp.2.1
  have e149 : PT 149 = P_yi := hp.2.2.2.1
  have e150 : PT 150 = P_ar2 := hp.2.2.2.2.1
  have e161 : PT 161 = P_wcX := hp.2.2.2.2.2.2.2.2.2.2.2.2.2.2.2.1
  simp only [hF0, hF1, hF2, hF3, hF20, hF21, hFp_91, hFp_147, hFp_149, hFp_150, hFp_161, e91, e147, e149, e150, e161, P_adE, P_wrX, P_yi, P_ar2, P_wcX, den_s, den_c, Int.add_zero, List.map_cons, List.map_nil] at f0 f1 f2 f3 f4 f5 f6 f7 f8 f9 f10 f11 f12 f13 f14 f15 f16 f17 ⊢
  have b2 : (1 : Int) ≤ ρ 2 ∧ ρ 2 ≤ 8 := hB 2 (1, 8) rfl
  have b3 : (0 : Int) ≤ ρ 3 ∧ ρ 3 ≤ 10 := hB 3 (0, 10) rfl
  have b4 : (0 : Int) ≤ ρ 4 ∧ ρ 4 ≤ 8 := hB 4 (0, 8) rfl
  have b5 : (0 : Int) ≤ ρ 5 ∧ ρ 5 ≤ 6 := hB 5 (0, 6) rfl
  have b6 : (0 : Int) ≤ ρ 6 ∧ ρ 6 ≤ 6 := hB 6 (0, 6) rfl
  have b14 : (0 : Int) ≤ ρ 14 ∧ ρ 14 ≤ 7 := hB 14 (0, 7) rfl
  have b15 : (3 : Int) ≤ ρ 15 ∧ ρ 15 ≤ 3 := hB 15 (3, 3) rfl
  have b16 : (1 : Int) ≤ ρ 16 ∧ ρ 16 ≤ 24 := hB 16 (1, 24) rfl
  have b17 : (0 : Int) ≤ ρ 17 ∧ ρ 17 ≤ 23 := hB 17 (0, 23) rfl
  have b18 : (0 : Int) ≤ ρ 18 ∧ ρ 18 ≤ 49 := hB 18 (0, 49) rfl
  have b19 : (0 : Int) ≤ ρ 19 ∧ ρ 19 ≤ 49 := hB 19 (0, 49) rfl
  have b20 : (0 : Int) ≤ ρ 20 ∧ ρ 20 ≤ 49 := hB 20 (0, 49) rfl
  have b21 : (0 : Int) ≤ ρ 21 ∧ ρ 21 ≤ 99 := hB 21 (0, 99) rfl
  have b22 : ((-1) : Int) ≤ ρ 22 ∧ ρ 22 ≤ 2 := hB 22 ((-1), 2) rfl
  have b23 : ((-1) : Int) ≤ ρ 23 ∧ ρ 23 ≤ 2 := hB 23 ((-1), 2) rfl
  exact yI_s (f9).2 f10 (by omega) (f7).1)
def w_xo_writeC_1_30 : VC := (([(0, 23), (0, 49), (1, 8), (0, 10), (0, 8), (0, 6), (0, 6), (0, 8), (0, 9), (0, 49), (0, 49), ((-2147483648), 2147483647), ((-2147483648), 2147483647), (0, 5), (0, 7), (3, 3), (1, 24), (0, 23), (0, 49), (0, 49), (0, 49), (0, 99), ((-1), 2), ((-1), 2)]), [(21, [(some 17, 0), (some 21, 0)], [70, 66]), (1, [(some 23, 0), (none, 1)], []), (20, [(some 23, 0), (some 15, 0)], [46]), (1, [(some 22, 0), (none, 0)], []), (20, [(some 22, 0), (some 15, 0)], [46]), (0, [(some 15, 0), (none, 3)], []), (20, [(some 21, 0), (some 14, 0)], [67]), (91, [(some 19, 0), (some 20, 0), (some 18, 0), (some 17, 0), (none, 0), (none, 0)], [58, 59, 7, 8, 10, 11, 16, 20, 21, 24, 25, 60, 61, 62, 67, 68, 69]), (2, [(some 17, 0), (some 16, 0)], []), (150, [(some 18, 0), (some 2, 0), (some 3, 0), (some 4, 0), (some 5, 0), (some 6, 0)], [58, 59, 7, 8, 10, 11, 12, 13, 15, 16, 19, 20, 21, 23, 24, 25]), (149, [(some 19, 0), (some 17, 0), (some 2, 0), (some 3, 0), (some 4, 0), (some 5, 0), (some 6, 0), (none, 0), (none, 0)], [7, 8, 10, 11, 12, 13, 15, 16, 19, 20, 21, 23, 24, 25, 58, 60, 61, 62]), (147, [(some 16, 0), (some 14, 0), (some 15, 0), (some 2, 0)], [45, 46]), (161, [(some 17, 0), (some 14, 0), (some 15, 0), (some 2, 0), (some 3, 0), (some 4, 0), (some 5, 0), (some 6, 0), (none, 0), (none, 0)], [7, 8, 10, 11, 12, 13, 15, 16, 19, 20, 21, 23, 24, 25, 46, 41, 42, 43, 44, 63, 64, 65, 66]), (3, [(some 16, 0), (some 17, 0)], []), (3, [(some 15, 0), (none, 0)], []), (3, [(none, 3), (some 15, 0)], []), (3, [(some 14, 0), (none, 0)], []), (2, [(some 14, 0), (some 2, 0)], [])], (161, [(some 17, 1), (some 14, 0), (some 15, 0), (some 2, 0), (some 3, 0), (some 4, 0), (some 5, 0), (some 6, 0), (none, 0), (none, 0)], [7, 8, 10, 11, 12, 13, 15, 16, 19, 20, 21, 23, 24, 25, 46, 41, 42, 43, 44, 63, 64, 65, 70]))
set_option maxRecDepth 20000 in
theorem v_xo_writeC_1_30 {PT : PTy} (hp : HP11 PT) : vcOk PT w_xo_writeC_1_30 := vc_of (fun ρ α hB hF => by
  obtain ⟨f0, f1, f2, f3, f4, f5, f6, f7, f8, f9, f10, f11, f12, f13, f14, f15, f16, f17, -⟩ := hF
  have e91 : PT 91 = P_adE := hp.1.1.1.1.1.1.1.1.2.2.2.2.2.2.2.2.2.2.2.2.1
  have e147 : PT 147 = P_wrX := hp.2.1
  have e149 : PT 149 = P_yi := hp.2.2.2.1
  have e150 : PT 150 = P_ar2 := hp.2.2.2.2.1
  have e161 : PT 161 = P_wcX := hp.2.2.2.2.2.2.2.2.2.2.2.2.2.2.2.1
  simp only [hF0, hF1, hF2, hF3, hF20, hF21, hFp_91, hFp_147, hFp_149, hFp_150, hFp_161, e91, e147, e149, e150, e161, P_adE, P_wrX, P_yi, P_ar2, P_wcX, den_s, den_c, Int.add_zero, List.map_cons, List.map_nil] at f0 f1 f2 f3 f4 f5 f6 f7 f8 f9 f10 f11 f12 f13 f14 f15 f16 f17 ⊢
  have b2 : (1 : Int) ≤ ρ 2 ∧ ρ 2 ≤ 8 := hB 2 (1, 8) rfl
  have b3 : (0 : Int) ≤ ρ 3 ∧ ρ 3 ≤ 10 := hB 3 (0, 10) rfl
  have b4 : (0 : Int) ≤ ρ 4 ∧ ρ 4 ≤ 8 := hB 4 (0, 8) rfl
  have b5 : (0 : Int) ≤ ρ 5 ∧ ρ 5 ≤ 6 := hB 5 (0, 6) rfl
  have b6 : (0 : Int) ≤ ρ 6 ∧ ρ 6 ≤ 6 := hB 6 (0, 6) rfl
  have b14 : (0 : Int) ≤ ρ 14 ∧ ρ 14 ≤ 7 := hB 14 (0, 7) rfl
  have b15 : (3 : Int) ≤ ρ 15 ∧ ρ 15 ≤ 3 := hB 15 (3, 3) rfl
  have b16 : (1 : Int) ≤ ρ 16 ∧ ρ 16 ≤ 24 := hB 16 (1, 24) rfl
  have b17 : (0 : Int) ≤ ρ 17 ∧ ρ 17 ≤ 23 := hB 17 (0, 23) rfl
  have b18 : (0 : Int) ≤ ρ 18 ∧ ρ 18 ≤ 49 := hB 18 (0, 49) rfl
  have b19 : (0 : Int) ≤ ρ 19 ∧ ρ 19 ≤ 49 := hB 19 (0, 49) rfl
  have b20 : (0 : Int) ≤ ρ 20 ∧ ρ 20 ≤ 49 := hB 20 (0, 49) rfl
  have b21 : (0 : Int) ≤ ρ 21 ∧ ρ 21 ≤ 99 := hB 21 (0, 99) rfl
  have b22 : ((-1) : Int) ≤ ρ 22 ∧ ρ 22 ≤ 2 := hB 22 ((-1), 2) rfl
  have b23 : ((-1) : Int) ≤ ρ 23 ∧ ρ 23 ≤ 2 := hB 23 ((-1), 2) rfl
  clear hB
  generalize ρ 2 = r2, ρ 3 = r3, ρ 4 = r4, ρ 5 = r5, ρ 6 = r6, ρ 14 = r14, ρ 15 = r15, ρ 16 = r16, ρ 17 = r17, ρ 18 = r18, ρ 19 = r19, ρ 20 = r20, ρ 21 = r21, ρ 22 = r22, ρ 23 = r23, α 7 = a7, α 8 = a8, α 10 = a10, α 11 = a11, α 12 = a12, α 13 = a13, α 15 = a15, α 16 = a16, α 19 = a19, α 20 = a20, α 21 = a21, α 23 = a23, α 24 = a24, α 25 = a25, α 41 = a41, α 42 = a42, α 43 = a43, α 44 = a44, α 45 = a45, α 46 = a46, α 58 = a58, α 59 = a59, α 60 = a60, α 61 = a61, α 62 = a62, α 63 = a63, α 64 = a64, α 65 = a65, α 66 = a66, α 67 = a67, α 68 = a68, α 69 = a69, α 70 = a70 at *
  subst f0
  subst f2
  subst f4
  subst f6
  have hy := yI_e (f9).2 (yI_s (f9).2 f10 (by omega) (f7).1) (f7).2
  have hw := f12
  rcases (show r15 = 0 ∨ r15 = 1 ∨ r15 = 2 ∨ r15 = 3 by omega) with z | z | z | z <;> subst z <;> first
    | (exfalso; omega)
    | (refine wcS_s hw (by omega) (by simp only [rowX_0, rowX_1, rowX_2, rowX_3]; rfl) ⟨_, _, _, hy, ?_⟩ (fun t h1 h2 h3 => ?_)
       · unfold cutF
         (repeat' split) <;> first | rfl | (exfalso; omega)
       · rcases (show t = 0 ∨ t = 1 ∨ t = 2 ∨ t = 3 by omega) with y | y | y | y <;> subst y <;> first | (exact absurd rfl h3) | (simp only [rowX_0, rowX_1, rowX_2, rowX_3])))
def w_xo_writeC_1_31 : VC := (([(0, 23), (0, 49), (1, 8), (0, 10), (0, 8), (0, 6), (0, 6), (0, 8), (0, 9), (0, 49), (0, 49), ((-2147483648), 2147483647), ((-2147483648), 2147483647), (0, 5), (0, 7), (3, 3), (1, 24), (0, 23), (0, 49), (0, 49), (0, 49), (0, 99), ((-1), 2), ((-1), 2)]), [(21, [(some 17, 0), (some 21, 0)], [70, 66]), (1, [(some 23, 0), (none, 1)], []), (20, [(some 23, 0), (some 15, 0)], [46]), (1, [(some 22, 0), (none, 0)], []), (20, [(some 22, 0), (some 15, 0)], [46]), (0, [(some 15, 0), (none, 3)], []), (20, [(some 21, 0), (some 14, 0)], [67]), (91, [(some 19, 0), (some 20, 0), (some 18, 0), (some 17, 0), (none, 0), (none, 0)], [58, 59, 7, 8, 10, 11, 16, 20, 21, 24, 25, 60, 61, 62, 67, 68, 69]), (2, [(some 17, 0), (some 16, 0)], []), (150, [(some 18, 0), (some 2, 0), (some 3, 0), (some 4, 0), (some 5, 0), (some 6, 0)], [58, 59, 7, 8, 10, 11, 12, 13, 15, 16, 19, 20, 21, 23, 24, 25]), (149, [(some 19, 0), (some 17, 0), (some 2, 0), (some 3, 0), (some 4, 0), (some 5, 0), (some 6, 0), (none, 0), (none, 0)], [7, 8, 10, 11, 12, 13, 15, 16, 19, 20, 21, 23, 24, 25, 58, 60, 61, 62]), (147, [(some 16, 0), (some 14, 0), (some 15, 0), (some 2, 0)], [45, 46]), (161, [(some 17, 0), (some 14, 0), (some 15, 0), (some 2, 0), (some 3, 0), (some 4, 0), (some 5, 0), (some 6, 0), (none, 0), (none, 0)], [7, 8, 10, 11, 12, 13, 15, 16, 19, 20, 21, 23, 24, 25, 46, 41, 42, 43, 44, 63, 64, 65, 66]), (3, [(some 16, 0), (some 17, 0)], []), (3, [(some 15, 0), (none, 0)], []), (3, [(none, 3), (some 15, 0)], []), (3, [(some 14, 0), (none, 0)], []), (2, [(some 14, 0), (some 2, 0)], [])], (3, [(some 16, 0), (some 17, 1)], []))
set_option maxRecDepth 20000 in
theorem v_xo_writeC_1_31 {PT : PTy} (hp : HP11 PT) : vcOk PT w_xo_writeC_1_31 := vc_of (fun ρ α hB hF => by
  obtain ⟨f0, f1, f2, f3, f4, f5, f6, f7, f8, f9, f10, f11, f12, f13, f14, f15, f16, f17, -⟩ := hF
  have e91 : PT 91 = P_adE := hp.1.1.1.1.1.1.1.1.2.2.2.2.2.2.2.2.2.2.2.2.1
  have e147 : PT 147 = P_wrX := hp.2.1
  have e149 : PT 149 = P_yi := hp.2.2.2.1
  have e150 : PT 150 = P_ar2 := hp.2.2.2.2.1
  have e161 : PT 161 = P_wcX := hp.2.2.2.2.2.2.2.2.2.2.2.2.2.2.2.1
  simp only [hF0, hF1, hF2, hF3, hF20, hF21, hFp_91, hFp_147, hFp_149, hFp_150, hFp_161, e91, e147, e149, e150, e161, P_adE, P_wrX, P_yi, P_ar2, P_wcX, den_s, den_c, Int.add_zero, List.map_cons, List.map_nil] at f0 f1 f2 f3 f4 f5 f6 f7 f8 f9 f10 f11 f12 f13 f14 f15 f16 f17 ⊢
  have b2 : (1 : Int) ≤ ρ 2 ∧ ρ 2 ≤ 8 := hB 2 (1, 8) rfl
  have b3 : (0 : Int) ≤ ρ 3 ∧ ρ 3 ≤ 10 := hB 3 (0, 10) rfl
  have b4 : (0 : Int) ≤ ρ 4 ∧ ρ 4 ≤ 8 := hB 4 (0, 8) rfl
  have b5 : (0 : Int) ≤ ρ 5 ∧ ρ 5 ≤ 6 := hB 5 (0, 6) rfl
  have b6 : (0 : Int) ≤ ρ 6 ∧ ρ 6 ≤ 6 := hB 6 (0, 6) rfl
  have b14 : (0 : Int) ≤ ρ 14 ∧ ρ 14 ≤ 7 := hB 14 (0, 7) rfl
  have b15 : (3 : Int) ≤ ρ 15 ∧ ρ 15 ≤ 3 := hB 15 (3, 3) rfl
  have b16 : (1 : Int) ≤ ρ 16 ∧ ρ 16 ≤ 24 := hB 16 (1, 24) rfl
  have b17 : (0 : Int) ≤ ρ 17 ∧ ρ 17 ≤ 23 := hB 17 (0, 23) rfl
  have b18 : (0 : Int) ≤ ρ 18 ∧ ρ 18 ≤ 49 := hB 18 (0, 49) rfl
  have b19 : (0 : Int) ≤ ρ 19 ∧ ρ 19 ≤ 49 := hB 19 (0, 49) rfl
  have b20 : (0 : Int) ≤ ρ 20 ∧ ρ 20 ≤ 49 := hB 20 (0, 49) rfl
  have b21 : (0 : Int) ≤ ρ 21 ∧ ρ 21 ≤ 99 := hB 21 (0, 99) rfl
  have b22 : ((-1) : Int) ≤ ρ 22 ∧ ρ 22 ≤ 2 := hB 22 ((-1), 2) rfl
  have b23 : ((-1) : Int) ≤ ρ 23 ∧ ρ 23 ≤ 2 := hB 23 ((-1), 2) rfl
  clear hB
  generalize ρ 2 = r2, ρ 3 = r3, ρ 4 = r4, ρ 5 = r5, ρ 6 = r6, ρ 14 = r14, ρ 15 = r15, ρ 16 = r16, ρ 17 = r17, ρ 18 = r18, ρ 19 = r19, ρ 20 = r20, ρ 21 = r21, ρ 22 = r22, ρ 23 = r23, α 7 = a7, α 8 = a8, α 10 = a10, α 11 = a11, α 12 = a12, α 13 = a13, α 15 = a15, α 16 = a16, α 19 = a19, α 20 = a20, α 21 = a21, α 23 = a23, α 24 = a24, α 25 = a25, α 41 = a41, α 42 = a42, α 43 = a43, α 44 = a44, α 45 = a45, α 46 = a46, α 58 = a58, α 59 = a59, α 60 = a60, α 61 = a61, α 62 = a62, α 63 = a63, α 64 = a64, α 65 = a65, α 66 = a66, α 67 = a67, α 68 = a68, α 69 = a69, α 70 = a70 at *
  subst f0
  subst f2
  subst f4
  subst f6
  ((repeat' (first | apply And.intro | intro h)) <;> first | omega | rfl | trivial | (exfalso; omega)))
def w_xo_writeC_1_32 : VC := (([(0, 23), (0, 49), (1, 8), (0, 10), (0, 8), (0, 6), (0, 6), (0, 8), (0, 9), (0, 49), (0, 49), ((-2147483648), 2147483647), ((-2147483648), 2147483647), (0, 5), (0, 7), (3, 3), (1, 24), (0, 23), (0, 49), (0, 49), (0, 49), (0, 99), ((-1), 2), (1, 1), ((-2147483648), 2147483647)]), [(21, [(some 17, 0), (some 24, 0)], [70, 66]), (19, [(some 24, 0), (some 21, 0)], []), (0, [(some 23, 0), (none, 1)], []), (20, [(some 23, 0), (some 15, 0)], [46]), (1, [(some 22, 0), (none, 0)], []), (20, [(some 22, 0), (some 15, 0)], [46]), (0, [(some 15, 0), (none, 3)], []), (20, [(some 21, 0), (some 14, 0)], [67]), (91, [(some 19, 0), (some 20, 0), (some 18, 0), (some 17, 0), (none, 0), (none, 0)], [58, 59, 7, 8, 10, 11, 16, 20, 21, 24, 25, 60, 61, 62, 67, 68, 69]), (2, [(some 17, 0), (some 16, 0)], []), (150, [(some 18, 0), (some 2, 0), (some 3, 0), (some 4, 0), (some 5, 0), (some 6, 0)], [58, 59, 7, 8, 10, 11, 12, 13, 15, 16, 19, 20, 21, 23, 24, 25]), (149, [(some 19, 0), (some 17, 0), (some 2, 0), (some 3, 0), (some 4, 0), (some 5, 0), (some 6, 0), (none, 0), (none, 0)], [7, 8, 10, 11, 12, 13, 15, 16, 19, 20, 21, 23, 24, 25, 58, 60, 61, 62]), (147, [(some 16, 0), (some 14, 0), (some 15, 0), (some 2, 0)], [45, 46]), (161, [(some 17, 0), (some 14, 0), (some 15, 0), (some 2, 0), (some 3, 0), (some 4, 0), (some 5, 0), (some 6, 0), (none, 0), (none, 0)], [7, 8, 10, 11, 12, 13, 15, 16, 19, 20, 21, 23, 24, 25, 46, 41, 42, 43, 44, 63, 64, 65, 66]), (3, [(some 16, 0), (some 17, 0)], []), (3, [(some 15, 0), (none, 0)], []), (3, [(none, 3), (some 15, 0)], []), (3, [(some 14, 0), (none, 0)], []), (2, [(some 14, 0), (some 2, 0)], [])], (149, [(some 20, 0), (some 17, 1), (some 2, 0), (some 3, 0), (some 4, 0), (some 5, 0), (some 6, 0), (none, 0), (none, 0)], [7, 8, 10, 11, 12, 13, 15, 16, 19, 20, 21, 23, 24, 25, 58, 67, 68, 69]))
set_option maxRecDepth 20000 in
theorem v_xo_writeC_1_32 {PT : PTy} (hp : HP11 PT) : vcOk PT w_xo_writeC_1_32 := vc_of (fun ρ α hB hF => by
  obtain ⟨f0, f1, f2, f3, f4, f5, f6, f7, f8, f9, f10, f11, f12, f13, f14, f15, f16, f17, f18, -⟩ := hF
  have e91 : PT 91 = P_adE := hp.1.1.1.1.1.1.1.1.2.2.2.2.2.2.2.2.2.2.2.2.1
  have e147 : PT 147 = P_wrX := hp.2.1
  have e149 : PT 149 = P_yi := hp.2.2.2.1
  have e150 : PT 150 = P_ar2 := hp.2.2.2.2.1
  have e161 : PT 161 = P_wcX := hp.2.2.2.2.2.2.2.2.2.2.2.2.2.2.2.1
  simp only [hF0, hF1, hF2, hF3, hF19, hF20, hF21, hFp_91, hFp_147, hFp_149, hFp_150, hFp_161, e91, e147, e149, e150, e161, P_adE, P_wrX, P_yi, P_ar2, P_wcX, den_s, den_c, Int.add_zero, List.map_cons, List.map_nil] at f0 f1 f2 f3 f4 f5 f6 f7 f8 f9 f10 f11 f12 f13 f14 f15 f16 f17 f18 ⊢
  have b2 : (1 : Int) ≤ ρ 2 ∧ ρ 2 ≤ 8 := hB 2 (1, 8) rfl
  have b3 : (0 : Int) ≤ ρ 3 ∧ ρ 3 ≤ 10 := hB 3 (0, 10) rfl
  have b4 : (0 : Int) ≤ ρ 4 ∧ ρ 4 ≤ 8 := hB 4 (0, 8) rfl
  have b5 : (0 : Int) ≤ ρ 5 ∧ ρ 5 ≤ 6 := hB 5 (0, 6) rfl
  have b6 : (0 : Int) ≤ ρ 6 ∧ ρ 6 ≤ 6 := hB 6 (0, 6) rfl
  have b14 : (0 : Int) ≤ ρ 14 ∧ ρ 14 ≤ 7 := hB 14 (0, 7) rfl
  have b15 : (3 : Int) ≤ ρ 15 ∧ ρ 15 ≤ 3 := hB 15 (3, 3) rfl
  have b16 : (1 : Int) ≤ ρ 16 ∧ ρ 16 ≤ 24 := hB 16 (1, 24) rfl
  have b17 : (0 : Int) ≤ ρ 17 ∧ ρ 17 ≤ 23 := hB 17 (0, 23) rfl
  have b18 : (0 : Int) ≤ ρ 18 ∧ ρ 18 ≤ 49 := hB 18 (0, 49) rfl
  have b19 : (0 : Int) ≤ ρ 19 ∧ ρ 19 ≤ 49 := hB 19 (0, 49) rfl
  have b20 : (0 : Int) ≤ ρ 20 ∧ ρ 20 ≤ 49 := hB 20 (0, 49) rfl
  have b21 : (0 : Int) ≤ ρ 21 ∧ ρ 21 ≤ 99 := hB 21 (0, 99) rfl
  have b22 : ((-1) : Int) ≤ ρ 22 ∧ ρ 22 ≤ 2 := hB 22 ((-1), 2) rfl
  have b23 : (1 : Int) ≤ ρ 23 ∧ ρ 23 ≤ 1 := hB 23 (1, 1) rfl
  have b24 : ((-2147483648) : Int) ≤ ρ 24 ∧ ρ 24 ≤ 2147483647 := hB 24 ((-2147483648), 2147483647) rfl
  exact yI_s (f10).2 f11 (by omega) (f8).1)
def w_xo_writeC_1_33 : VC := (([(0, 23), (0, 49), (1, 8), (0, 10), (0, 8), (0, 6), (0, 6), (0, 8), (0, 9), (0, 49), (0, 49), ((-2147483648), 2147483647), ((-2147483648), 2147483647), (0, 5), (0, 7), (3, 3), (1, 24), (0, 23), (0, 49), (0, 49), (0, 49), (0, 99), ((-1), 2), (1, 1), ((-2147483648), 2147483647)]), [(21, [(some 17, 0), (some 24, 0)], [70, 66]), (19, [(some 24, 0), (some 21, 0)], []), (0, [(some 23, 0), (none, 1)], []), (20, [(some 23, 0), (some 15, 0)], [46]), (1, [(some 22, 0), (none, 0)], []), (20, [(some 22, 0), (some 15, 0)], [46]), (0, [(some 15, 0), (none, 3)], []), (20, [(some 21, 0), (some 14, 0)], [67]), (91, [(some 19, 0), (some 20, 0), (some 18, 0), (some 17, 0), (none, 0), (none, 0)], [58, 59, 7, 8, 10, 11, 16, 20, 21, 24, 25, 60, 61, 62, 67, 68, 69]), (2, [(some 17, 0), (some 16, 0)], []), (150, [(some 18, 0), (some 2, 0), (some 3, 0), (some 4, 0), (some 5, 0), (some 6, 0)], [58, 59, 7, 8, 10, 11, 12, 13, 15, 16, 19, 20, 21, 23, 24, 25]), (149, [(some 19, 0), (some 17, 0), (some 2, 0), (some 3, 0), (some 4, 0), (some 5, 0), (some 6, 0), (none, 0), (none, 0)], [7, 8, 10, 11, 12, 13, 15, 16, 19, 20, 21, 23, 24, 25, 58, 60, 61, 62]), (147, [(some 16, 0), (some 14, 0), (some 15, 0), (some 2, 0)], [45, 46]), (161, [(some 17, 0), (some 14, 0), (some 15, 0), (some 2, 0), (some 3, 0), (some 4, 0), (some 5, 0), (some 6, 0), (none, 0), (none, 0)], [7, 8, 10, 11, 12, 13, 15, 16, 19, 20, 21, 23, 24, 25, 46, 41, 42, 43, 44, 63, 64, 65, 66]), (3, [(some 16, 0), (some 17, 0)], []), (3, [(some 15, 0), (none, 0)], []), (3, [(none, 3), (some 15, 0)], []), (3, [(some 14, 0), (none, 0)], []), (2, [(some 14, 0), (some 2, 0)], [])], (161, [(some 17, 1), (some 14, 0), (some 15, 0), (some 2, 0), (some 3, 0), (some 4, 0), (some 5, 0), (some 6, 0), (none, 0), (none, 0)], [7, 8, 10, 11, 12, 13, 15, 16, 19, 20, 21, 23, 24, 25, 46, 41, 42, 43, 44, 63, 64, 65, 70]))
set_option maxRecDepth 20000 in
theorem v_xo_writeC_1_33 {PT : PTy} (hp : HP11 PT) : vcOk PT w_xo_writeC_1_33 := vc_of (fun ρ α hB hF => by
  obtain ⟨f0, f1, f2, f3, f4, f5, f6, f7, f8, f9, f10, f11, f12, f13, f14, f15, f16, f17, f18, -⟩ := hF
  have e91 : PT 91 = P_adE := hp.1.1.1.1.1.1.1.1.2.2.2.2.2.2.2.2.2.2.2.2.1
  have e147 : PT 147 = P_wrX := hp.2.1
  have e149 : PT 149 = P_yi := hp.2.2.2.1
  have e150 : PT 150 = P_ar2 := hp.2.2.2.2.1
  have e161 : PT 161 = P_wcX := hp.2.2.2.2.2.2.2.2.2.2.2.2.2.2.2.1
  simp only [hF0, hF1, hF2, hF3, hF19, hF20, hF21, hFp_91, hFp_147, hFp_149, hFp_150, hFp_161, e91, e147, e149, e150, e161, P_adE, P_wrX, P_yi, P_ar2, P_wcX, den_s, den_c, Int.add_zero, List.map_cons, List.map_nil] at f0 f1 f2 f3 f4 f5 f6 f7 f8 f9 f10 f11 f12 f13 f14 f15 f16 f17 f18 ⊢
  have b2 : (1 : Int) ≤ ρ 2 ∧ ρ 2 ≤ 8 := hB 2 (1, 8) rfl
  have b3 : (0 : Int) ≤ ρ 3 ∧ ρ 3 ≤ 10 := hB 3 (0, 10) rfl
  have b4 : (0 : Int) ≤ ρ 4 ∧ ρ 4 ≤ 8 := hB 4 (0, 8) rfl
  have b5 : (0 : Int) ≤ ρ 5 ∧ ρ 5 ≤ 6 := hB 5 (0, 6) rfl
  have b6 : (0 : Int) ≤ ρ 6 ∧ ρ 6 ≤ 6 := hB 6 (0, 6) rfl
  have b14 : (0 : Int) ≤ ρ 14 ∧ ρ 14 ≤ 7 := hB 14 (0, 7) rfl
  have b15 : (3 : Int) ≤ ρ 15 ∧ ρ 15 ≤ 3 := hB 15 (3, 3) rfl
  have b16 : (1 : Int) ≤ ρ 16 ∧ ρ 16 ≤ 24 := hB 16 (1, 24) rfl
  have b17 : (0 : Int) ≤ ρ 17 ∧ ρ 17 ≤ 23 := hB 17 (0, 23) rfl
  have b18 : (0 : Int) ≤ ρ 18 ∧ ρ 18 ≤ 49 := hB 18 (0, 49) rfl
  have b19 : (0 : Int) ≤ ρ 19 ∧ ρ 19 ≤ 49 := hB 19 (0, 49) rfl
  have b20 : (0 : Int) ≤ ρ 20 ∧ ρ 20 ≤ 49 := hB 20 (0, 49) rfl
  have b21 : (0 : Int) ≤ ρ 21 ∧ ρ 21 ≤ 99 := hB 21 (0, 99) rfl
  have b22 : ((-1) : Int) ≤ ρ 22 ∧ ρ 22 ≤ 2 := hB 22 ((-1), 2) rfl
  have b23 : (1 : Int) ≤ ρ 23 ∧ ρ 23 ≤ 1 := hB 23 (1, 1) rfl
  have b24 : ((-2147483648) : Int) ≤ ρ 24 ∧ ρ 24 ≤ 2147483647 := hB 24 ((-2147483648), 2147483647) rfl
  clear hB
  generalize ρ 2 = r2, ρ 3 = r3, ρ 4 = r4, ρ 5 = r5, ρ 6 = r6, ρ 14 = r14, ρ 15 = r15, ρ 16 = r16, ρ 17 = r17, ρ 18 = r18, ρ 19 = r19, ρ 20 = r20, ρ 21 = r21, ρ 22 = r22, ρ 23 = r23, ρ 24 = r24, α 7 = a7, α 8 = a8, α 10 = a10, α 11 = a11, α 12 = a12, α 13 = a13, α 15 = a15, α 16 = a16, α 19 = a19, α 20 = a20, α 21 = a21, α 23 = a23, α 24 = a24, α 25 = a25, α 41 = a41, α 42 = a42, α 43 = a43, α 44 = a44, α 45 = a45, α 46 = a46, α 58 = a58, α 59 = a59, α 60 = a60, α 61 = a61, α 62 = a62, α 63 = a63, α 64 = a64, α 65 = a65, α 66 = a66, α 67 = a67, α 68 = a68, α 69 = a69, α 70 = a70 at *
  subst f0
  subst f1
  subst f3
  subst f5
  subst f7
  have hy := yI_e (f10).2 (yI_s (f10).2 f11 (by omega) (f8).1) (f8).2
  have hw := f13
  rcases (show r15 = 0 ∨ r15 = 1 ∨ r15 = 2 ∨ r15 = 3 by omega) with z | z | z | z <;> subst z <;> first
    | (exfalso; omega)
    | (refine wcS_s hw (by omega) (by simp only [rowX_0, rowX_1, rowX_2, rowX_3]; rfl) ⟨_, _, _, hy, ?_⟩ (fun t h1 h2 h3 => ?_)
       · unfold cutF
         (repeat' split) <;> first | rfl | (exfalso; omega)
       · rcases (show t = 0 ∨ t = 1 ∨ t = 2 ∨ t = 3 by omega) with y | y | y | y <;> subst y <;> first | (exact absurd rfl h3) | (simp only [rowX_0, rowX_1, rowX_2, rowX_3])))
def w_xo_writeC_1_34 : VC := (([(0, 23), (0, 49), (1, 8), (0, 10), (0, 8), (0, 6), (0, 6), (0, 8), (0, 9), (0, 49), (0, 49), ((-2147483648), 2147483647), ((-2147483648), 2147483647), (0, 5), (0, 7), (3, 3), (1, 24), (0, 23), (0, 49), (0, 49), (0, 49), (0, 99), ((-1), 2), (1, 1), ((-2147483648), 2147483647)]), [(21, [(some 17, 0), (some 24, 0)], [70, 66]), (19, [(some 24, 0), (some 21, 0)], []), (0, [(some 23, 0), (none, 1)], []), (20, [(some 23, 0), (some 15, 0)], [46]), (1, [(some 22, 0), (none, 0)], []), (20, [(some 22, 0), (some 15, 0)], [46]), (0, [(some 15, 0), (none, 3)], []), (20, [(some 21, 0), (some 14, 0)], [67]), (91, [(some 19, 0), (some 20, 0), (some 18, 0), (some 17, 0), (none, 0), (none, 0)], [58, 59, 7, 8, 10, 11, 16, 20, 21, 24, 25, 60, 61, 62, 67, 68, 69]), (2, [(some 17, 0), (some 16, 0)], []), (150, [(some 18, 0), (some 2, 0), (some 3, 0), (some 4, 0), (some 5, 0), (some 6, 0)], [58, 59, 7, 8, 10, 11, 12, 13, 15, 16, 19, 20, 21, 23, 24, 25]), (149, [(some 19, 0), (some 17, 0), (some 2, 0), (some 3, 0), (some 4, 0), (some 5, 0), (some 6, 0), (none, 0), (none, 0)], [7, 8, 10, 11, 12, 13, 15, 16, 19, 20, 21, 23, 24, 25, 58, 60, 61, 62]), (147, [(some 16, 0), (some 14, 0), (some 15, 0), (some 2, 0)], [45, 46]), (161, [(some 17, 0), (some 14, 0), (some 15, 0), (some 2, 0), (some 3, 0), (some 4, 0), (some 5, 0), (some 6, 0), (none, 0), (none, 0)], [7, 8, 10, 11, 12, 13, 15, 16, 19, 20, 21, 23, 24, 25, 46, 41, 42, 43, 44, 63, 64, 65, 66]), (3, [(some 16, 0), (some 17, 0)], []), (3, [(some 15, 0), (none, 0)], []), (3, [(none, 3), (some 15, 0)], []), (3, [(some 14, 0), (none, 0)], []), (2, [(some 14, 0), (some 2, 0)], [])], (3, [(some 16, 0), (some 17, 1)], []))
set_option maxRecDepth 20000 in
theorem v_xo_writeC_1_34 {PT : PTy} (hp : HP11 PT) : vcOk PT w_xo_writeC_1_34 := vc_of (fun ρ α hB hF => by
  obtain ⟨f0, f1, f2, f3, f4, f5, f6, f7, f8, f9, f10, f11, f12, f13, f14, f15, f16, f17, f18, -⟩ := hF
  have e91 : PT 91 = P_adE := hp.1.1.1.1.1.1.1.1.2.2.2.2.2.2.2.2.2.2.2.2.1
  have e147 : PT 147 = P_wrX := hp.2.1
  have e149 : PT 149 = P_yi := hp.2.2.2.1
  have e150 : PT 150 = P_ar2 := hp.2.2.2.2.1
  have e161 : PT 161 = P_wcX := hp.2.2.2.2.2.2.2.2.2.2.2.2.2.2.2.1
  simp only [hF0, hF1, hF2, hF3, hF19, hF20, hF21, hFp_91, hFp_147, hFp_149, hFp_150, hFp_161, e91, e147, e149, e150, e161, P_adE, P_wrX, P_yi, P_ar2, P_wcX, den_s, den_c, Int.add_zero, List.map_cons, List.map_nil] at f0 f1 f2 f3 f4 f5 f6 f7 f8 f9 f10 f11 f12 f13 f14 f15 f16 f17 f18 ⊢
  have b2 : (1 : Int) ≤ ρ 2 ∧ ρ 2 ≤ 8 := hB 2 (1, 8) rfl
  have b3 : (0 : Int) ≤ ρ 3 ∧ ρ 3 ≤ 10 := hB 3 (0, 10) rfl
  have b4 : (0 : Int) ≤ ρ 4 ∧ ρ 4 ≤ 8 := hB 4 (0, 8) rfl
  have b5 : (0 : Int) ≤ ρ 5 ∧ ρ 5 ≤ 6 := hB 5 (0, 6) rfl
  have b6 : (0 : Int) ≤ ρ 6 ∧ ρ 6 ≤ 6 := hB 6 (0, 6) rfl
  have b14 : (0 : Int) ≤ ρ 14 ∧ ρ 14 ≤ 7 := hB 14 (0, 7) rfl
  have b15 : (3 : Int) ≤ ρ 15 ∧ ρ 15 ≤ 3 := hB 15 (3, 3) rfl
  have b16 : (1 : Int) ≤ ρ 16 ∧ ρ 16 ≤ 24 := hB 16 (1, 24) rfl
  have b17 : (0 : Int) ≤ ρ 17 ∧ ρ 17 ≤ 23 := hB 17 (0, 23) rfl
  have b18 : (0 : Int) ≤ ρ 18 ∧ ρ 18 ≤ 49 := hB 18 (0, 49) rfl
  have b19 : (0 : Int) ≤ ρ 19 ∧ ρ 19 ≤ 49 := hB 19 (0, 49) rfl
  have b20 : (0 : Int) ≤ ρ 20 ∧ ρ 20 ≤ 49 := hB 20 (0, 49) rfl
  have b21 : (0 : Int) ≤ ρ 21 ∧ ρ 21 ≤ 99 := hB 21 (0, 99) rfl
  have b22 : ((-1) : Int) ≤ ρ 22 ∧ ρ 22 ≤ 2 := hB 22 ((-1), 2) rfl
  have b23 : (1 : Int) ≤ ρ 23 ∧ ρ 23 ≤ 1 := hB 23 (1, 1) rfl
  have b24 : ((-2147483648) : Int) ≤ ρ 24 ∧ ρ 24 ≤ 2147483647 := hB 24 ((-2147483648), 2147483647) rfl
  clear hB
  generalize ρ 2 = r2, ρ 3 = r3, ρ 4 = r4, ρ 5 = r5, ρ 6 = r6, ρ 14 = r14, ρ 15 = r15, ρ 16 = r16, ρ 17 = r17, ρ 18 = r18, ρ 19 = r19, ρ 20 = r20, ρ 21 = r21, ρ 22 = r22, ρ 23 = r23, ρ 24 = r24, α 7 = a7, α 8 = a8, α 10 = a10, α 11 = a11, α 12 = a12, α 13 = a13, α 15 = a15, α 16 = a16, α 19 = a19, α 20 = a20, α 21 = a21, α 23 = a23, α 24 = a24, α 25 = a25, α 41 = a41, α 42 = a42, α 43 = a43, α 44 = a44, α 45 = a45, α 46 = a46, α 58 = a58, α 59 = a59, α 60 = a60, α 61 = a61, α 62 = a62, α 63 = a63, α 64 = a64, α 65 = a65, α 66 = a66, α 67 = a67, α 68 = a68, α 69 = a69, α 70 = a70 at *
  subst f0
  subst f1
  subst f3
  subst f5
  subst f7
  ((repeat' (first | apply And.intro | intro h)) <;> first | omega | rfl | trivial | (exfalso; omega)))
def w_xo_writeC_1_35 : VC := (([(0, 23), (0, 49), (1, 8), (0, 10), (0, 8), (0, 6), (0, 6), (0, 8), (0, 9), (0, 49), (0, 49), ((-2147483648), 2147483647), ((-2147483648), 2147483647), (0, 5), (0, 7), (3, 3), (1, 24), (0, 23), (0, 49), (0, 49), (0, 49), (0, 99), (0, 0), ((-2147483648), 2147483647)]), [(21, [(some 17, 0), (some 23, 0)], [70, 66]), (18, [(some 23, 0), (some 21, 0)], []), (0, [(some 22, 0), (none, 0)], []), (20, [(some 22, 0), (some 15, 0)], [46]), (0, [(some 15, 0), (none, 3)], []), (20, [(some 21, 0), (some 14, 0)], [67]), (91, [(some 19, 0), (some 20, 0), (some 18, 0), (some 17, 0), (none, 0), (none, 0)], [58, 59, 7, 8, 10, 11, 16, 20, 21, 24, 25, 60, 61, 62, 67, 68, 69]), (2, [(some 17, 0), (some 16, 0)], []), (150, [(some 18, 0), (some 2, 0), (some 3, 0), (some 4, 0), (some 5, 0), (some 6, 0)], [58, 59, 7, 8, 10, 11, 12, 13, 15, 16, 19, 20, 21, 23, 24, 25]), (149, [(some 19, 0), (some 17, 0), (some 2, 0), (some 3, 0), (some 4, 0), (some 5, 0), (some 6, 0), (none, 0), (none, 0)], [7, 8, 10, 11, 12, 13, 15, 16, 19, 20, 21, 23, 24, 25, 58, 60, 61, 62]), (147, [(some 16, 0), (some 14, 0), (some 15, 0), (some 2, 0)], [45, 46]), (161, [(some 17, 0), (some 14, 0), (some 15, 0), (some 2, 0), (some 3, 0), (some 4, 0), (some 5, 0), (some 6, 0), (none, 0), (none, 0)], [7, 8, 10, 11, 12, 13, 15, 16, 19, 20, 21, 23, 24, 25, 46, 41, 42, 43, 44, 63, 64, 65, 66]), (3, [(some 16, 0), (some 17, 0)], []), (3, [(some 15, 0), (none, 0)], []), (3, [(none, 3), (some 15, 0)], []), (3, [(some 14, 0), (none, 0)], []), (2, [(some 14, 0), (some 2, 0)], [])], (149, [(some 20, 0), (some 17, 1), (some 2, 0), (some 3, 0), (some 4, 0), (some 5, 0), (some 6, 0), (none, 0), (none, 0)], [7, 8, 10, 11, 12, 13, 15, 16, 19, 20, 21, 23, 24, 25, 58, 67, 68, 69]))
set_option maxRecDepth 20000 in
theorem v_xo_writeC_1_35 {PT : PTy} (hp : HP11 PT) : vcOk PT w_xo_writeC_1_35 := vc_of (fun ρ α hB hF => by
  obtain ⟨f0, f1, f2, f3, f4, f5, f6, f7, f8, f9, f10, f11, f12, f13, f14, f15, f16, -⟩ := hF
  have e91 : PT 91 = P_adE := hp.1.1.1.1.1.1.1.1.2.2.2.2.2.2.2.2.2.2.2.2.1
  have e147 : PT 147 = P_wrX := hp.2.1
  have e149 : PT 149 = P_yi := hp.2.2.2.1
  have e150 : PT 150 = P_ar2 := hp.2.2.2.2.1
  have e161 : PT 161 = P_wcX := hp.2.2.2.2.2.2.2.2.2.2.2.2.2.2.2.1
  simp only [hF0, hF2, hF3, hF18, hF20, hF21, hFp_91, hFp_147, hFp_149, hFp_150, hFp_161, e91, e147, e149, e150, e161, P_adE, P_wrX, P_yi, P_ar2, P_wcX, den_s, den_c, Int.add_zero, List.map_cons, List.map_nil] at f0 f1 f2 f3 f4 f5 f6 f7 f8 f9 f10 f11 f12 f13 f14 f15 f16 ⊢
  have b2 : (1 : Int) ≤ ρ 2 ∧ ρ 2 ≤ 8 := hB 2 (1, 8) rfl
  have b3 : (0 : Int) ≤ ρ 3 ∧ ρ 3 ≤ 10 := hB 3 (0, 10) rfl
  have b4 : (0 : Int) ≤ ρ 4 ∧ ρ 4 ≤ 8 := hB 4 (0, 8) rfl
  have b5 : (0 : Int) ≤ ρ 5 ∧ ρ 5 ≤ 6 := hB 5 (0, 6) rfl
  have b6 : (0 : Int) ≤ ρ 6 ∧ ρ 6 ≤ 6 := hB 6 (0, 6) rfl
  have b14 : (0 : Int) ≤ ρ 14 ∧ ρ 14 ≤ 7 := hB 14 (0, 7) rfl
  have b15 : (3 : Int) ≤ ρ 15 ∧ ρ 15 ≤ 3 := hB 15 (3, 3) rfl
  have b16 : (1 : Int) ≤ ρ 16 ∧ ρ 16 ≤ 24 := hB 16 (1, 24) rfl
  have b17 : (0 : Int) ≤ ρ 17 ∧ ρ 17 ≤ 23 := hB 17 (0, 23) rfl
  have b18 : (0 : Int) ≤ ρ 18 ∧ ρ 18 ≤ 49 := hB 18 (0, 49) rfl
  have b19 : (0 : Int) ≤ ρ 19 ∧ ρ 19 ≤ 49 := hB 19 (0, 49) rfl
  have b20 : (0 : Int) ≤ ρ 20 ∧ ρ 20 ≤ 49 := hB 20 (0, 49) rfl
  have b21 : (0 : Int) ≤ ρ 21 ∧ ρ 21 ≤ 99 := hB 21 (0, 99) rfl
  have b22 : (0 : Int) ≤ ρ 22 ∧ ρ 22 ≤ 0 := hB 22 (0, 0) rfl
  have b23 : ((-2147483648) : Int) ≤ ρ 23 ∧ ρ 23 ≤ 2147483647 := hB 23 ((-2147483648), 2147483647) rfl
  exact yI_s (f8).2 f9 (by omega) (f6).1)
def w_xo_writeC_1_36 : VC := (([(0, 23), (0, 49), (1, 8), (0, 10), (0, 8), (0, 6), (0, 6), (0, 8), (0, 9), (0, 49), (0, 49), ((-2147483648), 2147483647), ((-2147483648), 2147483647), (0, 5), (0, 7), (3, 3), (1, 24), (0, 23), (0, 49), (0, 49), (0, 49), (0, 99), (0, 0), ((-2147483648), 2147483647)]), [(21, [(some 17, 0), (some 23, 0)], [70, 66]), (18, [(some 23, 0), (some 21, 0)], []), (0, [(some 22, 0), (none, 0)], []), (20, [(some 22, 0), (some 15, 0)], [46]), (0, [(some 15, 0), (none, 3)], []), (20, [(some 21, 0), (some 14, 0)], [67]), (91, [(some 19, 0), (some 20, 0), (some 18, 0), (some 17, 0), (none, 0), (none, 0)], [58, 59, 7, 8, 10, 11, 16, 20, 21, 24, 25, 60, 61, 62, 67, 68, 69]), (2, [(some 17, 0), (some 16, 0)], []), (150, [(some 18, 0), (some 2, 0), (some 3, 0), (some 4, 0), (some 5, 0), (some 6, 0)], [58, 59, 7, 8, 10, 11, 12, 13, 15, 16, 19, 20, 21, 23, 24, 25]), (149, [(some 19, 0), (some 17, 0), (some 2, 0), (some 3, 0), (some 4, 0), (some 5, 0), (some 6, 0), (none, 0), (none, 0)], [7, 8, 10, 11, 12, 13, 15, 16, 19, 20, 21, 23, 24, 25, 58, 60, 61, 62]), (147, [(some 16, 0), (some 14, 0), (some 15, 0), (some 2, 0)], [45, 46]), (161, [(some 17, 0), (some 14, 0), (some 15, 0), (some 2, 0), (some 3, 0), (some 4, 0), (some 5, 0), (some 6, 0), (none, 0), (none, 0)], [7, 8, 10, 11, 12, 13, 15, 16, 19, 20, 21, 23, 24, 25, 46, 41, 42, 43, 44, 63, 64, 65, 66]), (3, [(some 16, 0), (some 17, 0)], []), (3, [(some 15, 0), (none, 0)], []), (3, [(none, 3), (some 15, 0)], []), (3, [(some 14, 0), (none, 0)], []), (2, [(some 14, 0), (some 2, 0)], [])], (161, [(some 17, 1), (some 14, 0), (some 15, 0), (some 2, 0), (some 3, 0), (some 4, 0), (some 5, 0), (some 6, 0), (none, 0), (none, 0)], [7, 8, 10, 11, 12, 13, 15, 16, 19, 20, 21, 23, 24, 25, 46, 41, 42, 43, 44, 63, 64, 65, 70]))
set_option maxRecDepth 20000 in
theorem v_xo_writeC_1_36 {PT : PTy} (hp : HP11 PT) : vcOk PT w_xo_writeC_1_36 := vc_of (fun ρ α hB hF => by
  obtain ⟨f0, f1, f2, f3, f4, f5, f6, f7, f8, f9, f10, f11, f12, f13, f14, f15, f16, -⟩ := hF
  have e91 : PT 91 = P_adE := hp.1.1.1.1.1.1.1.1.2.2.2.2.2.2.2.2.2.2.2.2.1
  have e147 : PT 147 = P_wrX := hp.2.1
  have e149 : PT 149 = P_yi := hp.2.2.2.1
  have e150 : PT 150 = P_ar2 := hp.2.2.2.2.1
  have e161 : PT 161 = P_wcX := hp.2.2.2.2.2.2.2.2.2.2.2.2.2.2.2.1
  simp only [hF0, hF2, hF3, hF18, hF20, hF21, hFp_91, hFp_147, hFp_149, hFp_150, hFp_161, e91, e147, e149, e150, e161, P_adE, P_wrX, P_yi, P_ar2, P_wcX, den_s, den_c, Int.add_zero, List.map_cons, List.map_nil] at f0 f1 f2 f3 f4 f5 f6 f7 f8 f9 f10 f11 f12 f13 f14 f15 f16 ⊢
  have b2 : (1 : Int) ≤ ρ 2 ∧ ρ 2 ≤ 8 := hB 2 (1, 8) rfl
  have b3 : (0 : Int) ≤ ρ 3 ∧ ρ 3 ≤ 10 := hB 3 (0, 10) rfl
  have b4 : (0 : Int) ≤ ρ 4 ∧ ρ 4 ≤ 8 := hB 4 (0, 8) rfl
  have b5 : (0 : Int) ≤ ρ 5 ∧ ρ 5 ≤ 6 := hB 5 (0, 6) rfl
  have b6 : (0 : Int) ≤ ρ 6 ∧ ρ 6 ≤ 6 := hB 6 (0, 6) rfl
  have b14 : (0 : Int) ≤ ρ 14 ∧ ρ 14 ≤ 7 := hB 14 (0, 7) rfl
  have b15 : (3 : Int) ≤ ρ 15 ∧ ρ 15 ≤ 3 := hB 15 (3, 3) rfl
  have b16 : (1 : Int) ≤ ρ 16 ∧ ρ 16 ≤ 24 := hB 16 (1, 24) rfl
  have b17 : (0 : Int) ≤ ρ 17 ∧ ρ 17 ≤ 23 := hB 17 (0, 23) rfl
  have b18 : (0 : Int) ≤ ρ 18 ∧ ρ 18 ≤ 49 := hB 18 (0, 49) rfl
  have b19 : (0 : Int) ≤ ρ 19 ∧ ρ 19 ≤ 49 := hB 19 (0, 49) rfl
  have b20 : (0 : Int) ≤ ρ 20 ∧ ρ 20 ≤ 49 := hB 20 (0, 49) rfl
  have b21 : (0 : Int) ≤ ρ 21 ∧ ρ 21 ≤ 99 := hB 21 (0, 99) rfl
  have b22 : (0 : Int) ≤ ρ 22 ∧ ρ 22 ≤ 0 := hB 22 (0, 0) rfl
  have b23 : ((-2147483648) : Int) ≤ ρ 23 ∧ ρ 23 ≤ 2147483647 := hB 23 ((-2147483648), 2147483647) rfl
  clear hB
  generalize ρ 2 = r2, ρ 3 = r3, ρ 4 = r4, ρ 5 = r5, ρ 6 = r6, ρ 14 = r14, ρ 15 = r15, ρ 16 = r16, ρ 17 = r17, ρ 18 = r18, ρ 19 = r19, ρ 20 = r20, ρ 21 = r21, ρ 22 = r22, ρ 23 = r23, α 7 = a7, α 8 = a8, α 10 = a10, α 11 = a11, α 12 = a12, α 13 = a13, α 15 = a15, α 16 = a16, α 19 = a19, α 20 = a20, α 21 = a21, α 23 = a23, α 24 = a24, α 25 = a25, α 41 = a41, α 42 = a42, α 43 = a43, α 44 = a44, α 45 = a45, α 46 = a46, α 58 = a58, α 59 = a59, α 60 = a60, α 61 = a61, α 62 = a62, α 63 = a63, α 64 = a64, α 65 = a65, α 66 = a66, α 67 = a67, α 68 = a68, α 69 = a69, α 70 = a70 at *
  subst f0
  subst f1
  subst f3
  subst f5
  have hy := yI_e (f8).2 (yI_s (f8).2 f9 (by omega) (f6).1) (f6).2
  have hw := f11
  rcases (show r15 = 0 ∨ r15 = 1 ∨ r15 = 2 ∨ r15 = 3 by omega) with z | z | z | z <;> subst z <;> first
    | (exfalso; omega)
    | (refine wcS_s hw (by omega) (by simp only [rowX_0, rowX_1, rowX_2, rowX_3]; rfl) ⟨_, _, _, hy, ?_⟩ (fun t h1 h2 h3 => ?_)
       · unfold cutF
         (repeat' split) <;> first | rfl | (exfalso; omega)
       · rcases (show t = 0 ∨ t = 1 ∨ t = 2 ∨ t = 3 by omega) with y | y | y | y <;> subst y <;> first | (exact absurd rfl h3) | (simp only [rowX_0, rowX_1, rowX_2, rowX_3])))
def w_xo_writeC_1_37 : VC := (([(0, 23), (0, 49), (1, 8), (0, 10), (0, 8), (0, 6), (0, 6), (0, 8), (0, 9), (0, 49), (0, 49), ((-2147483648), 2147483647), ((-2147483648), 2147483647), (0, 5), (0, 7), (3, 3), (1, 24), (0, 23), (0, 49), (0, 49), (0, 49), (0, 99), (0, 0), ((-2147483648), 2147483647)]), [(21, [(some 17, 0), (some 23, 0)], [70, 66]), (18, [(some 23, 0), (some 21, 0)], []), (0, [(some 22, 0), (none, 0)], []), (20, [(some 22, 0), (some 15, 0)], [46]), (0, [(some 15, 0), (none, 3)], []), (20, [(some 21, 0), (some 14, 0)], [67]), (91, [(some 19, 0), (some 20, 0), (some 18, 0), (some 17, 0), (none, 0), (none, 0)], [58, 59, 7, 8, 10, 11, 16, 20, 21, 24, 25, 60, 61, 62, 67, 68, 69]), (2, [(some 17, 0), (some 16, 0)], []), (150, [(some 18, 0), (some 2, 0), (some 3, 0), (some 4, 0), (some 5, 0), (some 6, 0)], [58, 59, 7, 8, 10, 11, 12, 13, 15, 16, 19, 20, 21, 23, 24, 25]), (149, [(some 19, 0), (some 17, 0), (some 2, 0), (some 3, 0), (some 4, 0), (some 5, 0), (some 6, 0), (none, 0), (none, 0)], [7, 8, 10, 11, 12, 13, 15, 16, 19, 20, 21, 23, 24, 25, 58, 60, 61, 62]), (147, [(some 16, 0), (some 14, 0), (some 15, 0), (some 2, 0)], [45, 46]), (161, [(some 17, 0), (some 14, 0), (some 15, 0), (some 2, 0), (some 3, 0), (some 4, 0), (some 5, 0), (some 6, 0), (none, 0), (none, 0)], [7, 8, 10, 11, 12, 13, 15, 16, 19, 20, 21, 23, 24, 25, 46, 41, 42, 43, 44, 63, 64, 65, 66]), (3, [(some 16, 0), (some 17, 0)], []), (3, [(some 15, 0), (none, 0)], []), (3, [(none, 3), (some 15, 0)], []), (3, [(some 14, 0), (none, 0)], []), (2, [(some 14, 0), (some 2, 0)], [])], (3, [(some 16, 0), (some 17, 1)], []))
set_option maxRecDepth 20000 in
theorem v_xo_writeC_1_37 {PT : PTy} (hp : HP11 PT) : vcOk PT w_xo_writeC_1_37 := vc_of (fun ρ α hB hF => by
  obtain ⟨f0, f1, f2, f3, f4, f5, f6, f7, f8, f9, f10, f11, f12, f13, f14, f15, f16, -⟩ := hF
  have e91 : PT 91 = P_adE := hp.1.1.1.1.1.1.1.1.2.2.2.2.2.2.2.2.2.2.2.2.1
  have e147 : PT 147 = P_wrX := hp.2.1
  have e149 : PT 149 = P_yi := hp.2.2.2.1
  have e150 : PT 150 = P_ar2 := hp.2.2.2.2.1
  have e161 : PT 161 = P_wcX := hp.2.2.2.2.2.2.2.2.2.2.2.2.2.2.2.1
  simp only [hF0, hF2, hF3, hF18, hF20, hF21, hFp_91, hFp_147, hFp_149, hFp_150, hFp_161, e91, e147, e149, e150, e161, P_adE, P_wrX, P_yi, P_ar2, P_wcX, den_s, den_c, Int.add_zero, List.map_cons, List.map_nil] at f0 f1 f2 f3 f4 f5 f6 f7 f8 f9 f10 f11 f12 f13 f14 f15 f16 ⊢
  have b2 : (1 : Int) ≤ ρ 2 ∧ ρ 2 ≤ 8 := hB 2 (1, 8) rfl
  have b3 : (0 : Int) ≤ ρ 3 ∧ ρ 3 ≤ 10 := hB 3 (0, 10) rfl
  have b4 : (0 : Int) ≤ ρ 4 ∧ ρ 4 ≤ 8 := hB 4 (0, 8) rfl
  have b5 : (0 : Int) ≤ ρ 5 ∧ ρ 5 ≤ 6 := hB 5 (0, 6) rfl
  have b6 : (0 : Int) ≤ ρ 6 ∧ ρ 6 ≤ 6 := hB 6 (0, 6) rfl
  have b14 : (0 : Int) ≤ ρ 14 ∧ ρ 14 ≤ 7 := hB 14 (0, 7) rfl
  have b15 : (3 : Int) ≤ ρ 15 ∧ ρ 15 ≤ 3 := hB 15 (3, 3) rfl
  have b16 : (1 : Int) ≤ ρ 16 ∧ ρ 16 ≤ 24 := hB 16 (1, 24) rfl
  have b17 : (0 : Int) ≤ ρ 17 ∧ ρ 17 ≤ 23 := hB 17 (0, 23) rfl
  have b18 : (0 : Int) ≤ ρ 18 ∧ ρ 18 ≤ 49 := hB 18 (0, 49) rfl
  have b19 : (0 : Int) ≤ ρ 19 ∧ ρ 19 ≤ 49 := hB 19 (0, 49) rfl
  have b20 : (0 : Int) ≤ ρ 20 ∧ ρ 20 ≤ 49 := hB 20 (0, 49) rfl
  have b21 : (0 : Int) ≤ ρ 21 ∧ ρ 21 ≤ 99 := hB 21 (0, 99) rfl
  have b22 : (0 : Int) ≤ ρ 22 ∧ ρ 22 ≤ 0 := hB 22 (0, 0) rfl
  have b23 : ((-2147483648) : Int) ≤ ρ 23 ∧ ρ 23 ≤ 2147483647 := hB 23 ((-2147483648), 2147483647) rfl
  clear hB
  generalize ρ 2 = r2, ρ 3 = r3, ρ 4 = r4, ρ 5 = r5, ρ 6 = r6, ρ 14 = r14, ρ 15 = r15, ρ 16 = r16, ρ 17 = r17, ρ 18 = r18, ρ 19 = r19, ρ 20 = r20, ρ 21 = r21, ρ 22 = r22, ρ 23 = r23, α 7 = a7, α 8 = a8, α 10 = a10, α 11 = a11, α 12 = a12, α 13 = a13, α 15 = a15, α 16 = a16, α 19 = a19, α 20 = a20, α 21 = a21, α 23 = a23, α 24 = a24, α 25 = a25, α 41 = a41, α 42 = a42, α 43 = a43, α 44 = a44, α 45 = a45, α 46 = a46, α 58 = a58, α 59 = a59, α 60 = a60, α 61 = a61, α 62 = a62, α 63 = a63, α 64 = a64, α 65 = a65, α 66 = a66, α 67 = a67, α 68 = a68, α 69 = a69, α 70 = a70 at *
  subst f0
  subst f1
  subst f3
  subst f5
  ((repeat' (first | apply And.intro | intro h)) <;> first | omega | rfl | trivial | (exfalso; omega)))
set_option maxRecDepth 1000000 in
theorem k_xo_writeC {PT : PTy} (hp : HP11 PT) : wfX c_xo_writeC = true ∧ xcOk PT c_xo_writeC := xctr (xl (k_arrange14 hp.1.1.1.1.1.1.1.1) (xl (k_begin14 hp.1.1.1.1.1.1.1) (xl (k_advance14 hp.1.1.1.1.1.1.1) (xl0)))) c_xo_writeC 81 mX6_write rfl h_xo_writeC (by decide +kernel) (by decide +kernel) (by decide) (vcs_by [w_xo_writeC_0_0, w_xo_writeC_0_1, w_xo_writeC_0_2, w_xo_writeC_0_3, w_xo_writeC_0_4, w_xo_writeC_0_5, w_xo_writeC_0_6, w_xo_writeC_0_7, w_xo_writeC_0_8, w_xo_writeC_0_9] (by decide +kernel) (vc (v_xo_writeC_0_0 hp) (vc (v_xo_writeC_0_1 hp) (vc (v_xo_writeC_0_2 hp) (vc (v_xo_writeC_0_3 hp) (vc (v_xo_writeC_0_4 hp) (vc (v_xo_writeC_0_5 hp) (vc (v_xo_writeC_0_6 hp) (vc (v_xo_writeC_0_7 hp) (vc (v_xo_writeC_0_8 hp) (vc (v_xo_writeC_0_9 hp) vn))))))))))) (fmc (vcs_by [w_xo_writeC_1_0, w_xo_writeC_1_1, w_xo_writeC_1_2, w_xo_writeC_1_3, w_xo_writeC_1_4, w_xo_writeC_1_5, w_xo_writeC_1_6, w_xo_writeC_1_7, w_xo_writeC_1_8, w_xo_writeC_1_9, w_xo_writeC_1_10, w_xo_writeC_1_11, w_xo_writeC_1_12, w_xo_writeC_1_13, w_xo_writeC_1_14, w_xo_writeC_1_15, w_xo_writeC_1_16, w_xo_writeC_1_17, w_xo_writeC_1_18, w_xo_writeC_1_19, w_xo_writeC_1_20, w_xo_writeC_1_21, w_xo_writeC_1_22, w_xo_writeC_1_23, w_xo_writeC_1_24, w_xo_writeC_1_25, w_xo_writeC_1_26, w_xo_writeC_1_27, w_xo_writeC_1_28, w_xo_writeC_1_29, w_xo_writeC_1_30, w_xo_writeC_1_31, w_xo_writeC_1_32, w_xo_writeC_1_33, w_xo_writeC_1_34, w_xo_writeC_1_35, w_xo_writeC_1_36, w_xo_writeC_1_37] (by decide +kernel) (vc (v_xo_writeC_1_0 hp) (vc (v_xo_writeC_1_1 hp) (vc (v_xo_writeC_1_2 hp) (vc (v_xo_writeC_1_3 hp) (vc (v_xo_writeC_1_4 hp) (vc (v_xo_writeC_1_5 hp) (vc (v_xo_writeC_1_6 hp) (vc (v_xo_writeC_1_7 hp) (vc (v_xo_writeC_1_8 hp) (vc (v_xo_writeC_1_9 hp) (vc (v_xo_writeC_1_10 hp) (vc (v_xo_writeC_1_11 hp) (vc (v_xo_writeC_1_12 hp) (vc (v_xo_writeC_1_13 hp) (vc (v_xo_writeC_1_14 hp) (vc (v_xo_writeC_1_15 hp) (vc (v_xo_writeC_1_16 hp) (vc (v_xo_writeC_1_17 hp) (vc (v_xo_writeC_1_18 hp) (vc (v_xo_writeC_1_19 hp) (vc (v_xo_writeC_1_20 hp) (vc (v_xo_writeC_1_21 hp) (vc (v_xo_writeC_1_22 hp) (vc (v_xo_writeC_1_23 hp) (vc (v_xo_writeC_1_24 hp) (vc (v_xo_writeC_1_25 hp) (vc (v_xo_writeC_1_26 hp) (vc (v_xo_writeC_1_27 hp) (vc (v_xo_writeC_1_28 hp) (vc (v_xo_writeC_1_29 hp) (vc (v_xo_writeC_1_30 hp) (vc (v_xo_writeC_1_31 hp) (vc (v_xo_writeC_1_32 hp) (vc (v_xo_writeC_1_33 hp) (vc (v_xo_writeC_1_34 hp) (vc (v_xo_writeC_1_35 hp) (vc (v_xo_writeC_1_36 hp) (vc (v_xo_writeC_1_37 hp) vn))))))))))))))))))))))))))))))))))))))) fmn)
