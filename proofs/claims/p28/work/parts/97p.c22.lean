/-! ===== plans; printed by wip/gen/x ===== -/
def P_lnX (l : List Int) (a : List (Int → Int)) : Prop := match l, a with
  | [r, h, n, m, nk, nl, nt, u], [so, sz, wh, gr, md, du, kd, ko, ld, lw, lm, td, tw, tm] => u = 0 → hqX n m nk nl nt so sz wh gr md du kd ko ld lw lm td tw tm h r
  | _, _ => False
theorem hFp_212 {PT : PTy} {ρ : Nat → Int} {α : Nat → Int → Int} (l : List AN) (a : List Nat) : hF PT ρ α (212, l, a) = PT 212 (l.map (den ρ)) (a.map α) := rfl
def P_hu1 (l : List Int) (a : List (Int → Int)) : Prop := match l, a with
  | [i, n, m, nk, nl, nt], [so, sz, wh, gr, md, du, kd, ko, ld, lw, lm, td, tw, tm] => hu1 (hqX n m nk nl nt so sz wh gr md du kd ko ld lw lm td tw tm) i
  | _, _ => False
theorem hFp_213 {PT : PTy} {ρ : Nat → Int} {α : Nat → Int → Int} (l : List AN) (a : List Nat) : hF PT ρ α (213, l, a) = PT 213 (l.map (den ρ)) (a.map α) := rfl
def P_hu2 (l : List Int) (a : List (Int → Int)) : Prop := match l, a with
  | [a, b, n, m, nk, nl, nt], [so, sz, wh, gr, md, du, kd, ko, ld, lw, lm, td, tw, tm] => hu2 (hqX n m nk nl nt so sz wh gr md du kd ko ld lw lm td tw tm) nl a b
  | _, _ => False
theorem hFp_214 {PT : PTy} {ρ : Nat → Int} {α : Nat → Int → Int} (l : List AN) (a : List Nat) : hF PT ρ α (214, l, a) = PT 214 (l.map (den ρ)) (a.map α) := rfl
def P_hu3 (l : List Int) (a : List (Int → Int)) : Prop := match l, a with
  | [a, n, m, nk, nl, nt], [so, sz, wh, gr, md, du, kd, ko, ld, lw, lm, td, tw, tm] => hu3 (hqX n m nk nl nt so sz wh gr md du kd ko ld lw lm td tw tm) nl a
  | _, _ => False
theorem hFp_215 {PT : PTy} {ρ : Nat → Int} {α : Nat → Int → Int} (l : List AN) (a : List Nat) : hF PT ρ α (215, l, a) = PT 215 (l.map (den ρ)) (a.map α) := rfl
def P_hsX (l : List Int) (a : List (Int → Int)) : Prop := match l, a with
  | [r, n, m, nk, nl, nt], [so, sz, wh, gr, md, du, kd, ko, ld, lw, lm, td, tw, tm] => ∃ c a b, huR (hqX n m nk nl nt so sz wh gr md du kd ko ld lw lm td tw tm) nl c a b ∧ (c = 0 → r = 0) ∧ (c = 1 → r = l1 a) ∧ (c = 2 → r = l2 a b) ∧ (c = -1 → r = -1)
  | _, _ => False
theorem hFp_216 {PT : PTy} {ρ : Nat → Int} {α : Nat → Int → Int} (l : List AN) (a : List Nat) : hF PT ρ α (216, l, a) = PT 216 (l.map (den ρ)) (a.map α) := rfl
def P_ihY (l : List Int) (a : List (Int → Int)) : Prop := match l, a with
  | [r, h, n, m, nk, nl, nt, m1, u], [so, sz, wh, gr, md, du, KD, KO, ld, lw, lm, td, tw, tm] => m1 = m → u = 0 → hqY n m nk nl nt so sz wh gr md du KD KO ld lw lm td tw tm h r
  | _, _ => False
theorem hFp_217 {PT : PTy} {ρ : Nat → Int} {α : Nat → Int → Int} (l : List AN) (a : List Nat) : hF PT ρ α (217, l, a) = PT 217 (l.map (den ρ)) (a.map α) := rfl
def P_hv1 (l : List Int) (a : List (Int → Int)) : Prop := match l, a with
  | [i, n, m, nk, nl, nt], [so, sz, wh, gr, md, du, KD, KO, ld, lw, lm, td, tw, tm] => hu1 (hqY n m nk nl nt so sz wh gr md du KD KO ld lw lm td tw tm) i
  | _, _ => False
theorem hFp_218 {PT : PTy} {ρ : Nat → Int} {α : Nat → Int → Int} (l : List AN) (a : List Nat) : hF PT ρ α (218, l, a) = PT 218 (l.map (den ρ)) (a.map α) := rfl
def P_hv2 (l : List Int) (a : List (Int → Int)) : Prop := match l, a with
  | [a, b, n, m, nk, nl, nt], [so, sz, wh, gr, md, du, KD, KO, ld, lw, lm, td, tw, tm] => hu2 (hqY n m nk nl nt so sz wh gr md du KD KO ld lw lm td tw tm) nl a b
  | _, _ => False
theorem hFp_219 {PT : PTy} {ρ : Nat → Int} {α : Nat → Int → Int} (l : List AN) (a : List Nat) : hF PT ρ α (219, l, a) = PT 219 (l.map (den ρ)) (a.map α) := rfl
def P_hv3 (l : List Int) (a : List (Int → Int)) : Prop := match l, a with
  | [a, n, m, nk, nl, nt], [so, sz, wh, gr, md, du, KD, KO, ld, lw, lm, td, tw, tm] => hu3 (hqY n m nk nl nt so sz wh gr md du KD KO ld lw lm td tw tm) nl a
  | _, _ => False
theorem hFp_220 {PT : PTy} {ρ : Nat → Int} {α : Nat → Int → Int} (l : List AN) (a : List Nat) : hF PT ρ α (220, l, a) = PT 220 (l.map (den ρ)) (a.map α) := rfl
def P_hbY (l : List Int) (a : List (Int → Int)) : Prop := match l, a with
  | [c, n, m, nk, nl, nt], [L, T, so, sz, wh, gr, md, du, KD, KO, kd, ko, ld, lw, lm, td, tw, tm, PR] => toY n m nk L T so sz wh gr md du KD KO kd ko ∧ ∃ a b, huR (hqY n m nk nl nt so sz wh gr md du KD KO ld lw lm td tw tm) nl c a b ∧ (1 ≤ c → PR 0 = a) ∧ (c = 2 → PR 1 = b)
  | _, _ => False
theorem hFp_221 {PT : PTy} {ρ : Nat → Int} {α : Nat → Int → Int} (l : List AN) (a : List Nat) : hF PT ρ α (221, l, a) = PT 221 (l.map (den ρ)) (a.map α) := rfl
def P_ohY (l : List Int) (a : List (Int → Int)) : Prop := match l, a with
  | [r, i, n, m, nk, nl, nt], [L, T, so, sz, wh, gr, md, du, KD, KO, kd, ko, ld, lw, lm, td, tw, tm] => (¬ (-1 ≤ i ∧ i ≤ 1) → r = -2) ∧ (-1 ≤ i ∧ i ≤ 1 → toY n m nk L T so sz wh gr md du KD KO kd ko ∧ ∃ c a b, huR (hqY n m nk nl nt so sz wh gr md du KD KO ld lw lm td tw tm) nl c a b ∧ (i = -1 → r = c) ∧ (0 ≤ i → c ≤ i → r = -1) ∧ (i = 0 → 1 ≤ c → r = a) ∧ (i = 1 → c = 2 → r = b))
  | _, _ => False
theorem hFp_222 {PT : PTy} {ρ : Nat → Int} {α : Nat → Int → Int} (l : List AN) (a : List Nat) : hF PT ρ α (222, l, a) = PT 222 (l.map (den ρ)) (a.map α) := rfl
def P_ohX (l : List Int) (a : List (Int → Int)) : Prop := match l, a with
  | [r, i, n, m, nk, nl, nt], [so, sz, wh, gr, md, du, kd, ko, ld, lw, lm, td, tw, tm] => (¬ (-1 ≤ i ∧ i ≤ 1) → r = -2) ∧ (-1 ≤ i ∧ i ≤ 1 → ∃ c a b, huR (hqX n m nk nl nt so sz wh gr md du kd ko ld lw lm td tw tm) nl c a b ∧ (i = -1 → r = c) ∧ (0 ≤ i → c ≤ i → r = -1) ∧ (i = 0 → 1 ≤ c → r = a) ∧ (i = 1 → c = 2 → r = b))
  | _, _ => False
theorem hFp_223 {PT : PTy} {ρ : Nat → Int} {α : Nat → Int → Int} (l : List AN) (a : List Nat) : hF PT ρ α (223, l, a) = PT 223 (l.map (den ρ)) (a.map α) := rfl
def HP18 (PT : PTy) : Prop := HP17 PT ∧ (PT 212 = P_lnX ∧ PT 213 = P_hu1 ∧ PT 214 = P_hu2 ∧ PT 215 = P_hu3 ∧ PT 216 = P_hsX ∧ PT 217 = P_ihY ∧ PT 218 = P_hv1 ∧ PT 219 = P_hv2 ∧ PT 220 = P_hv3 ∧ PT 221 = P_hbY ∧ PT 222 = P_ohY ∧ PT 223 = P_ohX ∧ True)
def c_lnNaked : XC := (91, 3, (bX ++ [((-2147483648), 2147483647)]), [.inr (.inl 0), .inl (some 14, 0)], (gX 14), [(150, [(some 9, 0), (some 2, 0), (some 3, 0), (some 4, 0), (some 5, 0), (some 6, 0)], [26, 27, 7, 8, 10, 11, 12, 13, 15, 16, 19, 20, 21, 23, 24, 25])], [((bX ++ [((-2147483648), 2147483647), (0, 1), (0, 49)]), some (.inl (some 15, 0)), (hst (gX 14) [(5, .inr (.inr (.inr (0, [.inr (.inl 6), .inr (.inl 9), .inr (.inl 14), .inr (.inl 18), .inr (.inl 22), .inr (.inl 26), .inr (.inl 27), .inr (.inl 28), .inr (.inl 29), .inr (.inl 30), .inl (some 9, 0), .inl (some 16, 0), .inl (some 11, 0), .inl (some 14, 0), .inr (.inl 14)]))))]), (ansT 58 [(28, 58), (29, 59), (30, 60)]), 61, [(212, [(some 15, 0), (some 14, 0), (some 2, 0), (some 3, 0), (some 4, 0), (some 5, 0), (some 6, 0), (some 11, 0)], [7, 8, 10, 11, 12, 13, 15, 16, 19, 20, 21, 23, 24, 25])])])
def h_lnNaked : List XH := []
def w_lnNaked_0_0 : VC := ((bX ++ [((-2147483648), 2147483647)]), [(89, [], [8, 58, 59, 60]), (150, [(some 9, 0), (some 2, 0), (some 3, 0), (some 4, 0), (some 5, 0), (some 6, 0)], [26, 27, 7, 8, 10, 11, 12, 13, 15, 16, 19, 20, 21, 23, 24, 25])], (87, [(some 9, 0)], [26, 27]))
set_option maxRecDepth 20000 in
theorem v_lnNaked_0_0 {PT : PTy} (hp : HP18 PT) : vcOk PT w_lnNaked_0_0 := vc_of (fun ρ α hB hF => by
  obtain ⟨f0, f1, -⟩ := hF
  have e87 : PT 87 = P_pr := hp.1.1.1.1.1.1.1.1.1.1.1.1.1.1.1.2.2.2.2.2.2.2.2.1
  have e89 : PT 89 = P_bg := hp.1.1.1.1.1.1.1.1.1.1.1.1.1.1.1.2.2.2.2.2.2.2.2.2.2.1
  have e150 : PT 150 = P_ar2 := hp.1.1.1.1.1.1.1.2.2.2.2.1
  simp only [hFp_87, hFp_89, hFp_150, e87, e89, e150, P_pr, P_bg, P_ar2, den_s, den_c, Int.add_zero, List.map_cons, List.map_nil] at f0 f1 ⊢
  have b2 : (0 : Int) ≤ ρ 2 ∧ ρ 2 ≤ 8 := hB 2 (0, 8) rfl
  have b3 : (0 : Int) ≤ ρ 3 ∧ ρ 3 ≤ 11 := hB 3 (0, 11) rfl
  have b4 : (0 : Int) ≤ ρ 4 ∧ ρ 4 ≤ 9 := hB 4 (0, 9) rfl
  have b5 : (0 : Int) ≤ ρ 5 ∧ ρ 5 ≤ 6 := hB 5 (0, 6) rfl
  have b6 : (0 : Int) ≤ ρ 6 ∧ ρ 6 ≤ 6 := hB 6 (0, 6) rfl
  have b9 : (0 : Int) ≤ ρ 9 ∧ ρ 9 ≤ 49 := hB 9 (0, 49) rfl
  exact (f1).1)
def w_lnNaked_0_1 : VC := ((bX ++ [((-2147483648), 2147483647), (0, 49), ((-2147483648), 2147483647)]), [(1, [(some 16, 0), (none, 0)], []), (93, [(some 16, 0), (some 2, 0)], [61]), (91, [(none, 0), (some 15, 0), (some 9, 0), (none, 23), (some 11, 0), (some 14, 0)], [26, 27, 7, 8, 10, 11, 16, 20, 21, 24, 25, 58, 59, 60, 61, 62, 63]), (89, [], [8, 58, 59, 60]), (150, [(some 9, 0), (some 2, 0), (some 3, 0), (some 4, 0), (some 5, 0), (some 6, 0)], [26, 27, 7, 8, 10, 11, 12, 13, 15, 16, 19, 20, 21, 23, 24, 25])], (212, [(none, 0), (some 14, 0), (some 2, 0), (some 3, 0), (some 4, 0), (some 5, 0), (some 6, 0), (some 11, 0)], [7, 8, 10, 11, 12, 13, 15, 16, 19, 20, 21, 23, 24, 25]))
set_option maxRecDepth 20000 in
theorem v_lnNaked_0_1 {PT : PTy} (hp : HP18 PT) : vcOk PT w_lnNaked_0_1 := vc_of (fun ρ α hB hF => by
  obtain ⟨f0, f1, f2, f3, f4, -⟩ := hF
  have e89 : PT 89 = P_bg := hp.1.1.1.1.1.1.1.1.1.1.1.1.1.1.1.2.2.2.2.2.2.2.2.2.2.1
  have e91 : PT 91 = P_adE := hp.1.1.1.1.1.1.1.1.1.1.1.1.1.1.1.2.2.2.2.2.2.2.2.2.2.2.2.1
  have e93 : PT 93 = P_nkd := hp.1.1.1.1.1.1.1.1.1.1.1.1.1.1.2.2.1
  have e150 : PT 150 = P_ar2 := hp.1.1.1.1.1.1.1.2.2.2.2.1
  have e212 : PT 212 = P_lnX := hp.2.1
  simp only [hF1, hFp_89, hFp_91, hFp_93, hFp_150, hFp_212, e89, e91, e93, e150, e212, P_bg, P_adE, P_nkd, P_ar2, P_lnX, den_s, den_c, Int.add_zero, List.map_cons, List.map_nil] at f0 f1 f2 f3 f4 ⊢
  have b2 : (0 : Int) ≤ ρ 2 ∧ ρ 2 ≤ 8 := hB 2 (0, 8) rfl
  have b3 : (0 : Int) ≤ ρ 3 ∧ ρ 3 ≤ 11 := hB 3 (0, 11) rfl
  have b4 : (0 : Int) ≤ ρ 4 ∧ ρ 4 ≤ 9 := hB 4 (0, 9) rfl
  have b5 : (0 : Int) ≤ ρ 5 ∧ ρ 5 ≤ 6 := hB 5 (0, 6) rfl
  have b6 : (0 : Int) ≤ ρ 6 ∧ ρ 6 ≤ 6 := hB 6 (0, 6) rfl
  have b9 : (0 : Int) ≤ ρ 9 ∧ ρ 9 ≤ 49 := hB 9 (0, 49) rfl
  have b11 : ((-2147483648) : Int) ≤ ρ 11 ∧ ρ 11 ≤ 2147483647 := hB 11 ((-2147483648), 2147483647) rfl
  have b14 : ((-2147483648) : Int) ≤ ρ 14 ∧ ρ 14 ≤ 2147483647 := hB 14 ((-2147483648), 2147483647) rfl
  have b15 : (0 : Int) ≤ ρ 15 ∧ ρ 15 ≤ 49 := hB 15 (0, 49) rfl
  have b16 : ((-2147483648) : Int) ≤ ρ 16 ∧ ρ 16 ≤ 2147483647 := hB 16 ((-2147483648), 2147483647) rfl
  clear hB
  generalize ρ 2 = r2, ρ 3 = r3, ρ 4 = r4, ρ 5 = r5, ρ 6 = r6, ρ 9 = r9, ρ 11 = r11, ρ 14 = r14, ρ 15 = r15, ρ 16 = r16, α 7 = a7, α 8 = a8, α 10 = a10, α 11 = a11, α 12 = a12, α 13 = a13, α 15 = a15, α 16 = a16, α 19 = a19, α 20 = a20, α 21 = a21, α 23 = a23, α 24 = a24, α 25 = a25, α 26 = a26, α 27 = a27, α 58 = a58, α 59 = a59, α 60 = a60, α 61 = a61, α 62 = a62, α 63 = a63 at *
  have hy := yX_by (f4).2 f3 f2
  have hk := f1
  intro e
  subst e
  first
    | exact ⟨_, _, _, hy, Or.inl ⟨by first | rfl | trivial, by rw [show nkdF _ _ = _ from hk.symm]; omega⟩⟩
    | exact ⟨_, _, _, hy, Or.inr ⟨by first | rfl | trivial, by rw [show nkdF _ _ = _ from hk.symm]; omega⟩⟩)
def w_lnNaked_0_2 : VC := ((bX ++ [((-2147483648), 2147483647), (0, 49), (0, 0)]), [(0, [(some 16, 0), (none, 0)], []), (93, [(some 16, 0), (some 2, 0)], [61]), (91, [(none, 0), (some 15, 0), (some 9, 0), (none, 23), (some 11, 0), (some 14, 0)], [26, 27, 7, 8, 10, 11, 16, 20, 21, 24, 25, 58, 59, 60, 61, 62, 63]), (89, [], [8, 58, 59, 60]), (150, [(some 9, 0), (some 2, 0), (some 3, 0), (some 4, 0), (some 5, 0), (some 6, 0)], [26, 27, 7, 8, 10, 11, 12, 13, 15, 16, 19, 20, 21, 23, 24, 25])], (212, [(none, 1), (some 14, 0), (some 2, 0), (some 3, 0), (some 4, 0), (some 5, 0), (some 6, 0), (some 11, 0)], [7, 8, 10, 11, 12, 13, 15, 16, 19, 20, 21, 23, 24, 25]))
set_option maxRecDepth 20000 in
theorem v_lnNaked_0_2 {PT : PTy} (hp : HP18 PT) : vcOk PT w_lnNaked_0_2 := vc_of (fun ρ α hB hF => by
  obtain ⟨f0, f1, f2, f3, f4, -⟩ := hF
  have e89 : PT 89 = P_bg := hp.1.1.1.1.1.1.1.1.1.1.1.1.1.1.1.2.2.2.2.2.2.2.2.2.2.1
  have e91 : PT 91 = P_adE := hp.1.1.1.1.1.1.1.1.1.1.1.1.1.1.1.2.2.2.2.2.2.2.2.2.2.2.2.1
  have e93 : PT 93 = P_nkd := hp.1.1.1.1.1.1.1.1.1.1.1.1.1.1.2.2.1
  have e150 : PT 150 = P_ar2 := hp.1.1.1.1.1.1.1.2.2.2.2.1
  have e212 : PT 212 = P_lnX := hp.2.1
  simp only [hF0, hFp_89, hFp_91, hFp_93, hFp_150, hFp_212, e89, e91, e93, e150, e212, P_bg, P_adE, P_nkd, P_ar2, P_lnX, den_s, den_c, Int.add_zero, List.map_cons, List.map_nil] at f0 f1 f2 f3 f4 ⊢
  have b2 : (0 : Int) ≤ ρ 2 ∧ ρ 2 ≤ 8 := hB 2 (0, 8) rfl
  have b3 : (0 : Int) ≤ ρ 3 ∧ ρ 3 ≤ 11 := hB 3 (0, 11) rfl
  have b4 : (0 : Int) ≤ ρ 4 ∧ ρ 4 ≤ 9 := hB 4 (0, 9) rfl
  have b5 : (0 : Int) ≤ ρ 5 ∧ ρ 5 ≤ 6 := hB 5 (0, 6) rfl
  have b6 : (0 : Int) ≤ ρ 6 ∧ ρ 6 ≤ 6 := hB 6 (0, 6) rfl
  have b9 : (0 : Int) ≤ ρ 9 ∧ ρ 9 ≤ 49 := hB 9 (0, 49) rfl
  have b11 : ((-2147483648) : Int) ≤ ρ 11 ∧ ρ 11 ≤ 2147483647 := hB 11 ((-2147483648), 2147483647) rfl
  have b14 : ((-2147483648) : Int) ≤ ρ 14 ∧ ρ 14 ≤ 2147483647 := hB 14 ((-2147483648), 2147483647) rfl
  have b15 : (0 : Int) ≤ ρ 15 ∧ ρ 15 ≤ 49 := hB 15 (0, 49) rfl
  have b16 : (0 : Int) ≤ ρ 16 ∧ ρ 16 ≤ 0 := hB 16 (0, 0) rfl
  clear hB
  generalize ρ 2 = r2, ρ 3 = r3, ρ 4 = r4, ρ 5 = r5, ρ 6 = r6, ρ 9 = r9, ρ 11 = r11, ρ 14 = r14, ρ 15 = r15, ρ 16 = r16, α 7 = a7, α 8 = a8, α 10 = a10, α 11 = a11, α 12 = a12, α 13 = a13, α 15 = a15, α 16 = a16, α 19 = a19, α 20 = a20, α 21 = a21, α 23 = a23, α 24 = a24, α 25 = a25, α 26 = a26, α 27 = a27, α 58 = a58, α 59 = a59, α 60 = a60, α 61 = a61, α 62 = a62, α 63 = a63 at *
  have hy := yX_by (f4).2 f3 f2
  have hk := f1
  intro e
  subst e
  first
    | exact ⟨_, _, _, hy, Or.inl ⟨by first | rfl | trivial, by rw [show nkdF _ _ = _ from hk.symm]; omega⟩⟩
    | exact ⟨_, _, _, hy, Or.inr ⟨by first | rfl | trivial, by rw [show nkdF _ _ = _ from hk.symm]; omega⟩⟩)
set_option maxRecDepth 1000000 in
theorem k_lnNaked {PT : PTy} (hp : HP18 PT) : wfX c_lnNaked = true ∧ xcOk PT c_lnNaked := xctr (xl (k_begin14 hp.1.1.1.1.1.1.1.1.1.1.1.1.1.1) (xl (k_advance14 hp.1.1.1.1.1.1.1.1.1.1.1.1.1.1) (xl (k_nakedBits14 hp.1.1.1.1.1.1.1.1.1.1.1.1.1.1) (xl0)))) c_lnNaked 38 mX6_leavesNobodyNaked rfl h_lnNaked (by decide +kernel) (by decide +kernel) (by decide) (vcs_by [w_lnNaked_0_0, w_lnNaked_0_1, w_lnNaked_0_2] (by decide +kernel) (vc (v_lnNaked_0_0 hp) (vc (v_lnNaked_0_1 hp) (vc (v_lnNaked_0_2 hp) vn)))) fmn
def c_toHush : XC := (90, 4, (bT), [.inr (.inl 0)], (gX 999), [], [((bT ++ [((-2147483648), 2147483647), (0, 49), (0, 49), ((-2147483648), 2147483647)]), some (.inl (some 14, 0)), (hst (gX 14) [(5, .inr (.inr (.inr (0, [.inr (.inl 6), .inr (.inl 9), .inr (.inl 14), .inr (.inl 18), .inr (.inl 22), .inr (.inl 26), .inr (.inl 27), .inr (.inl 28), .inr (.inl 29), .inr (.inl 30), .inl (some 15, 0), .inl (some 16, 0), .inl (none, 0), .inl (some 17, 0), .inr (.inl 14)]))))]), (ansT 58 [(26, 58), (27, 59), (28, 60), (29, 61), (30, 62)]), 63, [(216, [(some 14, 0), (some 2, 0), (some 3, 0), (some 4, 0), (some 5, 0), (some 6, 0)], [7, 8, 10, 11, 12, 13, 15, 16, 19, 20, 21, 23, 24, 25])])])
def h_toHush : List XH := [(23, (bT ++ [(0, 6), (0, 49), (0, 49), ((-2147483648), 2147483647)]), [some (.inr (.inl 0)), some (.inl (some 14, 0)), none], (hst (gX 14) [(5, .inr (.inr (.inr (0, [.inr (.inl 6), .inr (.inl 9), .inr (.inl 14), .inr (.inl 18), .inr (.inl 22), .inr (.inl 26), .inr (.inl 27), .inr (.inl 28), .inr (.inl 29), .inr (.inl 30), .inl (some 15, 0), .inl (some 16, 0), .inl (none, 0), .inl (some 17, 0), .inr (.inl 14)]))))]), (ansT 58 [(26, 58), (27, 59), (28, 60), (29, 61), (30, 62)]), 63, [(150, [(some 15, 0), (some 2, 0), (some 3, 0), (some 4, 0), (some 5, 0), (some 6, 0)], [58, 59, 7, 8, 10, 11, 12, 13, 15, 16, 19, 20, 21, 23, 24, 25]), (213, [(some 14, 0), (some 2, 0), (some 3, 0), (some 4, 0), (some 5, 0), (some 6, 0)], [7, 8, 10, 11, 12, 13, 15, 16, 19, 20, 21, 23, 24, 25]), (3, [(some 5, 0), (some 14, 0)], []), (0, [(none, 0), (none, 0)], [])], [(true, (none, 1)), (true, (some 14, 0)), (true, (none, 0)), (true, (none, 0))]),
  (56, (bT ++ [(0, 6), (0, 49), (0, 49), ((-2147483648), 2147483647)]), [some (.inr (.inl 0)), some (.inl (some 14, 0)), none], (hst (gX 14) [(5, .inr (.inr (.inr (0, [.inr (.inl 6), .inr (.inl 9), .inr (.inl 14), .inr (.inl 18), .inr (.inl 22), .inr (.inl 26), .inr (.inl 27), .inr (.inl 28), .inr (.inl 29), .inr (.inl 30), .inl (some 15, 0), .inl (some 16, 0), .inl (none, 0), .inl (some 17, 0), .inr (.inl 14)]))))]), (ansT 58 [(26, 58), (27, 59), (28, 60), (29, 61), (30, 62)]), 63, [(150, [(some 15, 0), (some 2, 0), (some 3, 0), (some 4, 0), (some 5, 0), (some 6, 0)], [58, 59, 7, 8, 10, 11, 12, 13, 15, 16, 19, 20, 21, 23, 24, 25]), (215, [(some 14, 0), (some 2, 0), (some 3, 0), (some 4, 0), (some 5, 0), (some 6, 0)], [7, 8, 10, 11, 12, 13, 15, 16, 19, 20, 21, 23, 24, 25]), (3, [(some 5, 0), (some 14, 0)], []), (0, [(none, 0), (none, 0)], [])], [(true, (none, 2)), (true, (some 14, 0)), (true, (none, 0)), (true, (none, 0))]),
  (71, ([(0, 23), (0, 49), (0, 8), (0, 10), (0, 8), (1, 6), (0, 6), (0, 8), (0, 9), (0, 49), (0, 49), ((-2147483648), 2147483647), ((-2147483648), 2147483647), (0, 5), (0, 5), (1, 6), (0, 49), (0, 49), ((-2147483648), 2147483647)]), [some (.inr (.inl 0)), some (.inl (some 14, 0)), some (.inl (some 15, 0))], (hst (gX 14) [(5, .inr (.inr (.inr (0, [.inr (.inl 6), .inr (.inl 9), .inr (.inl 14), .inr (.inl 18), .inr (.inl 22), .inr (.inl 26), .inr (.inl 27), .inr (.inl 28), .inr (.inl 29), .inr (.inl 30), .inl (some 16, 0), .inl (some 17, 0), .inl (none, 0), .inl (some 18, 0), .inr (.inl 14)]))))]), (ansT 58 [(26, 58), (27, 59), (28, 60), (29, 61), (30, 62)]), 63, [(150, [(some 16, 0), (some 2, 0), (some 3, 0), (some 4, 0), (some 5, 0), (some 6, 0)], [58, 59, 7, 8, 10, 11, 12, 13, 15, 16, 19, 20, 21, 23, 24, 25]), (214, [(some 14, 0), (some 15, 0), (some 2, 0), (some 3, 0), (some 4, 0), (some 5, 0), (some 6, 0)], [7, 8, 10, 11, 12, 13, 15, 16, 19, 20, 21, 23, 24, 25]), (3, [(some 5, 0), (some 15, 0)], []), (2, [(some 14, 0), (some 15, 0)], []), (2, [(some 14, 0), (some 5, 0)], []), (0, [(none, 0), (none, 0)], [])], [(true, (none, 2)), (true, (some 14, 0)), (true, (none, 1)), (true, (some 15, 0))])]
def w_toHush_0_0 : VC := ((bT ++ [(0, 49)]), [(86, [(some 2, 0), (some 3, 0), (some 4, 0), (some 5, 0), (some 6, 0), (some 14, 0)], [58, 59, 10, 12, 13, 15, 16, 19, 20, 23, 24])], (150, [(some 14, 0), (some 2, 0), (some 3, 0), (some 4, 0), (some 5, 0), (some 6, 0)], [58, 59, 7, 8, 10, 11, 12, 13, 15, 16, 19, 20, 21, 23, 24, 25]))
set_option maxRecDepth 20000 in
theorem v_toHush_0_0 {PT : PTy} (hp : HP18 PT) : vcOk PT w_toHush_0_0 := vc_of (fun ρ α hB hF => by
  obtain ⟨f0, -⟩ := hF
  have e86 : PT 86 = P_arr := hp.1.1.1.1.1.1.1.1.1.1.1.1.1.1.1.2.2.2.2.2.2.2.1
  have e150 : PT 150 = P_ar2 := hp.1.1.1.1.1.1.1.2.2.2.2.1
  simp only [hFp_86, hFp_150, e86, e150, P_arr, P_ar2, den_s, den_c, Int.add_zero, List.map_cons, List.map_nil] at f0 ⊢
  have b2 : (0 : Int) ≤ ρ 2 ∧ ρ 2 ≤ 8 := hB 2 (0, 8) rfl
  have b3 : (0 : Int) ≤ ρ 3 ∧ ρ 3 ≤ 10 := hB 3 (0, 10) rfl
  have b4 : (0 : Int) ≤ ρ 4 ∧ ρ 4 ≤ 8 := hB 4 (0, 8) rfl
  have b5 : (0 : Int) ≤ ρ 5 ∧ ρ 5 ≤ 6 := hB 5 (0, 6) rfl
  have b6 : (0 : Int) ≤ ρ 6 ∧ ρ 6 ≤ 6 := hB 6 (0, 6) rfl
  have b14 : (0 : Int) ≤ ρ 14 ∧ ρ 14 ≤ 49 := hB 14 (0, 49) rfl
  exact f0)
def w_toHush_0_1 : VC := ((bT ++ [(0, 49), (0, 0), (0, 49)]), [(0, [(some 15, 0), (none, 0)], []), (212, [(some 15, 0), (none, 0), (some 2, 0), (some 3, 0), (some 4, 0), (some 5, 0), (some 6, 0), (none, 0)], [7, 8, 10, 11, 12, 13, 15, 16, 19, 20, 21, 23, 24, 25]), (86, [(some 2, 0), (some 3, 0), (some 4, 0), (some 5, 0), (some 6, 0), (some 14, 0)], [58, 59, 10, 12, 13, 15, 16, 19, 20, 23, 24])], (150, [(some 14, 0), (some 2, 0), (some 3, 0), (some 4, 0), (some 5, 0), (some 6, 0)], [58, 59, 7, 8, 10, 11, 12, 13, 15, 16, 19, 20, 21, 23, 24, 25]))
set_option maxRecDepth 20000 in
theorem v_toHush_0_1 {PT : PTy} (hp : HP18 PT) : vcOk PT w_toHush_0_1 := vc_of (fun ρ α hB hF => by
  obtain ⟨f0, f1, f2, -⟩ := hF
  have e86 : PT 86 = P_arr := hp.1.1.1.1.1.1.1.1.1.1.1.1.1.1.1.2.2.2.2.2.2.2.1
  have e150 : PT 150 = P_ar2 := hp.1.1.1.1.1.1.1.2.2.2.2.1
  have e212 : PT 212 = P_lnX := hp.2.1
  simp only [hF0, hFp_86, hFp_150, hFp_212, e86, e150, e212, P_arr, P_ar2, P_lnX, den_s, den_c, Int.add_zero, List.map_cons, List.map_nil] at f0 f1 f2 ⊢
  have b2 : (0 : Int) ≤ ρ 2 ∧ ρ 2 ≤ 8 := hB 2 (0, 8) rfl
  have b3 : (0 : Int) ≤ ρ 3 ∧ ρ 3 ≤ 10 := hB 3 (0, 10) rfl
  have b4 : (0 : Int) ≤ ρ 4 ∧ ρ 4 ≤ 8 := hB 4 (0, 8) rfl
  have b5 : (0 : Int) ≤ ρ 5 ∧ ρ 5 ≤ 6 := hB 5 (0, 6) rfl
  have b6 : (0 : Int) ≤ ρ 6 ∧ ρ 6 ≤ 6 := hB 6 (0, 6) rfl
  have b14 : (0 : Int) ≤ ρ 14 ∧ ρ 14 ≤ 49 := hB 14 (0, 49) rfl
  have b15 : (0 : Int) ≤ ρ 15 ∧ ρ 15 ≤ 0 := hB 15 (0, 0) rfl
  exact f2)
def w_toHush_0_2 : VC := ((bT ++ [(0, 49), (0, 0), (0, 49)]), [(0, [(some 15, 0), (none, 0)], []), (212, [(some 15, 0), (none, 0), (some 2, 0), (some 3, 0), (some 4, 0), (some 5, 0), (some 6, 0), (none, 0)], [7, 8, 10, 11, 12, 13, 15, 16, 19, 20, 21, 23, 24, 25]), (86, [(some 2, 0), (some 3, 0), (some 4, 0), (some 5, 0), (some 6, 0), (some 14, 0)], [58, 59, 10, 12, 13, 15, 16, 19, 20, 23, 24])], (213, [(none, 0), (some 2, 0), (some 3, 0), (some 4, 0), (some 5, 0), (some 6, 0)], [7, 8, 10, 11, 12, 13, 15, 16, 19, 20, 21, 23, 24, 25]))
set_option maxRecDepth 20000 in
theorem v_toHush_0_2 {PT : PTy} (hp : HP18 PT) : vcOk PT w_toHush_0_2 := vc_of (fun ρ α hB hF => by
  obtain ⟨f0, f1, f2, -⟩ := hF
  have e86 : PT 86 = P_arr := hp.1.1.1.1.1.1.1.1.1.1.1.1.1.1.1.2.2.2.2.2.2.2.1
  have e212 : PT 212 = P_lnX := hp.2.1
  have e213 : PT 213 = P_hu1 := hp.2.2.1
  simp only [hF0, hFp_86, hFp_212, hFp_213, e86, e212, e213, P_arr, P_lnX, P_hu1, den_s, den_c, Int.add_zero, List.map_cons, List.map_nil] at f0 f1 f2 ⊢
  have b2 : (0 : Int) ≤ ρ 2 ∧ ρ 2 ≤ 8 := hB 2 (0, 8) rfl
  have b3 : (0 : Int) ≤ ρ 3 ∧ ρ 3 ≤ 10 := hB 3 (0, 10) rfl
  have b4 : (0 : Int) ≤ ρ 4 ∧ ρ 4 ≤ 8 := hB 4 (0, 8) rfl
  have b5 : (0 : Int) ≤ ρ 5 ∧ ρ 5 ≤ 6 := hB 5 (0, 6) rfl
  have b6 : (0 : Int) ≤ ρ 6 ∧ ρ 6 ≤ 6 := hB 6 (0, 6) rfl
  have b14 : (0 : Int) ≤ ρ 14 ∧ ρ 14 ≤ 49 := hB 14 (0, 49) rfl
  have b15 : (0 : Int) ≤ ρ 15 ∧ ρ 15 ≤ 0 := hB 15 (0, 0) rfl
  clear hB
  generalize ρ 2 = r2, ρ 3 = r3, ρ 4 = r4, ρ 5 = r5, ρ 6 = r6, ρ 14 = r14, ρ 15 = r15, α 7 = a7, α 8 = a8, α 10 = a10, α 11 = a11, α 12 = a12, α 13 = a13, α 15 = a15, α 16 = a16, α 19 = a19, α 20 = a20, α 21 = a21, α 23 = a23, α 24 = a24, α 25 = a25, α 58 = a58, α 59 = a59 at *
  have h0 : hqX r2 r3 r4 r5 r6 a7 a8 a10 a11 a12 a13 a15 a16 a19 a20 a21 a23 a24 a25 0 r15 := by
    first | exact f1 rfl | exact f1 trivial | exact f1
  rw [show r15 = 0 by omega] at h0
  exact ⟨h0, fun j h1 h2 => by exfalso; omega⟩)
def w_toHush_0_3 : VC := ((bT ++ [(0, 49), (0, 0), (0, 49)]), [(0, [(some 15, 0), (none, 0)], []), (212, [(some 15, 0), (none, 0), (some 2, 0), (some 3, 0), (some 4, 0), (some 5, 0), (some 6, 0), (none, 0)], [7, 8, 10, 11, 12, 13, 15, 16, 19, 20, 21, 23, 24, 25]), (86, [(some 2, 0), (some 3, 0), (some 4, 0), (some 5, 0), (some 6, 0), (some 14, 0)], [58, 59, 10, 12, 13, 15, 16, 19, 20, 23, 24])], (3, [(some 5, 0), (none, 0)], []))
set_option maxRecDepth 20000 in
theorem v_toHush_0_3 {PT : PTy} (hp : HP18 PT) : vcOk PT w_toHush_0_3 := vc_of (fun ρ α hB hF => by
  obtain ⟨f0, f1, f2, -⟩ := hF
  have e86 : PT 86 = P_arr := hp.1.1.1.1.1.1.1.1.1.1.1.1.1.1.1.2.2.2.2.2.2.2.1
  have e212 : PT 212 = P_lnX := hp.2.1
  simp only [hF0, hF3, hFp_86, hFp_212, e86, e212, P_arr, P_lnX, den_s, den_c, Int.add_zero, List.map_cons, List.map_nil] at f0 f1 f2 ⊢
  have b2 : (0 : Int) ≤ ρ 2 ∧ ρ 2 ≤ 8 := hB 2 (0, 8) rfl
  have b3 : (0 : Int) ≤ ρ 3 ∧ ρ 3 ≤ 10 := hB 3 (0, 10) rfl
  have b4 : (0 : Int) ≤ ρ 4 ∧ ρ 4 ≤ 8 := hB 4 (0, 8) rfl
  have b5 : (0 : Int) ≤ ρ 5 ∧ ρ 5 ≤ 6 := hB 5 (0, 6) rfl
  have b6 : (0 : Int) ≤ ρ 6 ∧ ρ 6 ≤ 6 := hB 6 (0, 6) rfl
  have b14 : (0 : Int) ≤ ρ 14 ∧ ρ 14 ≤ 49 := hB 14 (0, 49) rfl
  have b15 : (0 : Int) ≤ ρ 15 ∧ ρ 15 ≤ 0 := hB 15 (0, 0) rfl
  clear hB
  generalize ρ 2 = r2, ρ 3 = r3, ρ 4 = r4, ρ 5 = r5, ρ 6 = r6, ρ 14 = r14, ρ 15 = r15, α 7 = a7, α 8 = a8, α 10 = a10, α 11 = a11, α 12 = a12, α 13 = a13, α 15 = a15, α 16 = a16, α 19 = a19, α 20 = a20, α 21 = a21, α 23 = a23, α 24 = a24, α 25 = a25, α 58 = a58, α 59 = a59 at *
  omega)
def w_toHush_0_4 : VC := ((bT ++ [(0, 49), (0, 0), (0, 49)]), [(0, [(some 15, 0), (none, 0)], []), (212, [(some 15, 0), (none, 0), (some 2, 0), (some 3, 0), (some 4, 0), (some 5, 0), (some 6, 0), (none, 0)], [7, 8, 10, 11, 12, 13, 15, 16, 19, 20, 21, 23, 24, 25]), (86, [(some 2, 0), (some 3, 0), (some 4, 0), (some 5, 0), (some 6, 0), (some 14, 0)], [58, 59, 10, 12, 13, 15, 16, 19, 20, 23, 24])], (0, [(none, 0), (none, 0)], []))
theorem v_toHush_0_4 {PT : PTy} (_ : HP18 PT) : vcOk PT w_toHush_0_4 := vc_of (fun ρ α _ _ => rfl)
def w_toHush_0_5 : VC := ((bT ++ [(0, 49), (1, 1), (0, 49)]), [(1, [(some 15, 0), (none, 0)], []), (212, [(some 15, 0), (none, 0), (some 2, 0), (some 3, 0), (some 4, 0), (some 5, 0), (some 6, 0), (none, 0)], [7, 8, 10, 11, 12, 13, 15, 16, 19, 20, 21, 23, 24, 25]), (86, [(some 2, 0), (some 3, 0), (some 4, 0), (some 5, 0), (some 6, 0), (some 14, 0)], [58, 59, 10, 12, 13, 15, 16, 19, 20, 23, 24])], (216, [(none, 0), (some 2, 0), (some 3, 0), (some 4, 0), (some 5, 0), (some 6, 0)], [7, 8, 10, 11, 12, 13, 15, 16, 19, 20, 21, 23, 24, 25]))
set_option maxRecDepth 20000 in
theorem v_toHush_0_5 {PT : PTy} (hp : HP18 PT) : vcOk PT w_toHush_0_5 := vc_of (fun ρ α hB hF => by
  obtain ⟨-, f1, f2, -⟩ := hF
  have e86 : PT 86 = P_arr := hp.1.1.1.1.1.1.1.1.1.1.1.1.1.1.1.2.2.2.2.2.2.2.1
  have e212 : PT 212 = P_lnX := hp.2.1
  have e216 : PT 216 = P_hsX := hp.2.2.2.2.2.1
  simp only [hFp_86, hFp_212, hFp_216, e86, e212, e216, P_arr, P_lnX, P_hsX, den_s, den_c, Int.add_zero, List.map_cons, List.map_nil] at f1 f2 ⊢
  have b2 : (0 : Int) ≤ ρ 2 ∧ ρ 2 ≤ 8 := hB 2 (0, 8) rfl
  have b3 : (0 : Int) ≤ ρ 3 ∧ ρ 3 ≤ 10 := hB 3 (0, 10) rfl
  have b4 : (0 : Int) ≤ ρ 4 ∧ ρ 4 ≤ 8 := hB 4 (0, 8) rfl
  have b5 : (0 : Int) ≤ ρ 5 ∧ ρ 5 ≤ 6 := hB 5 (0, 6) rfl
  have b6 : (0 : Int) ≤ ρ 6 ∧ ρ 6 ≤ 6 := hB 6 (0, 6) rfl
  have b14 : (0 : Int) ≤ ρ 14 ∧ ρ 14 ≤ 49 := hB 14 (0, 49) rfl
  have b15 : (1 : Int) ≤ ρ 15 ∧ ρ 15 ≤ 1 := hB 15 (1, 1) rfl
  clear hB
  generalize ρ 2 = r2, ρ 3 = r3, ρ 4 = r4, ρ 5 = r5, ρ 6 = r6, ρ 14 = r14, ρ 15 = r15, α 7 = a7, α 8 = a8, α 10 = a10, α 11 = a11, α 12 = a12, α 13 = a13, α 15 = a15, α 16 = a16, α 19 = a19, α 20 = a20, α 21 = a21, α 23 = a23, α 24 = a24, α 25 = a25, α 58 = a58, α 59 = a59 at *
  have h0 : hqX r2 r3 r4 r5 r6 a7 a8 a10 a11 a12 a13 a15 a16 a19 a20 a21 a23 a24 a25 0 r15 := by
    first | exact f1 rfl | exact f1 trivial | exact f1
  rw [show r15 = 1 by omega] at h0
  exact ⟨0, 0, 0, Or.inl ⟨by first | rfl | trivial, h0⟩, fun _ => (by first | rfl | trivial), fun q => by exfalso; omega, fun q => by exfalso; omega, fun q => by exfalso; omega⟩)
def w_toHush_1_0 : VC := ((bT ++ [(0, 6), (0, 49), (0, 49), ((-2147483648), 2147483647)]), [(3, [(some 14, 0), (some 5, 0)], []), (150, [(some 15, 0), (some 2, 0), (some 3, 0), (some 4, 0), (some 5, 0), (some 6, 0)], [58, 59, 7, 8, 10, 11, 12, 13, 15, 16, 19, 20, 21, 23, 24, 25]), (213, [(some 14, 0), (some 2, 0), (some 3, 0), (some 4, 0), (some 5, 0), (some 6, 0)], [7, 8, 10, 11, 12, 13, 15, 16, 19, 20, 21, 23, 24, 25]), (3, [(some 5, 0), (some 14, 0)], []), (0, [(none, 0), (none, 0)], [])], (215, [(none, 0), (some 2, 0), (some 3, 0), (some 4, 0), (some 5, 0), (some 6, 0)], [7, 8, 10, 11, 12, 13, 15, 16, 19, 20, 21, 23, 24, 25]))
set_option maxRecDepth 20000 in
theorem v_toHush_1_0 {PT : PTy} (hp : HP18 PT) : vcOk PT w_toHush_1_0 := vc_of (fun ρ α hB hF => by
  obtain ⟨f0, f1, f2, f3, -, -⟩ := hF
  have e150 : PT 150 = P_ar2 := hp.1.1.1.1.1.1.1.2.2.2.2.1
  have e213 : PT 213 = P_hu1 := hp.2.2.1
  have e215 : PT 215 = P_hu3 := hp.2.2.2.2.1
  simp only [hF3, hFp_150, hFp_213, hFp_215, e150, e213, e215, P_ar2, P_hu1, P_hu3, den_s, den_c, Int.add_zero, List.map_cons, List.map_nil] at f0 f1 f2 f3 ⊢
  have b2 : (0 : Int) ≤ ρ 2 ∧ ρ 2 ≤ 8 := hB 2 (0, 8) rfl
  have b3 : (0 : Int) ≤ ρ 3 ∧ ρ 3 ≤ 10 := hB 3 (0, 10) rfl
  have b4 : (0 : Int) ≤ ρ 4 ∧ ρ 4 ≤ 8 := hB 4 (0, 8) rfl
  have b5 : (0 : Int) ≤ ρ 5 ∧ ρ 5 ≤ 6 := hB 5 (0, 6) rfl
  have b6 : (0 : Int) ≤ ρ 6 ∧ ρ 6 ≤ 6 := hB 6 (0, 6) rfl
  have b14 : (0 : Int) ≤ ρ 14 ∧ ρ 14 ≤ 6 := hB 14 (0, 6) rfl
  have b15 : (0 : Int) ≤ ρ 15 ∧ ρ 15 ≤ 49 := hB 15 (0, 49) rfl
  clear hB
  generalize ρ 2 = r2, ρ 3 = r3, ρ 4 = r4, ρ 5 = r5, ρ 6 = r6, ρ 14 = r14, ρ 15 = r15, α 7 = a7, α 8 = a8, α 10 = a10, α 11 = a11, α 12 = a12, α 13 = a13, α 15 = a15, α 16 = a16, α 19 = a19, α 20 = a20, α 21 = a21, α 23 = a23, α 24 = a24, α 25 = a25, α 58 = a58, α 59 = a59 at *
  have u := f2
  rw [show r14 = r5 by omega] at u
  exact ⟨u, fun j k h1 h2 => by exfalso; omega⟩)
def w_toHush_1_1 : VC := ((bT ++ [(0, 6), (0, 49), (0, 49), ((-2147483648), 2147483647)]), [(3, [(some 14, 0), (some 5, 0)], []), (150, [(some 15, 0), (some 2, 0), (some 3, 0), (some 4, 0), (some 5, 0), (some 6, 0)], [58, 59, 7, 8, 10, 11, 12, 13, 15, 16, 19, 20, 21, 23, 24, 25]), (213, [(some 14, 0), (some 2, 0), (some 3, 0), (some 4, 0), (some 5, 0), (some 6, 0)], [7, 8, 10, 11, 12, 13, 15, 16, 19, 20, 21, 23, 24, 25]), (3, [(some 5, 0), (some 14, 0)], []), (0, [(none, 0), (none, 0)], [])], (3, [(some 5, 0), (none, 0)], []))
set_option maxRecDepth 20000 in
theorem v_toHush_1_1 {PT : PTy} (hp : HP18 PT) : vcOk PT w_toHush_1_1 := vc_of (fun ρ α hB hF => by
  obtain ⟨f0, f1, f2, f3, -, -⟩ := hF
  have e150 : PT 150 = P_ar2 := hp.1.1.1.1.1.1.1.2.2.2.2.1
  have e213 : PT 213 = P_hu1 := hp.2.2.1
  simp only [hF3, hFp_150, hFp_213, e150, e213, P_ar2, P_hu1, den_s, den_c, Int.add_zero, List.map_cons, List.map_nil] at f0 f1 f2 f3 ⊢
  have b2 : (0 : Int) ≤ ρ 2 ∧ ρ 2 ≤ 8 := hB 2 (0, 8) rfl
  have b3 : (0 : Int) ≤ ρ 3 ∧ ρ 3 ≤ 10 := hB 3 (0, 10) rfl
  have b4 : (0 : Int) ≤ ρ 4 ∧ ρ 4 ≤ 8 := hB 4 (0, 8) rfl
  have b5 : (0 : Int) ≤ ρ 5 ∧ ρ 5 ≤ 6 := hB 5 (0, 6) rfl
  have b6 : (0 : Int) ≤ ρ 6 ∧ ρ 6 ≤ 6 := hB 6 (0, 6) rfl
  have b14 : (0 : Int) ≤ ρ 14 ∧ ρ 14 ≤ 6 := hB 14 (0, 6) rfl
  have b15 : (0 : Int) ≤ ρ 15 ∧ ρ 15 ≤ 49 := hB 15 (0, 49) rfl
  clear hB
  generalize ρ 2 = r2, ρ 3 = r3, ρ 4 = r4, ρ 5 = r5, ρ 6 = r6, ρ 14 = r14, ρ 15 = r15, α 7 = a7, α 8 = a8, α 10 = a10, α 11 = a11, α 12 = a12, α 13 = a13, α 15 = a15, α 16 = a16, α 19 = a19, α 20 = a20, α 21 = a21, α 23 = a23, α 24 = a24, α 25 = a25, α 58 = a58, α 59 = a59 at *
  omega)
def w_toHush_1_2 : VC := (([(0, 23), (0, 49), (0, 8), (0, 10), (0, 8), (1, 6), (0, 6), (0, 8), (0, 9), (0, 49), (0, 49), ((-2147483648), 2147483647), ((-2147483648), 2147483647), (0, 5), (0, 5), (0, 49), (0, 49), ((-2147483648), 2147483647), (1, 32), (0, 0), (0, 49)]), [(0, [(some 19, 0), (none, 0)], []), (212, [(some 19, 0), (some 18, 0), (some 2, 0), (some 3, 0), (some 4, 0), (some 5, 0), (some 6, 0), (none, 0)], [7, 8, 10, 11, 12, 13, 15, 16, 19, 20, 21, 23, 24, 25]), (13, [(some 18, 0), (none, 1), (some 14, 0)], []), (2, [(some 14, 0), (some 5, 0)], []), (150, [(some 15, 0), (some 2, 0), (some 3, 0), (some 4, 0), (some 5, 0), (some 6, 0)], [58, 59, 7, 8, 10, 11, 12, 13, 15, 16, 19, 20, 21, 23, 24, 25]), (213, [(some 14, 0), (some 2, 0), (some 3, 0), (some 4, 0), (some 5, 0), (some 6, 0)], [7, 8, 10, 11, 12, 13, 15, 16, 19, 20, 21, 23, 24, 25]), (3, [(some 5, 0), (some 14, 0)], []), (0, [(none, 0), (none, 0)], [])], (213, [(some 14, 1), (some 2, 0), (some 3, 0), (some 4, 0), (some 5, 0), (some 6, 0)], [7, 8, 10, 11, 12, 13, 15, 16, 19, 20, 21, 23, 24, 25]))
set_option maxRecDepth 20000 in
theorem v_toHush_1_2 {PT : PTy} (hp : HP18 PT) : vcOk PT w_toHush_1_2 := vc_of (fun ρ α hB hF => by
  obtain ⟨f0, f1, f2, f3, f4, f5, f6, -, -⟩ := hF
  have e150 : PT 150 = P_ar2 := hp.1.1.1.1.1.1.1.2.2.2.2.1
  have e212 : PT 212 = P_lnX := hp.2.1
  have e213 : PT 213 = P_hu1 := hp.2.2.1
  simp only [hF0, hF2, hF3, hF13, hFp_150, hFp_212, hFp_213, e150, e212, e213, P_ar2, P_lnX, P_hu1, den_s, den_c, Int.add_zero, List.map_cons, List.map_nil] at f0 f1 f2 f3 f4 f5 f6 ⊢
  have b2 : (0 : Int) ≤ ρ 2 ∧ ρ 2 ≤ 8 := hB 2 (0, 8) rfl
  have b3 : (0 : Int) ≤ ρ 3 ∧ ρ 3 ≤ 10 := hB 3 (0, 10) rfl
  have b4 : (0 : Int) ≤ ρ 4 ∧ ρ 4 ≤ 8 := hB 4 (0, 8) rfl
  have b5 : (1 : Int) ≤ ρ 5 ∧ ρ 5 ≤ 6 := hB 5 (1, 6) rfl
  have b6 : (0 : Int) ≤ ρ 6 ∧ ρ 6 ≤ 6 := hB 6 (0, 6) rfl
  have b14 : (0 : Int) ≤ ρ 14 ∧ ρ 14 ≤ 5 := hB 14 (0, 5) rfl
  have b15 : (0 : Int) ≤ ρ 15 ∧ ρ 15 ≤ 49 := hB 15 (0, 49) rfl
  have b18 : (1 : Int) ≤ ρ 18 ∧ ρ 18 ≤ 32 := hB 18 (1, 32) rfl
  have b19 : (0 : Int) ≤ ρ 19 ∧ ρ 19 ≤ 0 := hB 19 (0, 0) rfl
  clear hB
  generalize ρ 2 = r2, ρ 3 = r3, ρ 4 = r4, ρ 5 = r5, ρ 6 = r6, ρ 14 = r14, ρ 15 = r15, ρ 18 = r18, ρ 19 = r19, α 7 = a7, α 8 = a8, α 10 = a10, α 11 = a11, α 12 = a12, α 13 = a13, α 15 = a15, α 16 = a16, α 19 = a19, α 20 = a20, α 21 = a21, α 23 = a23, α 24 = a24, α 25 = a25, α 58 = a58, α 59 = a59 at *
  subst f2
  have h0 : hqX r2 r3 r4 r5 r6 a7 a8 a10 a11 a12 a13 a15 a16 a19 a20 a21 a23 a24 a25 (mShl 1 r14) r19 := by
    first | exact f1 rfl | exact f1 trivial | exact f1
  rw [show r19 = 0 by omega] at h0
  obtain ⟨u1, u2⟩ := f5
  exact ⟨u1, fun j h1 h2 => by
    by_cases q : j = r14
    · subst q; exact h0
    · exact u2 j h1 (by omega)⟩)
def w_toHush_1_3 : VC := (([(0, 23), (0, 49), (0, 8), (0, 10), (0, 8), (1, 6), (0, 6), (0, 8), (0, 9), (0, 49), (0, 49), ((-2147483648), 2147483647), ((-2147483648), 2147483647), (0, 5), (0, 5), (0, 49), (0, 49), ((-2147483648), 2147483647), (1, 32), (0, 0), (0, 49)]), [(0, [(some 19, 0), (none, 0)], []), (212, [(some 19, 0), (some 18, 0), (some 2, 0), (some 3, 0), (some 4, 0), (some 5, 0), (some 6, 0), (none, 0)], [7, 8, 10, 11, 12, 13, 15, 16, 19, 20, 21, 23, 24, 25]), (13, [(some 18, 0), (none, 1), (some 14, 0)], []), (2, [(some 14, 0), (some 5, 0)], []), (150, [(some 15, 0), (some 2, 0), (some 3, 0), (some 4, 0), (some 5, 0), (some 6, 0)], [58, 59, 7, 8, 10, 11, 12, 13, 15, 16, 19, 20, 21, 23, 24, 25]), (213, [(some 14, 0), (some 2, 0), (some 3, 0), (some 4, 0), (some 5, 0), (some 6, 0)], [7, 8, 10, 11, 12, 13, 15, 16, 19, 20, 21, 23, 24, 25]), (3, [(some 5, 0), (some 14, 0)], []), (0, [(none, 0), (none, 0)], [])], (3, [(some 5, 0), (some 14, 1)], []))
set_option maxRecDepth 20000 in
theorem v_toHush_1_3 {PT : PTy} (hp : HP18 PT) : vcOk PT w_toHush_1_3 := vc_of (fun ρ α hB hF => by
  obtain ⟨f0, f1, f2, f3, f4, f5, f6, -, -⟩ := hF
  have e150 : PT 150 = P_ar2 := hp.1.1.1.1.1.1.1.2.2.2.2.1
  have e212 : PT 212 = P_lnX := hp.2.1
  have e213 : PT 213 = P_hu1 := hp.2.2.1
  simp only [hF0, hF2, hF3, hF13, hFp_150, hFp_212, hFp_213, e150, e212, e213, P_ar2, P_lnX, P_hu1, den_s, den_c, Int.add_zero, List.map_cons, List.map_nil] at f0 f1 f2 f3 f4 f5 f6 ⊢
  have b2 : (0 : Int) ≤ ρ 2 ∧ ρ 2 ≤ 8 := hB 2 (0, 8) rfl
  have b3 : (0 : Int) ≤ ρ 3 ∧ ρ 3 ≤ 10 := hB 3 (0, 10) rfl
  have b4 : (0 : Int) ≤ ρ 4 ∧ ρ 4 ≤ 8 := hB 4 (0, 8) rfl
  have b5 : (1 : Int) ≤ ρ 5 ∧ ρ 5 ≤ 6 := hB 5 (1, 6) rfl
  have b6 : (0 : Int) ≤ ρ 6 ∧ ρ 6 ≤ 6 := hB 6 (0, 6) rfl
  have b14 : (0 : Int) ≤ ρ 14 ∧ ρ 14 ≤ 5 := hB 14 (0, 5) rfl
  have b15 : (0 : Int) ≤ ρ 15 ∧ ρ 15 ≤ 49 := hB 15 (0, 49) rfl
  have b18 : (1 : Int) ≤ ρ 18 ∧ ρ 18 ≤ 32 := hB 18 (1, 32) rfl
  have b19 : (0 : Int) ≤ ρ 19 ∧ ρ 19 ≤ 0 := hB 19 (0, 0) rfl
  clear hB
  generalize ρ 2 = r2, ρ 3 = r3, ρ 4 = r4, ρ 5 = r5, ρ 6 = r6, ρ 14 = r14, ρ 15 = r15, ρ 18 = r18, ρ 19 = r19, α 7 = a7, α 8 = a8, α 10 = a10, α 11 = a11, α 12 = a12, α 13 = a13, α 15 = a15, α 16 = a16, α 19 = a19, α 20 = a20, α 21 = a21, α 23 = a23, α 24 = a24, α 25 = a25, α 58 = a58, α 59 = a59 at *
  subst f2
  omega)
def w_toHush_1_4 : VC := (([(0, 23), (0, 49), (0, 8), (0, 10), (0, 8), (1, 6), (0, 6), (0, 8), (0, 9), (0, 49), (0, 49), ((-2147483648), 2147483647), ((-2147483648), 2147483647), (0, 5), (0, 5), (0, 49), (0, 49), ((-2147483648), 2147483647), (1, 32), (1, 1), (0, 49), (1, 32)]), [(13, [(some 21, 0), (none, 1), (some 14, 0)], []), (1, [(some 19, 0), (none, 0)], []), (212, [(some 19, 0), (some 18, 0), (some 2, 0), (some 3, 0), (some 4, 0), (some 5, 0), (some 6, 0), (none, 0)], [7, 8, 10, 11, 12, 13, 15, 16, 19, 20, 21, 23, 24, 25]), (13, [(some 18, 0), (none, 1), (some 14, 0)], []), (2, [(some 14, 0), (some 5, 0)], []), (150, [(some 15, 0), (some 2, 0), (some 3, 0), (some 4, 0), (some 5, 0), (some 6, 0)], [58, 59, 7, 8, 10, 11, 12, 13, 15, 16, 19, 20, 21, 23, 24, 25]), (213, [(some 14, 0), (some 2, 0), (some 3, 0), (some 4, 0), (some 5, 0), (some 6, 0)], [7, 8, 10, 11, 12, 13, 15, 16, 19, 20, 21, 23, 24, 25]), (3, [(some 5, 0), (some 14, 0)], []), (0, [(none, 0), (none, 0)], [])], (216, [(some 21, 0), (some 2, 0), (some 3, 0), (some 4, 0), (some 5, 0), (some 6, 0)], [7, 8, 10, 11, 12, 13, 15, 16, 19, 20, 21, 23, 24, 25]))
set_option maxRecDepth 20000 in
theorem v_toHush_1_4 {PT : PTy} (hp : HP18 PT) : vcOk PT w_toHush_1_4 := vc_of (fun ρ α hB hF => by
  obtain ⟨f0, -, f2, f3, f4, f5, f6, f7, -, -⟩ := hF
  have e150 : PT 150 = P_ar2 := hp.1.1.1.1.1.1.1.2.2.2.2.1
  have e212 : PT 212 = P_lnX := hp.2.1
  have e213 : PT 213 = P_hu1 := hp.2.2.1
  have e216 : PT 216 = P_hsX := hp.2.2.2.2.2.1
  simp only [hF2, hF3, hF13, hFp_150, hFp_212, hFp_213, hFp_216, e150, e212, e213, e216, P_ar2, P_lnX, P_hu1, P_hsX, den_s, den_c, Int.add_zero, List.map_cons, List.map_nil] at f0 f2 f3 f4 f5 f6 f7 ⊢
  have b2 : (0 : Int) ≤ ρ 2 ∧ ρ 2 ≤ 8 := hB 2 (0, 8) rfl
  have b3 : (0 : Int) ≤ ρ 3 ∧ ρ 3 ≤ 10 := hB 3 (0, 10) rfl
  have b4 : (0 : Int) ≤ ρ 4 ∧ ρ 4 ≤ 8 := hB 4 (0, 8) rfl
  have b5 : (1 : Int) ≤ ρ 5 ∧ ρ 5 ≤ 6 := hB 5 (1, 6) rfl
  have b6 : (0 : Int) ≤ ρ 6 ∧ ρ 6 ≤ 6 := hB 6 (0, 6) rfl
  have b14 : (0 : Int) ≤ ρ 14 ∧ ρ 14 ≤ 5 := hB 14 (0, 5) rfl
  have b15 : (0 : Int) ≤ ρ 15 ∧ ρ 15 ≤ 49 := hB 15 (0, 49) rfl
  have b18 : (1 : Int) ≤ ρ 18 ∧ ρ 18 ≤ 32 := hB 18 (1, 32) rfl
  have b19 : (1 : Int) ≤ ρ 19 ∧ ρ 19 ≤ 1 := hB 19 (1, 1) rfl
  have b21 : (1 : Int) ≤ ρ 21 ∧ ρ 21 ≤ 32 := hB 21 (1, 32) rfl
  clear hB
  generalize ρ 2 = r2, ρ 3 = r3, ρ 4 = r4, ρ 5 = r5, ρ 6 = r6, ρ 14 = r14, ρ 15 = r15, ρ 18 = r18, ρ 19 = r19, ρ 21 = r21, α 7 = a7, α 8 = a8, α 10 = a10, α 11 = a11, α 12 = a12, α 13 = a13, α 15 = a15, α 16 = a16, α 19 = a19, α 20 = a20, α 21 = a21, α 23 = a23, α 24 = a24, α 25 = a25, α 58 = a58, α 59 = a59 at *
  subst f0
  subst f3
  have h0 : hqX r2 r3 r4 r5 r6 a7 a8 a10 a11 a12 a13 a15 a16 a19 a20 a21 a23 a24 a25 (mShl 1 r14) r19 := by
    first | exact f2 rfl | exact f2 trivial | exact f2
  rw [show r19 = 1 by omega] at h0
  exact ⟨1, r14, 0, Or.inr (Or.inl ⟨by first | rfl | trivial, by omega, by omega, f6, h0⟩), fun q => by exfalso; omega, fun _ => rfl, fun q => by exfalso; omega, fun q => by exfalso; omega⟩)
def w_toHush_2_0 : VC := ((bT ++ [(0, 6), (0, 49), (0, 49), ((-2147483648), 2147483647)]), [(3, [(some 14, 0), (some 5, 0)], []), (150, [(some 15, 0), (some 2, 0), (some 3, 0), (some 4, 0), (some 5, 0), (some 6, 0)], [58, 59, 7, 8, 10, 11, 12, 13, 15, 16, 19, 20, 21, 23, 24, 25]), (215, [(some 14, 0), (some 2, 0), (some 3, 0), (some 4, 0), (some 5, 0), (some 6, 0)], [7, 8, 10, 11, 12, 13, 15, 16, 19, 20, 21, 23, 24, 25]), (3, [(some 5, 0), (some 14, 0)], []), (0, [(none, 0), (none, 0)], [])], (216, [(none, (-1)), (some 2, 0), (some 3, 0), (some 4, 0), (some 5, 0), (some 6, 0)], [7, 8, 10, 11, 12, 13, 15, 16, 19, 20, 21, 23, 24, 25]))
set_option maxRecDepth 20000 in
theorem v_toHush_2_0 {PT : PTy} (hp : HP18 PT) : vcOk PT w_toHush_2_0 := vc_of (fun ρ α hB hF => by
  obtain ⟨f0, f1, f2, f3, -, -⟩ := hF
  have e150 : PT 150 = P_ar2 := hp.1.1.1.1.1.1.1.2.2.2.2.1
  have e215 : PT 215 = P_hu3 := hp.2.2.2.2.1
  have e216 : PT 216 = P_hsX := hp.2.2.2.2.2.1
  simp only [hF3, hFp_150, hFp_215, hFp_216, e150, e215, e216, P_ar2, P_hu3, P_hsX, den_s, den_c, Int.add_zero, List.map_cons, List.map_nil] at f0 f1 f2 f3 ⊢
  have b2 : (0 : Int) ≤ ρ 2 ∧ ρ 2 ≤ 8 := hB 2 (0, 8) rfl
  have b3 : (0 : Int) ≤ ρ 3 ∧ ρ 3 ≤ 10 := hB 3 (0, 10) rfl
  have b4 : (0 : Int) ≤ ρ 4 ∧ ρ 4 ≤ 8 := hB 4 (0, 8) rfl
  have b5 : (0 : Int) ≤ ρ 5 ∧ ρ 5 ≤ 6 := hB 5 (0, 6) rfl
  have b6 : (0 : Int) ≤ ρ 6 ∧ ρ 6 ≤ 6 := hB 6 (0, 6) rfl
  have b14 : (0 : Int) ≤ ρ 14 ∧ ρ 14 ≤ 6 := hB 14 (0, 6) rfl
  have b15 : (0 : Int) ≤ ρ 15 ∧ ρ 15 ≤ 49 := hB 15 (0, 49) rfl
  clear hB
  generalize ρ 2 = r2, ρ 3 = r3, ρ 4 = r4, ρ 5 = r5, ρ 6 = r6, ρ 14 = r14, ρ 15 = r15, α 7 = a7, α 8 = a8, α 10 = a10, α 11 = a11, α 12 = a12, α 13 = a13, α 15 = a15, α 16 = a16, α 19 = a19, α 20 = a20, α 21 = a21, α 23 = a23, α 24 = a24, α 25 = a25, α 58 = a58, α 59 = a59 at *
  have u := f2
  rw [show r14 = r5 by omega] at u
  exact ⟨-1, 0, 0, Or.inr (Or.inr (Or.inr ⟨by first | rfl | trivial, u⟩)), fun q => by exfalso; omega, fun q => by exfalso; omega, fun q => by exfalso; omega, fun _ => (by first | rfl | trivial)⟩)
def w_toHush_2_1 : VC := (([(0, 23), (0, 49), (0, 8), (0, 10), (0, 8), (1, 6), (0, 6), (0, 8), (0, 9), (0, 49), (0, 49), ((-2147483648), 2147483647), ((-2147483648), 2147483647), (0, 5), (0, 5), (0, 49), (0, 49), ((-2147483648), 2147483647)]), [(2, [(some 14, 0), (some 5, 0)], []), (150, [(some 15, 0), (some 2, 0), (some 3, 0), (some 4, 0), (some 5, 0), (some 6, 0)], [58, 59, 7, 8, 10, 11, 12, 13, 15, 16, 19, 20, 21, 23, 24, 25]), (215, [(some 14, 0), (some 2, 0), (some 3, 0), (some 4, 0), (some 5, 0), (some 6, 0)], [7, 8, 10, 11, 12, 13, 15, 16, 19, 20, 21, 23, 24, 25]), (3, [(some 5, 0), (some 14, 0)], []), (0, [(none, 0), (none, 0)], [])], (214, [(some 14, 0), (some 14, 1), (some 2, 0), (some 3, 0), (some 4, 0), (some 5, 0), (some 6, 0)], [7, 8, 10, 11, 12, 13, 15, 16, 19, 20, 21, 23, 24, 25]))
set_option maxRecDepth 20000 in
theorem v_toHush_2_1 {PT : PTy} (hp : HP18 PT) : vcOk PT w_toHush_2_1 := vc_of (fun ρ α hB hF => by
  obtain ⟨f0, f1, f2, f3, -, -⟩ := hF
  have e150 : PT 150 = P_ar2 := hp.1.1.1.1.1.1.1.2.2.2.2.1
  have e214 : PT 214 = P_hu2 := hp.2.2.2.1
  have e215 : PT 215 = P_hu3 := hp.2.2.2.2.1
  simp only [hF2, hF3, hFp_150, hFp_214, hFp_215, e150, e214, e215, P_ar2, P_hu2, P_hu3, den_s, den_c, Int.add_zero, List.map_cons, List.map_nil] at f0 f1 f2 f3 ⊢
  have b2 : (0 : Int) ≤ ρ 2 ∧ ρ 2 ≤ 8 := hB 2 (0, 8) rfl
  have b3 : (0 : Int) ≤ ρ 3 ∧ ρ 3 ≤ 10 := hB 3 (0, 10) rfl
  have b4 : (0 : Int) ≤ ρ 4 ∧ ρ 4 ≤ 8 := hB 4 (0, 8) rfl
  have b5 : (1 : Int) ≤ ρ 5 ∧ ρ 5 ≤ 6 := hB 5 (1, 6) rfl
  have b6 : (0 : Int) ≤ ρ 6 ∧ ρ 6 ≤ 6 := hB 6 (0, 6) rfl
  have b14 : (0 : Int) ≤ ρ 14 ∧ ρ 14 ≤ 5 := hB 14 (0, 5) rfl
  have b15 : (0 : Int) ≤ ρ 15 ∧ ρ 15 ≤ 49 := hB 15 (0, 49) rfl
  clear hB
  generalize ρ 2 = r2, ρ 3 = r3, ρ 4 = r4, ρ 5 = r5, ρ 6 = r6, ρ 14 = r14, ρ 15 = r15, α 7 = a7, α 8 = a8, α 10 = a10, α 11 = a11, α 12 = a12, α 13 = a13, α 15 = a15, α 16 = a16, α 19 = a19, α 20 = a20, α 21 = a21, α 23 = a23, α 24 = a24, α 25 = a25, α 58 = a58, α 59 = a59 at *
  obtain ⟨u1, u2⟩ := f2
  exact ⟨u1, u2, fun k h1 h2 => by exfalso; omega⟩)
def w_toHush_2_2 : VC := (([(0, 23), (0, 49), (0, 8), (0, 10), (0, 8), (1, 6), (0, 6), (0, 8), (0, 9), (0, 49), (0, 49), ((-2147483648), 2147483647), ((-2147483648), 2147483647), (0, 5), (0, 5), (0, 49), (0, 49), ((-2147483648), 2147483647)]), [(2, [(some 14, 0), (some 5, 0)], []), (150, [(some 15, 0), (some 2, 0), (some 3, 0), (some 4, 0), (some 5, 0), (some 6, 0)], [58, 59, 7, 8, 10, 11, 12, 13, 15, 16, 19, 20, 21, 23, 24, 25]), (215, [(some 14, 0), (some 2, 0), (some 3, 0), (some 4, 0), (some 5, 0), (some 6, 0)], [7, 8, 10, 11, 12, 13, 15, 16, 19, 20, 21, 23, 24, 25]), (3, [(some 5, 0), (some 14, 0)], []), (0, [(none, 0), (none, 0)], [])], (3, [(some 5, 0), (some 14, 1)], []))
set_option maxRecDepth 20000 in
theorem v_toHush_2_2 {PT : PTy} (hp : HP18 PT) : vcOk PT w_toHush_2_2 := vc_of (fun ρ α hB hF => by
  obtain ⟨f0, f1, f2, f3, -, -⟩ := hF
  have e150 : PT 150 = P_ar2 := hp.1.1.1.1.1.1.1.2.2.2.2.1
  have e215 : PT 215 = P_hu3 := hp.2.2.2.2.1
  simp only [hF2, hF3, hFp_150, hFp_215, e150, e215, P_ar2, P_hu3, den_s, den_c, Int.add_zero, List.map_cons, List.map_nil] at f0 f1 f2 f3 ⊢
  have b2 : (0 : Int) ≤ ρ 2 ∧ ρ 2 ≤ 8 := hB 2 (0, 8) rfl
  have b3 : (0 : Int) ≤ ρ 3 ∧ ρ 3 ≤ 10 := hB 3 (0, 10) rfl
  have b4 : (0 : Int) ≤ ρ 4 ∧ ρ 4 ≤ 8 := hB 4 (0, 8) rfl
  have b5 : (1 : Int) ≤ ρ 5 ∧ ρ 5 ≤ 6 := hB 5 (1, 6) rfl
  have b6 : (0 : Int) ≤ ρ 6 ∧ ρ 6 ≤ 6 := hB 6 (0, 6) rfl
  have b14 : (0 : Int) ≤ ρ 14 ∧ ρ 14 ≤ 5 := hB 14 (0, 5) rfl
  have b15 : (0 : Int) ≤ ρ 15 ∧ ρ 15 ≤ 49 := hB 15 (0, 49) rfl
  clear hB
  generalize ρ 2 = r2, ρ 3 = r3, ρ 4 = r4, ρ 5 = r5, ρ 6 = r6, ρ 14 = r14, ρ 15 = r15, α 7 = a7, α 8 = a8, α 10 = a10, α 11 = a11, α 12 = a12, α 13 = a13, α 15 = a15, α 16 = a16, α 19 = a19, α 20 = a20, α 21 = a21, α 23 = a23, α 24 = a24, α 25 = a25, α 58 = a58, α 59 = a59 at *
  omega)
def w_toHush_2_3 : VC := (([(0, 23), (0, 49), (0, 8), (0, 10), (0, 8), (1, 6), (0, 6), (0, 8), (0, 9), (0, 49), (0, 49), ((-2147483648), 2147483647), ((-2147483648), 2147483647), (0, 5), (0, 5), (0, 49), (0, 49), ((-2147483648), 2147483647)]), [(2, [(some 14, 0), (some 5, 0)], []), (150, [(some 15, 0), (some 2, 0), (some 3, 0), (some 4, 0), (some 5, 0), (some 6, 0)], [58, 59, 7, 8, 10, 11, 12, 13, 15, 16, 19, 20, 21, 23, 24, 25]), (215, [(some 14, 0), (some 2, 0), (some 3, 0), (some 4, 0), (some 5, 0), (some 6, 0)], [7, 8, 10, 11, 12, 13, 15, 16, 19, 20, 21, 23, 24, 25]), (3, [(some 5, 0), (some 14, 0)], []), (0, [(none, 0), (none, 0)], [])], (2, [(some 14, 0), (some 14, 1)], []))
set_option maxRecDepth 20000 in
theorem v_toHush_2_3 {PT : PTy} (hp : HP18 PT) : vcOk PT w_toHush_2_3 := vc_of (fun ρ α hB hF => by
  obtain ⟨f0, f1, f2, f3, -, -⟩ := hF
  have e150 : PT 150 = P_ar2 := hp.1.1.1.1.1.1.1.2.2.2.2.1
  have e215 : PT 215 = P_hu3 := hp.2.2.2.2.1
  simp only [hF2, hF3, hFp_150, hFp_215, e150, e215, P_ar2, P_hu3, den_s, den_c, Int.add_zero, List.map_cons, List.map_nil] at f0 f1 f2 f3 ⊢
  have b2 : (0 : Int) ≤ ρ 2 ∧ ρ 2 ≤ 8 := hB 2 (0, 8) rfl
  have b3 : (0 : Int) ≤ ρ 3 ∧ ρ 3 ≤ 10 := hB 3 (0, 10) rfl
  have b4 : (0 : Int) ≤ ρ 4 ∧ ρ 4 ≤ 8 := hB 4 (0, 8) rfl
  have b5 : (1 : Int) ≤ ρ 5 ∧ ρ 5 ≤ 6 := hB 5 (1, 6) rfl
  have b6 : (0 : Int) ≤ ρ 6 ∧ ρ 6 ≤ 6 := hB 6 (0, 6) rfl
  have b14 : (0 : Int) ≤ ρ 14 ∧ ρ 14 ≤ 5 := hB 14 (0, 5) rfl
  have b15 : (0 : Int) ≤ ρ 15 ∧ ρ 15 ≤ 49 := hB 15 (0, 49) rfl
  clear hB
  generalize ρ 2 = r2, ρ 3 = r3, ρ 4 = r4, ρ 5 = r5, ρ 6 = r6, ρ 14 = r14, ρ 15 = r15, α 7 = a7, α 8 = a8, α 10 = a10, α 11 = a11, α 12 = a12, α 13 = a13, α 15 = a15, α 16 = a16, α 19 = a19, α 20 = a20, α 21 = a21, α 23 = a23, α 24 = a24, α 25 = a25, α 58 = a58, α 59 = a59 at *
  omega)
def w_toHush_3_0 : VC := (([(0, 23), (0, 49), (0, 8), (0, 10), (0, 8), (1, 6), (0, 6), (0, 8), (0, 9), (0, 49), (0, 49), ((-2147483648), 2147483647), ((-2147483648), 2147483647), (0, 5), (0, 5), (1, 6), (0, 49), (0, 49), ((-2147483648), 2147483647)]), [(3, [(some 15, 0), (some 5, 0)], []), (150, [(some 16, 0), (some 2, 0), (some 3, 0), (some 4, 0), (some 5, 0), (some 6, 0)], [58, 59, 7, 8, 10, 11, 12, 13, 15, 16, 19, 20, 21, 23, 24, 25]), (214, [(some 14, 0), (some 15, 0), (some 2, 0), (some 3, 0), (some 4, 0), (some 5, 0), (some 6, 0)], [7, 8, 10, 11, 12, 13, 15, 16, 19, 20, 21, 23, 24, 25]), (3, [(some 5, 0), (some 15, 0)], []), (2, [(some 14, 0), (some 15, 0)], []), (2, [(some 14, 0), (some 5, 0)], []), (0, [(none, 0), (none, 0)], [])], (215, [(some 14, 1), (some 2, 0), (some 3, 0), (some 4, 0), (some 5, 0), (some 6, 0)], [7, 8, 10, 11, 12, 13, 15, 16, 19, 20, 21, 23, 24, 25]))
set_option maxRecDepth 20000 in
theorem v_toHush_3_0 {PT : PTy} (hp : HP18 PT) : vcOk PT w_toHush_3_0 := vc_of (fun ρ α hB hF => by
  obtain ⟨f0, f1, f2, f3, f4, f5, -, -⟩ := hF
  have e150 : PT 150 = P_ar2 := hp.1.1.1.1.1.1.1.2.2.2.2.1
  have e214 : PT 214 = P_hu2 := hp.2.2.2.1
  have e215 : PT 215 = P_hu3 := hp.2.2.2.2.1
  simp only [hF2, hF3, hFp_150, hFp_214, hFp_215, e150, e214, e215, P_ar2, P_hu2, P_hu3, den_s, den_c, Int.add_zero, List.map_cons, List.map_nil] at f0 f1 f2 f3 f4 f5 ⊢
  have b2 : (0 : Int) ≤ ρ 2 ∧ ρ 2 ≤ 8 := hB 2 (0, 8) rfl
  have b3 : (0 : Int) ≤ ρ 3 ∧ ρ 3 ≤ 10 := hB 3 (0, 10) rfl
  have b4 : (0 : Int) ≤ ρ 4 ∧ ρ 4 ≤ 8 := hB 4 (0, 8) rfl
  have b5 : (1 : Int) ≤ ρ 5 ∧ ρ 5 ≤ 6 := hB 5 (1, 6) rfl
  have b6 : (0 : Int) ≤ ρ 6 ∧ ρ 6 ≤ 6 := hB 6 (0, 6) rfl
  have b14 : (0 : Int) ≤ ρ 14 ∧ ρ 14 ≤ 5 := hB 14 (0, 5) rfl
  have b15 : (1 : Int) ≤ ρ 15 ∧ ρ 15 ≤ 6 := hB 15 (1, 6) rfl
  have b16 : (0 : Int) ≤ ρ 16 ∧ ρ 16 ≤ 49 := hB 16 (0, 49) rfl
  clear hB
  generalize ρ 2 = r2, ρ 3 = r3, ρ 4 = r4, ρ 5 = r5, ρ 6 = r6, ρ 14 = r14, ρ 15 = r15, ρ 16 = r16, α 7 = a7, α 8 = a8, α 10 = a10, α 11 = a11, α 12 = a12, α 13 = a13, α 15 = a15, α 16 = a16, α 19 = a19, α 20 = a20, α 21 = a21, α 23 = a23, α 24 = a24, α 25 = a25, α 58 = a58, α 59 = a59 at *
  obtain ⟨u1, u2, u3⟩ := f2
  exact ⟨u1, fun j k h1 h2 h3 h4 => by
    by_cases q : j = r14
    · subst q; exact u3 k h3 (by omega)
    · exact u2 j k h1 (by omega) h3 h4⟩)
def w_toHush_3_1 : VC := (([(0, 23), (0, 49), (0, 8), (0, 10), (0, 8), (1, 6), (0, 6), (0, 8), (0, 9), (0, 49), (0, 49), ((-2147483648), 2147483647), ((-2147483648), 2147483647), (0, 5), (0, 5), (1, 6), (0, 49), (0, 49), ((-2147483648), 2147483647)]), [(3, [(some 15, 0), (some 5, 0)], []), (150, [(some 16, 0), (some 2, 0), (some 3, 0), (some 4, 0), (some 5, 0), (some 6, 0)], [58, 59, 7, 8, 10, 11, 12, 13, 15, 16, 19, 20, 21, 23, 24, 25]), (214, [(some 14, 0), (some 15, 0), (some 2, 0), (some 3, 0), (some 4, 0), (some 5, 0), (some 6, 0)], [7, 8, 10, 11, 12, 13, 15, 16, 19, 20, 21, 23, 24, 25]), (3, [(some 5, 0), (some 15, 0)], []), (2, [(some 14, 0), (some 15, 0)], []), (2, [(some 14, 0), (some 5, 0)], []), (0, [(none, 0), (none, 0)], [])], (3, [(some 5, 0), (some 14, 1)], []))
set_option maxRecDepth 20000 in
theorem v_toHush_3_1 {PT : PTy} (hp : HP18 PT) : vcOk PT w_toHush_3_1 := vc_of (fun ρ α hB hF => by
  obtain ⟨f0, f1, f2, f3, f4, f5, -, -⟩ := hF
  have e150 : PT 150 = P_ar2 := hp.1.1.1.1.1.1.1.2.2.2.2.1
  have e214 : PT 214 = P_hu2 := hp.2.2.2.1
  simp only [hF2, hF3, hFp_150, hFp_214, e150, e214, P_ar2, P_hu2, den_s, den_c, Int.add_zero, List.map_cons, List.map_nil] at f0 f1 f2 f3 f4 f5 ⊢
  have b2 : (0 : Int) ≤ ρ 2 ∧ ρ 2 ≤ 8 := hB 2 (0, 8) rfl
  have b3 : (0 : Int) ≤ ρ 3 ∧ ρ 3 ≤ 10 := hB 3 (0, 10) rfl
  have b4 : (0 : Int) ≤ ρ 4 ∧ ρ 4 ≤ 8 := hB 4 (0, 8) rfl
  have b5 : (1 : Int) ≤ ρ 5 ∧ ρ 5 ≤ 6 := hB 5 (1, 6) rfl
  have b6 : (0 : Int) ≤ ρ 6 ∧ ρ 6 ≤ 6 := hB 6 (0, 6) rfl
  have b14 : (0 : Int) ≤ ρ 14 ∧ ρ 14 ≤ 5 := hB 14 (0, 5) rfl
  have b15 : (1 : Int) ≤ ρ 15 ∧ ρ 15 ≤ 6 := hB 15 (1, 6) rfl
  have b16 : (0 : Int) ≤ ρ 16 ∧ ρ 16 ≤ 49 := hB 16 (0, 49) rfl
  clear hB
  generalize ρ 2 = r2, ρ 3 = r3, ρ 4 = r4, ρ 5 = r5, ρ 6 = r6, ρ 14 = r14, ρ 15 = r15, ρ 16 = r16, α 7 = a7, α 8 = a8, α 10 = a10, α 11 = a11, α 12 = a12, α 13 = a13, α 15 = a15, α 16 = a16, α 19 = a19, α 20 = a20, α 21 = a21, α 23 = a23, α 24 = a24, α 25 = a25, α 58 = a58, α 59 = a59 at *
  omega)
def w_toHush_3_2 : VC := (([(0, 23), (0, 49), (0, 8), (0, 10), (0, 8), (2, 6), (0, 6), (0, 8), (0, 9), (0, 49), (0, 49), ((-2147483648), 2147483647), ((-2147483648), 2147483647), (0, 5), (0, 5), (1, 5), (0, 49), (0, 49), ((-2147483648), 2147483647), (1, 32), (2, 32), ((-2147483648), 2147483647), (0, 0), (0, 49)]), [(0, [(some 22, 0), (none, 0)], []), (212, [(some 22, 0), (some 21, 0), (some 2, 0), (some 3, 0), (some 4, 0), (some 5, 0), (some 6, 0), (none, 0)], [7, 8, 10, 11, 12, 13, 15, 16, 19, 20, 21, 23, 24, 25]), (11, [(some 21, 0), (some 19, 0), (some 20, 0)], []), (13, [(some 20, 0), (none, 1), (some 15, 0)], []), (13, [(some 19, 0), (none, 1), (some 14, 0)], []), (2, [(some 15, 0), (some 5, 0)], []), (150, [(some 16, 0), (some 2, 0), (some 3, 0), (some 4, 0), (some 5, 0), (some 6, 0)], [58, 59, 7, 8, 10, 11, 12, 13, 15, 16, 19, 20, 21, 23, 24, 25]), (214, [(some 14, 0), (some 15, 0), (some 2, 0), (some 3, 0), (some 4, 0), (some 5, 0), (some 6, 0)], [7, 8, 10, 11, 12, 13, 15, 16, 19, 20, 21, 23, 24, 25]), (3, [(some 5, 0), (some 15, 0)], []), (2, [(some 14, 0), (some 15, 0)], []), (2, [(some 14, 0), (some 5, 0)], []), (0, [(none, 0), (none, 0)], [])], (214, [(some 14, 0), (some 15, 1), (some 2, 0), (some 3, 0), (some 4, 0), (some 5, 0), (some 6, 0)], [7, 8, 10, 11, 12, 13, 15, 16, 19, 20, 21, 23, 24, 25]))
set_option maxRecDepth 20000 in
theorem v_toHush_3_2 {PT : PTy} (hp : HP18 PT) : vcOk PT w_toHush_3_2 := vc_of (fun ρ α hB hF => by
  obtain ⟨f0, f1, f2, f3, f4, f5, f6, f7, f8, f9, f10, -, -⟩ := hF
  have e150 : PT 150 = P_ar2 := hp.1.1.1.1.1.1.1.2.2.2.2.1
  have e212 : PT 212 = P_lnX := hp.2.1
  have e214 : PT 214 = P_hu2 := hp.2.2.2.1
  simp only [hF0, hF2, hF3, hF11, hF13, hFp_150, hFp_212, hFp_214, e150, e212, e214, P_ar2, P_lnX, P_hu2, den_s, den_c, Int.add_zero, List.map_cons, List.map_nil] at f0 f1 f2 f3 f4 f5 f6 f7 f8 f9 f10 ⊢
  have b2 : (0 : Int) ≤ ρ 2 ∧ ρ 2 ≤ 8 := hB 2 (0, 8) rfl
  have b3 : (0 : Int) ≤ ρ 3 ∧ ρ 3 ≤ 10 := hB 3 (0, 10) rfl
  have b4 : (0 : Int) ≤ ρ 4 ∧ ρ 4 ≤ 8 := hB 4 (0, 8) rfl
  have b5 : (2 : Int) ≤ ρ 5 ∧ ρ 5 ≤ 6 := hB 5 (2, 6) rfl
  have b6 : (0 : Int) ≤ ρ 6 ∧ ρ 6 ≤ 6 := hB 6 (0, 6) rfl
  have b14 : (0 : Int) ≤ ρ 14 ∧ ρ 14 ≤ 5 := hB 14 (0, 5) rfl
  have b15 : (1 : Int) ≤ ρ 15 ∧ ρ 15 ≤ 5 := hB 15 (1, 5) rfl
  have b16 : (0 : Int) ≤ ρ 16 ∧ ρ 16 ≤ 49 := hB 16 (0, 49) rfl
  have b19 : (1 : Int) ≤ ρ 19 ∧ ρ 19 ≤ 32 := hB 19 (1, 32) rfl
  have b20 : (2 : Int) ≤ ρ 20 ∧ ρ 20 ≤ 32 := hB 20 (2, 32) rfl
  have b21 : ((-2147483648) : Int) ≤ ρ 21 ∧ ρ 21 ≤ 2147483647 := hB 21 ((-2147483648), 2147483647) rfl
  have b22 : (0 : Int) ≤ ρ 22 ∧ ρ 22 ≤ 0 := hB 22 (0, 0) rfl
  clear hB
  generalize ρ 2 = r2, ρ 3 = r3, ρ 4 = r4, ρ 5 = r5, ρ 6 = r6, ρ 14 = r14, ρ 15 = r15, ρ 16 = r16, ρ 19 = r19, ρ 20 = r20, ρ 21 = r21, ρ 22 = r22, α 7 = a7, α 8 = a8, α 10 = a10, α 11 = a11, α 12 = a12, α 13 = a13, α 15 = a15, α 16 = a16, α 19 = a19, α 20 = a20, α 21 = a21, α 23 = a23, α 24 = a24, α 25 = a25, α 58 = a58, α 59 = a59 at *
  subst f2
  subst f3
  subst f4
  have h0 : hqX r2 r3 r4 r5 r6 a7 a8 a10 a11 a12 a13 a15 a16 a19 a20 a21 a23 a24 a25 (mOr (mShl 1 r14) (mShl 1 r15)) r22 := by
    first | exact f1 rfl | exact f1 trivial | exact f1
  rw [show r22 = 0 by omega] at h0
  obtain ⟨u1, u2, u3⟩ := f7
  exact ⟨u1, u2, fun k h1 h2 => by
    by_cases q : k = r15
    · subst q; exact h0
    · exact u3 k h1 (by omega)⟩)
def w_toHush_3_3 : VC := (([(0, 23), (0, 49), (0, 8), (0, 10), (0, 8), (2, 6), (0, 6), (0, 8), (0, 9), (0, 49), (0, 49), ((-2147483648), 2147483647), ((-2147483648), 2147483647), (0, 5), (0, 5), (1, 5), (0, 49), (0, 49), ((-2147483648), 2147483647), (1, 32), (2, 32), ((-2147483648), 2147483647), (0, 0), (0, 49)]), [(0, [(some 22, 0), (none, 0)], []), (212, [(some 22, 0), (some 21, 0), (some 2, 0), (some 3, 0), (some 4, 0), (some 5, 0), (some 6, 0), (none, 0)], [7, 8, 10, 11, 12, 13, 15, 16, 19, 20, 21, 23, 24, 25]), (11, [(some 21, 0), (some 19, 0), (some 20, 0)], []), (13, [(some 20, 0), (none, 1), (some 15, 0)], []), (13, [(some 19, 0), (none, 1), (some 14, 0)], []), (2, [(some 15, 0), (some 5, 0)], []), (150, [(some 16, 0), (some 2, 0), (some 3, 0), (some 4, 0), (some 5, 0), (some 6, 0)], [58, 59, 7, 8, 10, 11, 12, 13, 15, 16, 19, 20, 21, 23, 24, 25]), (214, [(some 14, 0), (some 15, 0), (some 2, 0), (some 3, 0), (some 4, 0), (some 5, 0), (some 6, 0)], [7, 8, 10, 11, 12, 13, 15, 16, 19, 20, 21, 23, 24, 25]), (3, [(some 5, 0), (some 15, 0)], []), (2, [(some 14, 0), (some 15, 0)], []), (2, [(some 14, 0), (some 5, 0)], []), (0, [(none, 0), (none, 0)], [])], (3, [(some 5, 0), (some 15, 1)], []))
set_option maxRecDepth 20000 in
theorem v_toHush_3_3 {PT : PTy} (hp : HP18 PT) : vcOk PT w_toHush_3_3 := vc_of (fun ρ α hB hF => by
  obtain ⟨f0, f1, f2, f3, f4, f5, f6, f7, f8, f9, f10, -, -⟩ := hF
  have e150 : PT 150 = P_ar2 := hp.1.1.1.1.1.1.1.2.2.2.2.1
  have e212 : PT 212 = P_lnX := hp.2.1
  have e214 : PT 214 = P_hu2 := hp.2.2.2.1
  simp only [hF0, hF2, hF3, hF11, hF13, hFp_150, hFp_212, hFp_214, e150, e212, e214, P_ar2, P_lnX, P_hu2, den_s, den_c, Int.add_zero, List.map_cons, List.map_nil] at f0 f1 f2 f3 f4 f5 f6 f7 f8 f9 f10 ⊢
  have b2 : (0 : Int) ≤ ρ 2 ∧ ρ 2 ≤ 8 := hB 2 (0, 8) rfl
  have b3 : (0 : Int) ≤ ρ 3 ∧ ρ 3 ≤ 10 := hB 3 (0, 10) rfl
  have b4 : (0 : Int) ≤ ρ 4 ∧ ρ 4 ≤ 8 := hB 4 (0, 8) rfl
  have b5 : (2 : Int) ≤ ρ 5 ∧ ρ 5 ≤ 6 := hB 5 (2, 6) rfl
  have b6 : (0 : Int) ≤ ρ 6 ∧ ρ 6 ≤ 6 := hB 6 (0, 6) rfl
  have b14 : (0 : Int) ≤ ρ 14 ∧ ρ 14 ≤ 5 := hB 14 (0, 5) rfl
  have b15 : (1 : Int) ≤ ρ 15 ∧ ρ 15 ≤ 5 := hB 15 (1, 5) rfl
  have b16 : (0 : Int) ≤ ρ 16 ∧ ρ 16 ≤ 49 := hB 16 (0, 49) rfl
  have b19 : (1 : Int) ≤ ρ 19 ∧ ρ 19 ≤ 32 := hB 19 (1, 32) rfl
  have b20 : (2 : Int) ≤ ρ 20 ∧ ρ 20 ≤ 32 := hB 20 (2, 32) rfl
  have b21 : ((-2147483648) : Int) ≤ ρ 21 ∧ ρ 21 ≤ 2147483647 := hB 21 ((-2147483648), 2147483647) rfl
  have b22 : (0 : Int) ≤ ρ 22 ∧ ρ 22 ≤ 0 := hB 22 (0, 0) rfl
  clear hB
  generalize ρ 2 = r2, ρ 3 = r3, ρ 4 = r4, ρ 5 = r5, ρ 6 = r6, ρ 14 = r14, ρ 15 = r15, ρ 16 = r16, ρ 19 = r19, ρ 20 = r20, ρ 21 = r21, ρ 22 = r22, α 7 = a7, α 8 = a8, α 10 = a10, α 11 = a11, α 12 = a12, α 13 = a13, α 15 = a15, α 16 = a16, α 19 = a19, α 20 = a20, α 21 = a21, α 23 = a23, α 24 = a24, α 25 = a25, α 58 = a58, α 59 = a59 at *
  subst f2
  subst f3
  subst f4
  omega)
def w_toHush_3_4 : VC := (([(0, 23), (0, 49), (0, 8), (0, 10), (0, 8), (2, 6), (0, 6), (0, 8), (0, 9), (0, 49), (0, 49), ((-2147483648), 2147483647), ((-2147483648), 2147483647), (0, 5), (0, 5), (1, 5), (0, 49), (0, 49), ((-2147483648), 2147483647), (1, 32), (2, 32), ((-2147483648), 2147483647), (0, 0), (0, 49)]), [(0, [(some 22, 0), (none, 0)], []), (212, [(some 22, 0), (some 21, 0), (some 2, 0), (some 3, 0), (some 4, 0), (some 5, 0), (some 6, 0), (none, 0)], [7, 8, 10, 11, 12, 13, 15, 16, 19, 20, 21, 23, 24, 25]), (11, [(some 21, 0), (some 19, 0), (some 20, 0)], []), (13, [(some 20, 0), (none, 1), (some 15, 0)], []), (13, [(some 19, 0), (none, 1), (some 14, 0)], []), (2, [(some 15, 0), (some 5, 0)], []), (150, [(some 16, 0), (some 2, 0), (some 3, 0), (some 4, 0), (some 5, 0), (some 6, 0)], [58, 59, 7, 8, 10, 11, 12, 13, 15, 16, 19, 20, 21, 23, 24, 25]), (214, [(some 14, 0), (some 15, 0), (some 2, 0), (some 3, 0), (some 4, 0), (some 5, 0), (some 6, 0)], [7, 8, 10, 11, 12, 13, 15, 16, 19, 20, 21, 23, 24, 25]), (3, [(some 5, 0), (some 15, 0)], []), (2, [(some 14, 0), (some 15, 0)], []), (2, [(some 14, 0), (some 5, 0)], []), (0, [(none, 0), (none, 0)], [])], (2, [(some 14, 0), (some 15, 1)], []))
set_option maxRecDepth 20000 in
theorem v_toHush_3_4 {PT : PTy} (hp : HP18 PT) : vcOk PT w_toHush_3_4 := vc_of (fun ρ α hB hF => by
  obtain ⟨f0, f1, f2, f3, f4, f5, f6, f7, f8, f9, f10, -, -⟩ := hF
  have e150 : PT 150 = P_ar2 := hp.1.1.1.1.1.1.1.2.2.2.2.1
  have e212 : PT 212 = P_lnX := hp.2.1
  have e214 : PT 214 = P_hu2 := hp.2.2.2.1
  simp only [hF0, hF2, hF3, hF11, hF13, hFp_150, hFp_212, hFp_214, e150, e212, e214, P_ar2, P_lnX, P_hu2, den_s, den_c, Int.add_zero, List.map_cons, List.map_nil] at f0 f1 f2 f3 f4 f5 f6 f7 f8 f9 f10 ⊢
  have b2 : (0 : Int) ≤ ρ 2 ∧ ρ 2 ≤ 8 := hB 2 (0, 8) rfl
  have b3 : (0 : Int) ≤ ρ 3 ∧ ρ 3 ≤ 10 := hB 3 (0, 10) rfl
  have b4 : (0 : Int) ≤ ρ 4 ∧ ρ 4 ≤ 8 := hB 4 (0, 8) rfl
  have b5 : (2 : Int) ≤ ρ 5 ∧ ρ 5 ≤ 6 := hB 5 (2, 6) rfl
  have b6 : (0 : Int) ≤ ρ 6 ∧ ρ 6 ≤ 6 := hB 6 (0, 6) rfl
  have b14 : (0 : Int) ≤ ρ 14 ∧ ρ 14 ≤ 5 := hB 14 (0, 5) rfl
  have b15 : (1 : Int) ≤ ρ 15 ∧ ρ 15 ≤ 5 := hB 15 (1, 5) rfl
  have b16 : (0 : Int) ≤ ρ 16 ∧ ρ 16 ≤ 49 := hB 16 (0, 49) rfl
  have b19 : (1 : Int) ≤ ρ 19 ∧ ρ 19 ≤ 32 := hB 19 (1, 32) rfl
  have b20 : (2 : Int) ≤ ρ 20 ∧ ρ 20 ≤ 32 := hB 20 (2, 32) rfl
  have b21 : ((-2147483648) : Int) ≤ ρ 21 ∧ ρ 21 ≤ 2147483647 := hB 21 ((-2147483648), 2147483647) rfl
  have b22 : (0 : Int) ≤ ρ 22 ∧ ρ 22 ≤ 0 := hB 22 (0, 0) rfl
  clear hB
  generalize ρ 2 = r2, ρ 3 = r3, ρ 4 = r4, ρ 5 = r5, ρ 6 = r6, ρ 14 = r14, ρ 15 = r15, ρ 16 = r16, ρ 19 = r19, ρ 20 = r20, ρ 21 = r21, ρ 22 = r22, α 7 = a7, α 8 = a8, α 10 = a10, α 11 = a11, α 12 = a12, α 13 = a13, α 15 = a15, α 16 = a16, α 19 = a19, α 20 = a20, α 21 = a21, α 23 = a23, α 24 = a24, α 25 = a25, α 58 = a58, α 59 = a59 at *
  subst f2
  subst f3
  subst f4
  omega)
def w_toHush_3_5 : VC := (([(0, 23), (0, 49), (0, 8), (0, 10), (0, 8), (2, 6), (0, 6), (0, 8), (0, 9), (0, 49), (0, 49), ((-2147483648), 2147483647), ((-2147483648), 2147483647), (0, 5), (0, 5), (1, 5), (0, 49), (0, 49), ((-2147483648), 2147483647), (1, 32), (2, 32), ((-2147483648), 2147483647), (1, 1), (0, 49), (1, 32), (2, 32), ((-2147483648), 2147483647)]), [(11, [(some 26, 0), (some 24, 0), (some 25, 0)], []), (13, [(some 25, 0), (none, 1), (some 15, 0)], []), (13, [(some 24, 0), (none, 1), (some 14, 0)], []), (1, [(some 22, 0), (none, 0)], []), (212, [(some 22, 0), (some 21, 0), (some 2, 0), (some 3, 0), (some 4, 0), (some 5, 0), (some 6, 0), (none, 0)], [7, 8, 10, 11, 12, 13, 15, 16, 19, 20, 21, 23, 24, 25]), (11, [(some 21, 0), (some 19, 0), (some 20, 0)], []), (13, [(some 20, 0), (none, 1), (some 15, 0)], []), (13, [(some 19, 0), (none, 1), (some 14, 0)], []), (2, [(some 15, 0), (some 5, 0)], []), (150, [(some 16, 0), (some 2, 0), (some 3, 0), (some 4, 0), (some 5, 0), (some 6, 0)], [58, 59, 7, 8, 10, 11, 12, 13, 15, 16, 19, 20, 21, 23, 24, 25]), (214, [(some 14, 0), (some 15, 0), (some 2, 0), (some 3, 0), (some 4, 0), (some 5, 0), (some 6, 0)], [7, 8, 10, 11, 12, 13, 15, 16, 19, 20, 21, 23, 24, 25]), (3, [(some 5, 0), (some 15, 0)], []), (2, [(some 14, 0), (some 15, 0)], []), (2, [(some 14, 0), (some 5, 0)], []), (0, [(none, 0), (none, 0)], [])], (216, [(some 26, 0), (some 2, 0), (some 3, 0), (some 4, 0), (some 5, 0), (some 6, 0)], [7, 8, 10, 11, 12, 13, 15, 16, 19, 20, 21, 23, 24, 25]))
set_option maxRecDepth 20000 in
theorem v_toHush_3_5 {PT : PTy} (hp : HP18 PT) : vcOk PT w_toHush_3_5 := vc_of (fun ρ α hB hF => by
  obtain ⟨f0, f1, f2, -, f4, f5, f6, f7, f8, f9, f10, f11, f12, f13, -, -⟩ := hF
  have e150 : PT 150 = P_ar2 := hp.1.1.1.1.1.1.1.2.2.2.2.1
  have e212 : PT 212 = P_lnX := hp.2.1
  have e214 : PT 214 = P_hu2 := hp.2.2.2.1
  have e216 : PT 216 = P_hsX := hp.2.2.2.2.2.1
  simp only [hF2, hF3, hF11, hF13, hFp_150, hFp_212, hFp_214, hFp_216, e150, e212, e214, e216, P_ar2, P_lnX, P_hu2, P_hsX, den_s, den_c, Int.add_zero, List.map_cons, List.map_nil] at f0 f1 f2 f4 f5 f6 f7 f8 f9 f10 f11 f12 f13 ⊢
  have b2 : (0 : Int) ≤ ρ 2 ∧ ρ 2 ≤ 8 := hB 2 (0, 8) rfl
  have b3 : (0 : Int) ≤ ρ 3 ∧ ρ 3 ≤ 10 := hB 3 (0, 10) rfl
  have b4 : (0 : Int) ≤ ρ 4 ∧ ρ 4 ≤ 8 := hB 4 (0, 8) rfl
  have b5 : (2 : Int) ≤ ρ 5 ∧ ρ 5 ≤ 6 := hB 5 (2, 6) rfl
  have b6 : (0 : Int) ≤ ρ 6 ∧ ρ 6 ≤ 6 := hB 6 (0, 6) rfl
  have b14 : (0 : Int) ≤ ρ 14 ∧ ρ 14 ≤ 5 := hB 14 (0, 5) rfl
  have b15 : (1 : Int) ≤ ρ 15 ∧ ρ 15 ≤ 5 := hB 15 (1, 5) rfl
  have b16 : (0 : Int) ≤ ρ 16 ∧ ρ 16 ≤ 49 := hB 16 (0, 49) rfl
  have b19 : (1 : Int) ≤ ρ 19 ∧ ρ 19 ≤ 32 := hB 19 (1, 32) rfl
  have b20 : (2 : Int) ≤ ρ 20 ∧ ρ 20 ≤ 32 := hB 20 (2, 32) rfl
  have b21 : ((-2147483648) : Int) ≤ ρ 21 ∧ ρ 21 ≤ 2147483647 := hB 21 ((-2147483648), 2147483647) rfl
  have b22 : (1 : Int) ≤ ρ 22 ∧ ρ 22 ≤ 1 := hB 22 (1, 1) rfl
  have b24 : (1 : Int) ≤ ρ 24 ∧ ρ 24 ≤ 32 := hB 24 (1, 32) rfl
  have b25 : (2 : Int) ≤ ρ 25 ∧ ρ 25 ≤ 32 := hB 25 (2, 32) rfl
  have b26 : ((-2147483648) : Int) ≤ ρ 26 ∧ ρ 26 ≤ 2147483647 := hB 26 ((-2147483648), 2147483647) rfl
  clear hB
  generalize ρ 2 = r2, ρ 3 = r3, ρ 4 = r4, ρ 5 = r5, ρ 6 = r6, ρ 14 = r14, ρ 15 = r15, ρ 16 = r16, ρ 19 = r19, ρ 20 = r20, ρ 21 = r21, ρ 22 = r22, ρ 24 = r24, ρ 25 = r25, ρ 26 = r26, α 7 = a7, α 8 = a8, α 10 = a10, α 11 = a11, α 12 = a12, α 13 = a13, α 15 = a15, α 16 = a16, α 19 = a19, α 20 = a20, α 21 = a21, α 23 = a23, α 24 = a24, α 25 = a25, α 58 = a58, α 59 = a59 at *
  subst f0
  subst f1
  subst f2
  subst f5
  subst f6
  subst f7
  have h0 : hqX r2 r3 r4 r5 r6 a7 a8 a10 a11 a12 a13 a15 a16 a19 a20 a21 a23 a24 a25 (mOr (mShl 1 r14) (mShl 1 r15)) r22 := by
    first | exact f4 rfl | exact f4 trivial | exact f4
  rw [show r22 = 1 by omega] at h0
  exact ⟨2, r14, r15, Or.inr (Or.inr (Or.inl ⟨by first | rfl | trivial, by omega, by omega, by omega, f10, h0⟩)), fun q => by exfalso; omega, fun q => by exfalso; omega, fun _ => rfl, fun q => by exfalso; omega⟩)
set_option maxRecDepth 1000000 in
theorem k_toHush {PT : PTy} (hp : HP18 PT) : wfX c_toHush = true ∧ xcOk PT c_toHush := xctr (xl (k_arrange14 hp.1.1.1.1.1.1.1.1.1.1.1.1.1.1.1) (xl (k_lnNaked hp) (xl0))) c_toHush 43 mX6_liesToHush rfl h_toHush (by decide +kernel) (by decide +kernel) (by decide) (vcs_by [w_toHush_0_0, w_toHush_0_1, w_toHush_0_2, w_toHush_0_3, w_toHush_0_4, w_toHush_0_5] (by decide +kernel) (vc (v_toHush_0_0 hp) (vc (v_toHush_0_1 hp) (vc (v_toHush_0_2 hp) (vc (v_toHush_0_3 hp) (vc (v_toHush_0_4 hp) (vc (v_toHush_0_5 hp) vn))))))) (fmc (vcs_by [w_toHush_1_0, w_toHush_1_1, w_toHush_1_2, w_toHush_1_3, w_toHush_1_4] (by decide +kernel) (vc (v_toHush_1_0 hp) (vc (v_toHush_1_1 hp) (vc (v_toHush_1_2 hp) (vc (v_toHush_1_3 hp) (vc (v_toHush_1_4 hp) vn)))))) (fmc (vcs_by [w_toHush_2_0, w_toHush_2_1, w_toHush_2_2, w_toHush_2_3] (by decide +kernel) (vc (v_toHush_2_0 hp) (vc (v_toHush_2_1 hp) (vc (v_toHush_2_2 hp) (vc (v_toHush_2_3 hp) vn))))) (fmc (vcs_by [w_toHush_3_0, w_toHush_3_1, w_toHush_3_2, w_toHush_3_3, w_toHush_3_4, w_toHush_3_5] (by decide +kernel) (vc (v_toHush_3_0 hp) (vc (v_toHush_3_1 hp) (vc (v_toHush_3_2 hp) (vc (v_toHush_3_3 hp) (vc (v_toHush_3_4 hp) (vc (v_toHush_3_5 hp) vn))))))) fmn)))
def c_isHushed : XC := (166, 5, (bY ++ [((-2147483648), 2147483647)]), [.inr (.inl 0), .inl (some 13, 0)], gY2, [], [((bY ++ [((-2147483648), 2147483647), (0, 1)]), some (.inl (some 14, 0)), (hst gY2 [(0, .inr (.inr (.inr (7, [.inr (.inl 1), .inr (.inl 2), .inl (some 2, 0), .inr (.inl 3), .inr (.inl 4), .inl (some 3, 0), .inr (.inl 5), .inr (.inl 6), .inr (.inl 7), .inr (.inl 8), .inl (some 4, 0), .inr (.inl 9), .inr (.inl 10), .inl (some 5, 0), .inr (.inl 11), .inr (.inl 12), .inr (.inl 13), .inl (some 6, 0), .inr (.inl 14), .inr (.inl 15), .inr (.inl 16), .inl (some 8, 0), .inl (some 9, 0), .inr (.inl 17), .inr (.inl 18), .inl (some 10, 0), .inl (some 13, 0), .inr (.inl 19), .inr (.inl 20), .inr (.inl 21), .inr (.inl 22), .inr (.inl 23), .inr (.inl 24), .inr (.inl 25), .inl (some 7, 0), .inr (.inl 26), .inr (.inl 27), .inr (.inl 28), .inr (.inl 29), .inr (.inl 30), .inr (.inl 31), .inr (.inl 32), .inr (.inl 33), .inr (.inl 34), .inl (some 12, 0)]))))]), (ansT 35 [(19, 35), (20, 36), (21, 37), (22, 38), (23, 39), (24, 40)]), 41, [(217, [(some 14, 0), (some 13, 0), (some 2, 0), (some 3, 0), (some 9, 0), (some 5, 0), (some 6, 0), (some 8, 0), (some 10, 0)], [3, 4, 5, 6, 7, 8, 17, 18, 11, 12, 13, 14, 15, 16])])])
def h_isHushed : List XH := []
def w_isHushed_0_0 : VC := ((bY ++ [((-2147483648), 2147483647), ((-2147483648), 2147483647)]), [(1, [(some 14, 0), (none, 0)], []), (172, [(some 14, 0), (some 2, 0), (none, 23)], [38]), (104, [(none, 24), (some 2, 0), (some 8, 0), (some 3, 0), (some 9, 0), (some 5, 0), (some 6, 0), (some 10, 0), (some 13, 0)], [3, 4, 5, 6, 7, 8, 17, 18, 11, 12, 13, 14, 15, 16, 19, 20, 21, 35, 36, 37, 38, 39, 40])], (217, [(none, 0), (some 13, 0), (some 2, 0), (some 3, 0), (some 9, 0), (some 5, 0), (some 6, 0), (some 8, 0), (some 10, 0)], [3, 4, 5, 6, 7, 8, 17, 18, 11, 12, 13, 14, 15, 16]))
set_option maxRecDepth 20000 in
theorem v_isHushed_0_0 {PT : PTy} (hp : HP18 PT) : vcOk PT w_isHushed_0_0 := vc_of (fun ρ α hB hF => by
  obtain ⟨f0, f1, f2, -⟩ := hF
  have e104 : PT 104 = P_ru := hp.1.1.1.1.1.1.1.1.1.1.1.1.1.2.2.2.2.2.2.2.2.2.2.1
  have e172 : PT 172 = P_nkY := hp.1.1.1.1.1.1.2.2.2.2.2.2.2.2.2.2.1
  have e217 : PT 217 = P_ihY := hp.2.2.2.2.2.2.1
  simp only [hF1, hFp_104, hFp_172, hFp_217, e104, e172, e217, P_ru, P_nkY, P_ihY, den_s, den_c, Int.add_zero, List.map_cons, List.map_nil] at f0 f1 f2 ⊢
  have b2 : (0 : Int) ≤ ρ 2 ∧ ρ 2 ≤ 8 := hB 2 (0, 8) rfl
  have b3 : (0 : Int) ≤ ρ 3 ∧ ρ 3 ≤ 10 := hB 3 (0, 10) rfl
  have b5 : (0 : Int) ≤ ρ 5 ∧ ρ 5 ≤ 6 := hB 5 (0, 6) rfl
  have b6 : (0 : Int) ≤ ρ 6 ∧ ρ 6 ≤ 6 := hB 6 (0, 6) rfl
  have b8 : (0 : Int) ≤ ρ 8 ∧ ρ 8 ≤ 11 := hB 8 (0, 11) rfl
  have b9 : (0 : Int) ≤ ρ 9 ∧ ρ 9 ≤ 9 := hB 9 (0, 9) rfl
  have b10 : ((-2147483648) : Int) ≤ ρ 10 ∧ ρ 10 ≤ 2147483647 := hB 10 ((-2147483648), 2147483647) rfl
  have b13 : ((-2147483648) : Int) ≤ ρ 13 ∧ ρ 13 ≤ 2147483647 := hB 13 ((-2147483648), 2147483647) rfl
  have b14 : ((-2147483648) : Int) ≤ ρ 14 ∧ ρ 14 ≤ 2147483647 := hB 14 ((-2147483648), 2147483647) rfl
  clear hB
  generalize ρ 2 = r2, ρ 3 = r3, ρ 5 = r5, ρ 6 = r6, ρ 8 = r8, ρ 9 = r9, ρ 10 = r10, ρ 13 = r13, ρ 14 = r14, α 3 = a3, α 4 = a4, α 5 = a5, α 6 = a6, α 7 = a7, α 8 = a8, α 11 = a11, α 12 = a12, α 13 = a13, α 14 = a14, α 15 = a15, α 16 = a16, α 17 = a17, α 18 = a18, α 19 = a19, α 20 = a20, α 21 = a21, α 35 = a35, α 36 = a36, α 37 = a37, α 38 = a38, α 39 = a39, α 40 = a40 at *
  intro e1 e2
  obtain ⟨h1, h2⟩ := f2
  have hk := f1
  subst e1 e2
  first
    | exact ⟨_, _, _, _, _, _, ⟨_, _, _, h1, h2⟩, Or.inl ⟨by first | rfl | trivial, by rw [show nkdF _ _ = _ from hk.symm]; omega⟩⟩
    | exact ⟨_, _, _, _, _, _, ⟨_, _, _, h1, h2⟩, Or.inr ⟨by first | rfl | trivial, by rw [show nkdF _ _ = _ from hk.symm]; omega⟩⟩)
def w_isHushed_0_1 : VC := ((bY ++ [((-2147483648), 2147483647), (0, 0)]), [(0, [(some 14, 0), (none, 0)], []), (172, [(some 14, 0), (some 2, 0), (none, 23)], [38]), (104, [(none, 24), (some 2, 0), (some 8, 0), (some 3, 0), (some 9, 0), (some 5, 0), (some 6, 0), (some 10, 0), (some 13, 0)], [3, 4, 5, 6, 7, 8, 17, 18, 11, 12, 13, 14, 15, 16, 19, 20, 21, 35, 36, 37, 38, 39, 40])], (217, [(none, 1), (some 13, 0), (some 2, 0), (some 3, 0), (some 9, 0), (some 5, 0), (some 6, 0), (some 8, 0), (some 10, 0)], [3, 4, 5, 6, 7, 8, 17, 18, 11, 12, 13, 14, 15, 16]))
set_option maxRecDepth 20000 in
theorem v_isHushed_0_1 {PT : PTy} (hp : HP18 PT) : vcOk PT w_isHushed_0_1 := vc_of (fun ρ α hB hF => by
  obtain ⟨f0, f1, f2, -⟩ := hF
  have e104 : PT 104 = P_ru := hp.1.1.1.1.1.1.1.1.1.1.1.1.1.2.2.2.2.2.2.2.2.2.2.1
  have e172 : PT 172 = P_nkY := hp.1.1.1.1.1.1.2.2.2.2.2.2.2.2.2.2.1
  have e217 : PT 217 = P_ihY := hp.2.2.2.2.2.2.1
  simp only [hF0, hFp_104, hFp_172, hFp_217, e104, e172, e217, P_ru, P_nkY, P_ihY, den_s, den_c, Int.add_zero, List.map_cons, List.map_nil] at f0 f1 f2 ⊢
  have b2 : (0 : Int) ≤ ρ 2 ∧ ρ 2 ≤ 8 := hB 2 (0, 8) rfl
  have b3 : (0 : Int) ≤ ρ 3 ∧ ρ 3 ≤ 10 := hB 3 (0, 10) rfl
  have b5 : (0 : Int) ≤ ρ 5 ∧ ρ 5 ≤ 6 := hB 5 (0, 6) rfl
  have b6 : (0 : Int) ≤ ρ 6 ∧ ρ 6 ≤ 6 := hB 6 (0, 6) rfl
  have b8 : (0 : Int) ≤ ρ 8 ∧ ρ 8 ≤ 11 := hB 8 (0, 11) rfl
  have b9 : (0 : Int) ≤ ρ 9 ∧ ρ 9 ≤ 9 := hB 9 (0, 9) rfl
  have b10 : ((-2147483648) : Int) ≤ ρ 10 ∧ ρ 10 ≤ 2147483647 := hB 10 ((-2147483648), 2147483647) rfl
  have b13 : ((-2147483648) : Int) ≤ ρ 13 ∧ ρ 13 ≤ 2147483647 := hB 13 ((-2147483648), 2147483647) rfl
  have b14 : (0 : Int) ≤ ρ 14 ∧ ρ 14 ≤ 0 := hB 14 (0, 0) rfl
  clear hB
  generalize ρ 2 = r2, ρ 3 = r3, ρ 5 = r5, ρ 6 = r6, ρ 8 = r8, ρ 9 = r9, ρ 10 = r10, ρ 13 = r13, ρ 14 = r14, α 3 = a3, α 4 = a4, α 5 = a5, α 6 = a6, α 7 = a7, α 8 = a8, α 11 = a11, α 12 = a12, α 13 = a13, α 14 = a14, α 15 = a15, α 16 = a16, α 17 = a17, α 18 = a18, α 19 = a19, α 20 = a20, α 21 = a21, α 35 = a35, α 36 = a36, α 37 = a37, α 38 = a38, α 39 = a39, α 40 = a40 at *
  intro e1 e2
  obtain ⟨h1, h2⟩ := f2
  have hk := f1
  subst e1 e2
  first
    | exact ⟨_, _, _, _, _, _, ⟨_, _, _, h1, h2⟩, Or.inl ⟨by first | rfl | trivial, by rw [show nkdF _ _ = _ from hk.symm]; omega⟩⟩
    | exact ⟨_, _, _, _, _, _, ⟨_, _, _, h1, h2⟩, Or.inr ⟨by first | rfl | trivial, by rw [show nkdF _ _ = _ from hk.symm]; omega⟩⟩)
set_option maxRecDepth 1000000 in
theorem k_isHushed {PT : PTy} (hp : HP18 PT) : wfX c_isHushed = true ∧ xcOk PT c_isHushed := xctr (xl (k_runs hp.1.1.1.1.1.1.1.1.1.1.1.1.1) (xl (k_nakedNow hp.1.1.1.1.1.1) (xl0))) c_isHushed 32 mX7_isHushed rfl h_isHushed (by decide +kernel) (by decide +kernel) (by decide) (vcs_by [w_isHushed_0_0, w_isHushed_0_1] (by decide +kernel) (vc (v_isHushed_0_0 hp) (vc (v_isHushed_0_1 hp) vn))) fmn
def c_hushBy : XC := (167, 6, (bY), [.inr (.inl 0)], gY2, [(78, [], [1])], [((bY ++ [((-1), 2), (0, 8), (0, 10), (0, 11), ((-2147483648), 2147483647), ((-2147483648), 2147483647)]), some (.inl (some 13, 0)), (hst gY2 [(0, .inr (.inr (.inr (7, [.inr (.inl 1), .inr (.inl 2), .inl (some 14, 0), .inr (.inl 3), .inr (.inl 4), .inl (some 15, 0), .inr (.inl 5), .inr (.inl 6), .inr (.inl 7), .inr (.inl 8), .inl (some 4, 0), .inr (.inl 9), .inr (.inl 10), .inl (some 5, 0), .inr (.inl 11), .inr (.inl 12), .inr (.inl 13), .inl (some 6, 0), .inr (.inl 14), .inr (.inl 15), .inr (.inl 16), .inl (some 16, 0), .inl (some 4, 0), .inr (.inl 17), .inr (.inl 18), .inl (some 17, 0), .inl (some 18, 0), .inr (.inl 19), .inr (.inl 20), .inr (.inl 21), .inr (.inl 22), .inr (.inl 23), .inr (.inl 24), .inr (.inl 25), .inl (some 7, 0), .inr (.inl 26), .inr (.inl 27), .inr (.inl 28), .inr (.inl 29), .inr (.inl 30), .inr (.inl 31), .inr (.inl 32), .inr (.inl 33), .inr (.inl 34), .inl (some 12, 0)]))))]), [0, 1, 2, 35, 36, 37, 38, 39, 40, 9, 10, 11, 12, 13, 14, 15, 16, 41, 42, 43, 44, 45, 46, 47, 48, 49, 26, 27, 28, 29, 30, 31, 32, 33, 34], 50, [(221, [(some 13, 0), (some 14, 0), (some 15, 0), (some 4, 0), (some 5, 0), (some 6, 0)], [1, 2, 35, 36, 37, 38, 39, 40, 41, 42, 9, 10, 11, 12, 13, 14, 15, 16, 49])])])
def h_hushBy : List XH := [(16, (bY ++ [(0, 6), (0, 8), (0, 10), (0, 11), ((-2147483648), 2147483647), ((-2147483648), 2147483647)]), [some (.inr (.inl 0)), some (.inl (some 13, 0)), none], (hst gY2 [(0, .inr (.inr (.inr (7, [.inr (.inl 1), .inr (.inl 2), .inl (some 14, 0), .inr (.inl 3), .inr (.inl 4), .inl (some 15, 0), .inr (.inl 5), .inr (.inl 6), .inr (.inl 7), .inr (.inl 8), .inl (some 4, 0), .inr (.inl 9), .inr (.inl 10), .inl (some 5, 0), .inr (.inl 11), .inr (.inl 12), .inr (.inl 13), .inl (some 6, 0), .inr (.inl 14), .inr (.inl 15), .inr (.inl 16), .inl (some 16, 0), .inl (some 4, 0), .inr (.inl 17), .inr (.inl 18), .inl (some 17, 0), .inl (some 18, 0), .inr (.inl 19), .inr (.inl 20), .inr (.inl 21), .inr (.inl 22), .inr (.inl 23), .inr (.inl 24), .inr (.inl 25), .inl (some 7, 0), .inr (.inl 26), .inr (.inl 27), .inr (.inl 28), .inr (.inl 29), .inr (.inl 30), .inr (.inl 31), .inr (.inl 32), .inr (.inl 33), .inr (.inl 34), .inl (some 12, 0)]))))]), [0, 1, 2, 35, 36, 37, 38, 39, 40, 9, 10, 11, 12, 13, 14, 15, 16, 41, 42, 43, 44, 45, 46, 47, 48, 49, 26, 27, 28, 29, 30, 31, 32, 33, 34], 50, [(106, [(some 14, 0), (some 15, 0)], [1, 2, 35, 36, 37, 38, 39, 40]), (105, [(some 4, 0)], [9, 10, 41, 42]), (218, [(some 13, 0), (some 14, 0), (some 15, 0), (some 4, 0), (some 5, 0), (some 6, 0)], [35, 36, 37, 38, 39, 40, 41, 42, 11, 12, 13, 14, 15, 16]), (0, [(some 16, 0), (some 15, 0)], []), (0, [(some 17, 0), (none, 0)], []), (0, [(some 4, 0), (some 4, 0)], []), (3, [(some 5, 0), (some 13, 0)], [])], [(true, (none, 1)), (true, (some 13, 0)), (true, (none, 0)), (true, (none, 0))]),
  (51, (bY ++ [(0, 6), (0, 8), (0, 10), (0, 11), ((-2147483648), 2147483647), ((-2147483648), 2147483647)]), [some (.inr (.inl 0)), some (.inl (some 13, 0)), none], (hst gY2 [(0, .inr (.inr (.inr (7, [.inr (.inl 1), .inr (.inl 2), .inl (some 14, 0), .inr (.inl 3), .inr (.inl 4), .inl (some 15, 0), .inr (.inl 5), .inr (.inl 6), .inr (.inl 7), .inr (.inl 8), .inl (some 4, 0), .inr (.inl 9), .inr (.inl 10), .inl (some 5, 0), .inr (.inl 11), .inr (.inl 12), .inr (.inl 13), .inl (some 6, 0), .inr (.inl 14), .inr (.inl 15), .inr (.inl 16), .inl (some 16, 0), .inl (some 4, 0), .inr (.inl 17), .inr (.inl 18), .inl (some 17, 0), .inl (some 18, 0), .inr (.inl 19), .inr (.inl 20), .inr (.inl 21), .inr (.inl 22), .inr (.inl 23), .inr (.inl 24), .inr (.inl 25), .inl (some 7, 0), .inr (.inl 26), .inr (.inl 27), .inr (.inl 28), .inr (.inl 29), .inr (.inl 30), .inr (.inl 31), .inr (.inl 32), .inr (.inl 33), .inr (.inl 34), .inl (some 12, 0)]))))]), [0, 1, 2, 35, 36, 37, 38, 39, 40, 9, 10, 11, 12, 13, 14, 15, 16, 41, 42, 43, 44, 45, 46, 47, 48, 49, 26, 27, 28, 29, 30, 31, 32, 33, 34], 50, [(106, [(some 14, 0), (some 15, 0)], [1, 2, 35, 36, 37, 38, 39, 40]), (105, [(some 4, 0)], [9, 10, 41, 42]), (220, [(some 13, 0), (some 14, 0), (some 15, 0), (some 4, 0), (some 5, 0), (some 6, 0)], [35, 36, 37, 38, 39, 40, 41, 42, 11, 12, 13, 14, 15, 16]), (0, [(some 16, 0), (some 15, 0)], []), (0, [(some 17, 0), (none, 0)], []), (0, [(some 4, 0), (some 4, 0)], []), (3, [(some 5, 0), (some 13, 0)], [])], [(true, (none, 2)), (true, (some 13, 0)), (true, (none, 0)), (true, (none, 0))]),
  (63, ([(0, 23), (0, 49), (0, 8), (0, 10), (0, 8), (1, 6), (0, 6), (0, 8), (0, 11), (0, 9), ((-2147483648), 2147483647), ((-2147483648), 2147483647), (0, 5), (0, 5), (1, 6), (0, 8), (0, 10), (0, 11), ((-2147483648), 2147483647), ((-2147483648), 2147483647)]), [some (.inr (.inl 0)), some (.inl (some 13, 0)), some (.inl (some 14, 0))], (hst gY2 [(0, .inr (.inr (.inr (7, [.inr (.inl 1), .inr (.inl 2), .inl (some 15, 0), .inr (.inl 3), .inr (.inl 4), .inl (some 16, 0), .inr (.inl 5), .inr (.inl 6), .inr (.inl 7), .inr (.inl 8), .inl (some 4, 0), .inr (.inl 9), .inr (.inl 10), .inl (some 5, 0), .inr (.inl 11), .inr (.inl 12), .inr (.inl 13), .inl (some 6, 0), .inr (.inl 14), .inr (.inl 15), .inr (.inl 16), .inl (some 17, 0), .inl (some 4, 0), .inr (.inl 17), .inr (.inl 18), .inl (some 18, 0), .inl (some 19, 0), .inr (.inl 19), .inr (.inl 20), .inr (.inl 21), .inr (.inl 22), .inr (.inl 23), .inr (.inl 24), .inr (.inl 25), .inl (some 7, 0), .inr (.inl 26), .inr (.inl 27), .inr (.inl 28), .inr (.inl 29), .inr (.inl 30), .inr (.inl 31), .inr (.inl 32), .inr (.inl 33), .inr (.inl 34), .inl (some 12, 0)]))))]), [0, 1, 2, 35, 36, 37, 38, 39, 40, 9, 10, 11, 12, 13, 14, 15, 16, 41, 42, 43, 44, 45, 46, 47, 48, 49, 26, 27, 28, 29, 30, 31, 32, 33, 34], 50, [(106, [(some 15, 0), (some 16, 0)], [1, 2, 35, 36, 37, 38, 39, 40]), (105, [(some 4, 0)], [9, 10, 41, 42]), (219, [(some 13, 0), (some 14, 0), (some 15, 0), (some 16, 0), (some 4, 0), (some 5, 0), (some 6, 0)], [35, 36, 37, 38, 39, 40, 41, 42, 11, 12, 13, 14, 15, 16]), (0, [(some 17, 0), (some 16, 0)], []), (0, [(some 18, 0), (none, 0)], []), (0, [(some 4, 0), (some 4, 0)], []), (3, [(some 5, 0), (some 14, 0)], []), (2, [(some 13, 0), (some 14, 0)], []), (2, [(some 13, 0), (some 5, 0)], [])], [(true, (none, 2)), (true, (some 13, 0)), (true, (none, 1)), (true, (some 14, 0))])]
def w_hushBy_0_0 : VC := ((bY ++ [(0, 8), (0, 10), (0, 11), ((-2147483648), 2147483647), ((-2147483648), 2147483647), (0, 0)]), [(0, [(some 18, 0), (none, 0)], []), (217, [(some 18, 0), (none, 0), (some 13, 0), (some 14, 0), (some 4, 0), (some 5, 0), (some 6, 0), (some 15, 0), (some 16, 0)], [35, 36, 37, 38, 39, 40, 41, 42, 11, 12, 13, 14, 15, 16]), (106, [(some 13, 0), (some 14, 0)], [1, 2, 35, 36, 37, 38, 39, 40]), (105, [(some 4, 0)], [9, 10, 41, 42]), (0, [(some 15, 0), (some 14, 0)], []), (0, [(some 4, 0), (some 4, 0)], []), (0, [(some 16, 0), (none, 0)], []), (0, [(some 17, 0), (none, 0)], []), (78, [], [1])], (218, [(none, 0), (some 13, 0), (some 14, 0), (some 4, 0), (some 5, 0), (some 6, 0)], [35, 36, 37, 38, 39, 40, 41, 42, 11, 12, 13, 14, 15, 16]))
set_option maxRecDepth 20000 in
theorem v_hushBy_0_0 {PT : PTy} (hp : HP18 PT) : vcOk PT w_hushBy_0_0 := vc_of (fun ρ α hB hF => by
  obtain ⟨f0, f1, f2, f3, f4, f5, f6, f7, f8, -⟩ := hF
  have e78 : PT 78 = P_ly := hp.1.1.1.1.1.1.1.1.1.1.1.1.1.1.1.1.2.2.2.2.2.2.2.1
  have e105 : PT 105 = P_cp2 := hp.1.1.1.1.1.1.1.1.1.1.1.1.1.2.2.2.2.2.2.2.2.2.2.2.1
  have e106 : PT 106 = P_rd := hp.1.1.1.1.1.1.1.1.1.1.1.1.1.2.2.2.2.2.2.2.2.2.2.2.2.1
  have e217 : PT 217 = P_ihY := hp.2.2.2.2.2.2.1
  have e218 : PT 218 = P_hv1 := hp.2.2.2.2.2.2.2.1
  simp only [hF0, hFp_78, hFp_105, hFp_106, hFp_217, hFp_218, e78, e105, e106, e217, e218, P_ly, P_cp2, P_rd, P_ihY, P_hv1, den_s, den_c, Int.add_zero, List.map_cons, List.map_nil] at f0 f1 f2 f3 f4 f5 f6 f7 f8 ⊢
  have b4 : (0 : Int) ≤ ρ 4 ∧ ρ 4 ≤ 8 := hB 4 (0, 8) rfl
  have b5 : (0 : Int) ≤ ρ 5 ∧ ρ 5 ≤ 6 := hB 5 (0, 6) rfl
  have b6 : (0 : Int) ≤ ρ 6 ∧ ρ 6 ≤ 6 := hB 6 (0, 6) rfl
  have b13 : (0 : Int) ≤ ρ 13 ∧ ρ 13 ≤ 8 := hB 13 (0, 8) rfl
  have b14 : (0 : Int) ≤ ρ 14 ∧ ρ 14 ≤ 10 := hB 14 (0, 10) rfl
  have b15 : (0 : Int) ≤ ρ 15 ∧ ρ 15 ≤ 11 := hB 15 (0, 11) rfl
  have b16 : ((-2147483648) : Int) ≤ ρ 16 ∧ ρ 16 ≤ 2147483647 := hB 16 ((-2147483648), 2147483647) rfl
  have b17 : ((-2147483648) : Int) ≤ ρ 17 ∧ ρ 17 ≤ 2147483647 := hB 17 ((-2147483648), 2147483647) rfl
  have b18 : (0 : Int) ≤ ρ 18 ∧ ρ 18 ≤ 0 := hB 18 (0, 0) rfl
  clear hB
  generalize ρ 4 = r4, ρ 5 = r5, ρ 6 = r6, ρ 13 = r13, ρ 14 = r14, ρ 15 = r15, ρ 16 = r16, ρ 17 = r17, ρ 18 = r18, α 1 = a1, α 2 = a2, α 9 = a9, α 10 = a10, α 11 = a11, α 12 = a12, α 13 = a13, α 14 = a14, α 15 = a15, α 16 = a16, α 35 = a35, α 36 = a36, α 37 = a37, α 38 = a38, α 39 = a39, α 40 = a40, α 41 = a41, α 42 = a42 at *
  have h0 : hqY r13 r14 r4 r5 r6 a35 a36 a37 a38 a39 a40 a41 a42 a11 a12 a13 a14 a15 a16 0 r18 := f1 (by omega) (by omega)
  rw [show r18 = 0 by omega] at h0
  exact ⟨h0, fun j h1 h2 => by exfalso; omega⟩)
def w_hushBy_0_1 : VC := ((bY ++ [(0, 8), (0, 10), (0, 11), ((-2147483648), 2147483647), ((-2147483648), 2147483647), (0, 0)]), [(0, [(some 18, 0), (none, 0)], []), (217, [(some 18, 0), (none, 0), (some 13, 0), (some 14, 0), (some 4, 0), (some 5, 0), (some 6, 0), (some 15, 0), (some 16, 0)], [35, 36, 37, 38, 39, 40, 41, 42, 11, 12, 13, 14, 15, 16]), (106, [(some 13, 0), (some 14, 0)], [1, 2, 35, 36, 37, 38, 39, 40]), (105, [(some 4, 0)], [9, 10, 41, 42]), (0, [(some 15, 0), (some 14, 0)], []), (0, [(some 4, 0), (some 4, 0)], []), (0, [(some 16, 0), (none, 0)], []), (0, [(some 17, 0), (none, 0)], []), (78, [], [1])], (3, [(some 5, 0), (none, 0)], []))
set_option maxRecDepth 20000 in
theorem v_hushBy_0_1 {PT : PTy} (hp : HP18 PT) : vcOk PT w_hushBy_0_1 := vc_of (fun ρ α hB hF => by
  obtain ⟨f0, f1, f2, f3, f4, f5, f6, f7, f8, -⟩ := hF
  have e78 : PT 78 = P_ly := hp.1.1.1.1.1.1.1.1.1.1.1.1.1.1.1.1.2.2.2.2.2.2.2.1
  have e105 : PT 105 = P_cp2 := hp.1.1.1.1.1.1.1.1.1.1.1.1.1.2.2.2.2.2.2.2.2.2.2.2.1
  have e106 : PT 106 = P_rd := hp.1.1.1.1.1.1.1.1.1.1.1.1.1.2.2.2.2.2.2.2.2.2.2.2.2.1
  have e217 : PT 217 = P_ihY := hp.2.2.2.2.2.2.1
  simp only [hF0, hF3, hFp_78, hFp_105, hFp_106, hFp_217, e78, e105, e106, e217, P_ly, P_cp2, P_rd, P_ihY, den_s, den_c, Int.add_zero, List.map_cons, List.map_nil] at f0 f1 f2 f3 f4 f5 f6 f7 f8 ⊢
  have b4 : (0 : Int) ≤ ρ 4 ∧ ρ 4 ≤ 8 := hB 4 (0, 8) rfl
  have b5 : (0 : Int) ≤ ρ 5 ∧ ρ 5 ≤ 6 := hB 5 (0, 6) rfl
  have b6 : (0 : Int) ≤ ρ 6 ∧ ρ 6 ≤ 6 := hB 6 (0, 6) rfl
  have b13 : (0 : Int) ≤ ρ 13 ∧ ρ 13 ≤ 8 := hB 13 (0, 8) rfl
  have b14 : (0 : Int) ≤ ρ 14 ∧ ρ 14 ≤ 10 := hB 14 (0, 10) rfl
  have b15 : (0 : Int) ≤ ρ 15 ∧ ρ 15 ≤ 11 := hB 15 (0, 11) rfl
  have b16 : ((-2147483648) : Int) ≤ ρ 16 ∧ ρ 16 ≤ 2147483647 := hB 16 ((-2147483648), 2147483647) rfl
  have b17 : ((-2147483648) : Int) ≤ ρ 17 ∧ ρ 17 ≤ 2147483647 := hB 17 ((-2147483648), 2147483647) rfl
  have b18 : (0 : Int) ≤ ρ 18 ∧ ρ 18 ≤ 0 := hB 18 (0, 0) rfl
  clear hB
  generalize ρ 4 = r4, ρ 5 = r5, ρ 6 = r6, ρ 13 = r13, ρ 14 = r14, ρ 15 = r15, ρ 16 = r16, ρ 17 = r17, ρ 18 = r18, α 1 = a1, α 2 = a2, α 9 = a9, α 10 = a10, α 11 = a11, α 12 = a12, α 13 = a13, α 14 = a14, α 15 = a15, α 16 = a16, α 35 = a35, α 36 = a36, α 37 = a37, α 38 = a38, α 39 = a39, α 40 = a40, α 41 = a41, α 42 = a42 at *
  omega)
def w_hushBy_0_2 : VC := ((bY ++ [(0, 8), (0, 10), (0, 11), ((-2147483648), 2147483647), ((-2147483648), 2147483647), (1, 1)]), [(1, [(some 18, 0), (none, 0)], []), (217, [(some 18, 0), (none, 0), (some 13, 0), (some 14, 0), (some 4, 0), (some 5, 0), (some 6, 0), (some 15, 0), (some 16, 0)], [35, 36, 37, 38, 39, 40, 41, 42, 11, 12, 13, 14, 15, 16]), (106, [(some 13, 0), (some 14, 0)], [1, 2, 35, 36, 37, 38, 39, 40]), (105, [(some 4, 0)], [9, 10, 41, 42]), (0, [(some 15, 0), (some 14, 0)], []), (0, [(some 4, 0), (some 4, 0)], []), (0, [(some 16, 0), (none, 0)], []), (0, [(some 17, 0), (none, 0)], []), (78, [], [1])], (221, [(none, 0), (some 13, 0), (some 14, 0), (some 4, 0), (some 5, 0), (some 6, 0)], [1, 2, 35, 36, 37, 38, 39, 40, 41, 42, 9, 10, 11, 12, 13, 14, 15, 16, 25]))
set_option maxRecDepth 20000 in
theorem v_hushBy_0_2 {PT : PTy} (hp : HP18 PT) : vcOk PT w_hushBy_0_2 := vc_of (fun ρ α hB hF => by
  obtain ⟨-, f1, f2, f3, f4, f5, f6, f7, f8, -⟩ := hF
  have e78 : PT 78 = P_ly := hp.1.1.1.1.1.1.1.1.1.1.1.1.1.1.1.1.2.2.2.2.2.2.2.1
  have e105 : PT 105 = P_cp2 := hp.1.1.1.1.1.1.1.1.1.1.1.1.1.2.2.2.2.2.2.2.2.2.2.2.1
  have e106 : PT 106 = P_rd := hp.1.1.1.1.1.1.1.1.1.1.1.1.1.2.2.2.2.2.2.2.2.2.2.2.2.1
  have e217 : PT 217 = P_ihY := hp.2.2.2.2.2.2.1
  have e221 : PT 221 = P_hbY := hp.2.2.2.2.2.2.2.2.2.2.1
  simp only [hF0, hFp_78, hFp_105, hFp_106, hFp_217, hFp_221, e78, e105, e106, e217, e221, P_ly, P_cp2, P_rd, P_ihY, P_hbY, den_s, den_c, Int.add_zero, List.map_cons, List.map_nil] at f1 f2 f3 f4 f5 f6 f7 f8 ⊢
  have b4 : (0 : Int) ≤ ρ 4 ∧ ρ 4 ≤ 8 := hB 4 (0, 8) rfl
  have b5 : (0 : Int) ≤ ρ 5 ∧ ρ 5 ≤ 6 := hB 5 (0, 6) rfl
  have b6 : (0 : Int) ≤ ρ 6 ∧ ρ 6 ≤ 6 := hB 6 (0, 6) rfl
  have b13 : (0 : Int) ≤ ρ 13 ∧ ρ 13 ≤ 8 := hB 13 (0, 8) rfl
  have b14 : (0 : Int) ≤ ρ 14 ∧ ρ 14 ≤ 10 := hB 14 (0, 10) rfl
  have b15 : (0 : Int) ≤ ρ 15 ∧ ρ 15 ≤ 11 := hB 15 (0, 11) rfl
  have b16 : ((-2147483648) : Int) ≤ ρ 16 ∧ ρ 16 ≤ 2147483647 := hB 16 ((-2147483648), 2147483647) rfl
  have b17 : ((-2147483648) : Int) ≤ ρ 17 ∧ ρ 17 ≤ 2147483647 := hB 17 ((-2147483648), 2147483647) rfl
  have b18 : (1 : Int) ≤ ρ 18 ∧ ρ 18 ≤ 1 := hB 18 (1, 1) rfl
  clear hB
  generalize ρ 4 = r4, ρ 5 = r5, ρ 6 = r6, ρ 13 = r13, ρ 14 = r14, ρ 15 = r15, ρ 16 = r16, ρ 17 = r17, ρ 18 = r18, α 1 = a1, α 2 = a2, α 9 = a9, α 10 = a10, α 11 = a11, α 12 = a12, α 13 = a13, α 14 = a14, α 15 = a15, α 16 = a16, α 25 = a25, α 35 = a35, α 36 = a36, α 37 = a37, α 38 = a38, α 39 = a39, α 40 = a40, α 41 = a41, α 42 = a42 at *
  have h0 : hqY r13 r14 r4 r5 r6 a35 a36 a37 a38 a39 a40 a41 a42 a11 a12 a13 a14 a15 a16 0 r18 := f1 (by omega) (by omega)
  rw [show r18 = 1 by omega] at h0
  exact ⟨⟨f2, f3⟩, 0, 0, Or.inl ⟨by first | rfl | trivial, h0⟩, fun q => by exfalso; omega, fun q => by exfalso; omega⟩)
def w_hushBy_1_0 : VC := ((bY ++ [(0, 6), (0, 8), (0, 10), (0, 11), ((-2147483648), 2147483647), ((-2147483648), 2147483647)]), [(3, [(some 13, 0), (some 5, 0)], []), (106, [(some 14, 0), (some 15, 0)], [1, 2, 35, 36, 37, 38, 39, 40]), (105, [(some 4, 0)], [9, 10, 41, 42]), (218, [(some 13, 0), (some 14, 0), (some 15, 0), (some 4, 0), (some 5, 0), (some 6, 0)], [35, 36, 37, 38, 39, 40, 41, 42, 11, 12, 13, 14, 15, 16]), (0, [(some 16, 0), (some 15, 0)], []), (0, [(some 17, 0), (none, 0)], []), (0, [(some 4, 0), (some 4, 0)], []), (3, [(some 5, 0), (some 13, 0)], []), (78, [], [1])], (220, [(none, 0), (some 14, 0), (some 15, 0), (some 4, 0), (some 5, 0), (some 6, 0)], [35, 36, 37, 38, 39, 40, 41, 42, 11, 12, 13, 14, 15, 16]))
set_option maxRecDepth 20000 in
theorem v_hushBy_1_0 {PT : PTy} (hp : HP18 PT) : vcOk PT w_hushBy_1_0 := vc_of (fun ρ α hB hF => by
  obtain ⟨f0, f1, f2, f3, f4, f5, f6, f7, f8, -⟩ := hF
  have e78 : PT 78 = P_ly := hp.1.1.1.1.1.1.1.1.1.1.1.1.1.1.1.1.2.2.2.2.2.2.2.1
  have e105 : PT 105 = P_cp2 := hp.1.1.1.1.1.1.1.1.1.1.1.1.1.2.2.2.2.2.2.2.2.2.2.2.1
  have e106 : PT 106 = P_rd := hp.1.1.1.1.1.1.1.1.1.1.1.1.1.2.2.2.2.2.2.2.2.2.2.2.2.1
  have e218 : PT 218 = P_hv1 := hp.2.2.2.2.2.2.2.1
  have e220 : PT 220 = P_hv3 := hp.2.2.2.2.2.2.2.2.2.1
  simp only [hF0, hF3, hFp_78, hFp_105, hFp_106, hFp_218, hFp_220, e78, e105, e106, e218, e220, P_ly, P_cp2, P_rd, P_hv1, P_hv3, den_s, den_c, Int.add_zero, List.map_cons, List.map_nil] at f0 f1 f2 f3 f4 f5 f6 f7 f8 ⊢
  have b4 : (0 : Int) ≤ ρ 4 ∧ ρ 4 ≤ 8 := hB 4 (0, 8) rfl
  have b5 : (0 : Int) ≤ ρ 5 ∧ ρ 5 ≤ 6 := hB 5 (0, 6) rfl
  have b6 : (0 : Int) ≤ ρ 6 ∧ ρ 6 ≤ 6 := hB 6 (0, 6) rfl
  have b13 : (0 : Int) ≤ ρ 13 ∧ ρ 13 ≤ 6 := hB 13 (0, 6) rfl
  have b14 : (0 : Int) ≤ ρ 14 ∧ ρ 14 ≤ 8 := hB 14 (0, 8) rfl
  have b15 : (0 : Int) ≤ ρ 15 ∧ ρ 15 ≤ 10 := hB 15 (0, 10) rfl
  have b16 : (0 : Int) ≤ ρ 16 ∧ ρ 16 ≤ 11 := hB 16 (0, 11) rfl
  have b17 : ((-2147483648) : Int) ≤ ρ 17 ∧ ρ 17 ≤ 2147483647 := hB 17 ((-2147483648), 2147483647) rfl
  clear hB
  generalize ρ 4 = r4, ρ 5 = r5, ρ 6 = r6, ρ 13 = r13, ρ 14 = r14, ρ 15 = r15, ρ 16 = r16, ρ 17 = r17, α 1 = a1, α 2 = a2, α 9 = a9, α 10 = a10, α 11 = a11, α 12 = a12, α 13 = a13, α 14 = a14, α 15 = a15, α 16 = a16, α 35 = a35, α 36 = a36, α 37 = a37, α 38 = a38, α 39 = a39, α 40 = a40, α 41 = a41, α 42 = a42 at *
  have u := f3
  rw [show r13 = r5 by omega] at u
  exact ⟨u, fun j k h1 h2 => by exfalso; omega⟩)
def w_hushBy_1_1 : VC := ((bY ++ [(0, 6), (0, 8), (0, 10), (0, 11), ((-2147483648), 2147483647), ((-2147483648), 2147483647)]), [(3, [(some 13, 0), (some 5, 0)], []), (106, [(some 14, 0), (some 15, 0)], [1, 2, 35, 36, 37, 38, 39, 40]), (105, [(some 4, 0)], [9, 10, 41, 42]), (218, [(some 13, 0), (some 14, 0), (some 15, 0), (some 4, 0), (some 5, 0), (some 6, 0)], [35, 36, 37, 38, 39, 40, 41, 42, 11, 12, 13, 14, 15, 16]), (0, [(some 16, 0), (some 15, 0)], []), (0, [(some 17, 0), (none, 0)], []), (0, [(some 4, 0), (some 4, 0)], []), (3, [(some 5, 0), (some 13, 0)], []), (78, [], [1])], (3, [(some 5, 0), (none, 0)], []))
set_option maxRecDepth 20000 in
theorem v_hushBy_1_1 {PT : PTy} (hp : HP18 PT) : vcOk PT w_hushBy_1_1 := vc_of (fun ρ α hB hF => by
  obtain ⟨f0, f1, f2, f3, f4, f5, f6, f7, f8, -⟩ := hF
  have e78 : PT 78 = P_ly := hp.1.1.1.1.1.1.1.1.1.1.1.1.1.1.1.1.2.2.2.2.2.2.2.1
  have e105 : PT 105 = P_cp2 := hp.1.1.1.1.1.1.1.1.1.1.1.1.1.2.2.2.2.2.2.2.2.2.2.2.1
  have e106 : PT 106 = P_rd := hp.1.1.1.1.1.1.1.1.1.1.1.1.1.2.2.2.2.2.2.2.2.2.2.2.2.1
  have e218 : PT 218 = P_hv1 := hp.2.2.2.2.2.2.2.1
  simp only [hF0, hF3, hFp_78, hFp_105, hFp_106, hFp_218, e78, e105, e106, e218, P_ly, P_cp2, P_rd, P_hv1, den_s, den_c, Int.add_zero, List.map_cons, List.map_nil] at f0 f1 f2 f3 f4 f5 f6 f7 f8 ⊢
  have b4 : (0 : Int) ≤ ρ 4 ∧ ρ 4 ≤ 8 := hB 4 (0, 8) rfl
  have b5 : (0 : Int) ≤ ρ 5 ∧ ρ 5 ≤ 6 := hB 5 (0, 6) rfl
  have b6 : (0 : Int) ≤ ρ 6 ∧ ρ 6 ≤ 6 := hB 6 (0, 6) rfl
  have b13 : (0 : Int) ≤ ρ 13 ∧ ρ 13 ≤ 6 := hB 13 (0, 6) rfl
  have b14 : (0 : Int) ≤ ρ 14 ∧ ρ 14 ≤ 8 := hB 14 (0, 8) rfl
  have b15 : (0 : Int) ≤ ρ 15 ∧ ρ 15 ≤ 10 := hB 15 (0, 10) rfl
  have b16 : (0 : Int) ≤ ρ 16 ∧ ρ 16 ≤ 11 := hB 16 (0, 11) rfl
  have b17 : ((-2147483648) : Int) ≤ ρ 17 ∧ ρ 17 ≤ 2147483647 := hB 17 ((-2147483648), 2147483647) rfl
  clear hB
  generalize ρ 4 = r4, ρ 5 = r5, ρ 6 = r6, ρ 13 = r13, ρ 14 = r14, ρ 15 = r15, ρ 16 = r16, ρ 17 = r17, α 1 = a1, α 2 = a2, α 9 = a9, α 10 = a10, α 11 = a11, α 12 = a12, α 13 = a13, α 14 = a14, α 15 = a15, α 16 = a16, α 35 = a35, α 36 = a36, α 37 = a37, α 38 = a38, α 39 = a39, α 40 = a40, α 41 = a41, α 42 = a42 at *
  omega)
def w_hushBy_1_2 : VC := (([(0, 23), (0, 49), (0, 8), (0, 10), (0, 8), (1, 6), (0, 6), (0, 8), (0, 11), (0, 9), ((-2147483648), 2147483647), ((-2147483648), 2147483647), (0, 5), (0, 5), (0, 8), (0, 10), (0, 11), ((-2147483648), 2147483647), ((-2147483648), 2147483647), (1, 32), (0, 0)]), [(0, [(some 20, 0), (none, 0)], []), (217, [(some 20, 0), (some 19, 0), (some 14, 0), (some 15, 0), (some 4, 0), (some 5, 0), (some 6, 0), (some 16, 0), (some 17, 0)], [35, 36, 37, 38, 39, 40, 41, 42, 11, 12, 13, 14, 15, 16]), (13, [(some 19, 0), (none, 1), (some 13, 0)], []), (21, [(none, 0), (some 13, 0)], [50, 49]), (2, [(some 13, 0), (some 5, 0)], []), (106, [(some 14, 0), (some 15, 0)], [1, 2, 35, 36, 37, 38, 39, 40]), (105, [(some 4, 0)], [9, 10, 41, 42]), (218, [(some 13, 0), (some 14, 0), (some 15, 0), (some 4, 0), (some 5, 0), (some 6, 0)], [35, 36, 37, 38, 39, 40, 41, 42, 11, 12, 13, 14, 15, 16]), (0, [(some 16, 0), (some 15, 0)], []), (0, [(some 17, 0), (none, 0)], []), (0, [(some 4, 0), (some 4, 0)], []), (3, [(some 5, 0), (some 13, 0)], []), (78, [], [1])], (218, [(some 13, 1), (some 14, 0), (some 15, 0), (some 4, 0), (some 5, 0), (some 6, 0)], [35, 36, 37, 38, 39, 40, 41, 42, 11, 12, 13, 14, 15, 16]))
set_option maxRecDepth 20000 in
theorem v_hushBy_1_2 {PT : PTy} (hp : HP18 PT) : vcOk PT w_hushBy_1_2 := vc_of (fun ρ α hB hF => by
  obtain ⟨f0, f1, f2, f3, f4, f5, f6, f7, f8, f9, f10, f11, f12, -⟩ := hF
  have e78 : PT 78 = P_ly := hp.1.1.1.1.1.1.1.1.1.1.1.1.1.1.1.1.2.2.2.2.2.2.2.1
  have e105 : PT 105 = P_cp2 := hp.1.1.1.1.1.1.1.1.1.1.1.1.1.2.2.2.2.2.2.2.2.2.2.2.1
  have e106 : PT 106 = P_rd := hp.1.1.1.1.1.1.1.1.1.1.1.1.1.2.2.2.2.2.2.2.2.2.2.2.2.1
  have e217 : PT 217 = P_ihY := hp.2.2.2.2.2.2.1
  have e218 : PT 218 = P_hv1 := hp.2.2.2.2.2.2.2.1
  simp only [hF0, hF2, hF3, hF13, hF21, hFp_78, hFp_105, hFp_106, hFp_217, hFp_218, e78, e105, e106, e217, e218, P_ly, P_cp2, P_rd, P_ihY, P_hv1, den_s, den_c, Int.add_zero, List.map_cons, List.map_nil] at f0 f1 f2 f3 f4 f5 f6 f7 f8 f9 f10 f11 f12 ⊢
  have b4 : (0 : Int) ≤ ρ 4 ∧ ρ 4 ≤ 8 := hB 4 (0, 8) rfl
  have b5 : (1 : Int) ≤ ρ 5 ∧ ρ 5 ≤ 6 := hB 5 (1, 6) rfl
  have b6 : (0 : Int) ≤ ρ 6 ∧ ρ 6 ≤ 6 := hB 6 (0, 6) rfl
  have b13 : (0 : Int) ≤ ρ 13 ∧ ρ 13 ≤ 5 := hB 13 (0, 5) rfl
  have b14 : (0 : Int) ≤ ρ 14 ∧ ρ 14 ≤ 8 := hB 14 (0, 8) rfl
  have b15 : (0 : Int) ≤ ρ 15 ∧ ρ 15 ≤ 10 := hB 15 (0, 10) rfl
  have b16 : (0 : Int) ≤ ρ 16 ∧ ρ 16 ≤ 11 := hB 16 (0, 11) rfl
  have b17 : ((-2147483648) : Int) ≤ ρ 17 ∧ ρ 17 ≤ 2147483647 := hB 17 ((-2147483648), 2147483647) rfl
  have b19 : (1 : Int) ≤ ρ 19 ∧ ρ 19 ≤ 32 := hB 19 (1, 32) rfl
  have b20 : (0 : Int) ≤ ρ 20 ∧ ρ 20 ≤ 0 := hB 20 (0, 0) rfl
  clear hB
  generalize ρ 4 = r4, ρ 5 = r5, ρ 6 = r6, ρ 13 = r13, ρ 14 = r14, ρ 15 = r15, ρ 16 = r16, ρ 17 = r17, ρ 19 = r19, ρ 20 = r20, α 1 = a1, α 2 = a2, α 9 = a9, α 10 = a10, α 11 = a11, α 12 = a12, α 13 = a13, α 14 = a14, α 15 = a15, α 16 = a16, α 35 = a35, α 36 = a36, α 37 = a37, α 38 = a38, α 39 = a39, α 40 = a40, α 41 = a41, α 42 = a42, α 49 = a49, α 50 = a50 at *
  subst f2
  subst f3
  have h0 : hqY r14 r15 r4 r5 r6 a35 a36 a37 a38 a39 a40 a41 a42 a11 a12 a13 a14 a15 a16 (mShl 1 r13) r20 := f1 (by omega) (by omega)
  rw [show r20 = 0 by omega] at h0
  obtain ⟨u1, u2⟩ := f7
  exact ⟨u1, fun j h1 h2 => by
    by_cases q : j = r13
    · subst q; exact h0
    · exact u2 j h1 (by omega)⟩)
def w_hushBy_1_3 : VC := (([(0, 23), (0, 49), (0, 8), (0, 10), (0, 8), (1, 6), (0, 6), (0, 8), (0, 11), (0, 9), ((-2147483648), 2147483647), ((-2147483648), 2147483647), (0, 5), (0, 5), (0, 8), (0, 10), (0, 11), ((-2147483648), 2147483647), ((-2147483648), 2147483647), (1, 32), (0, 0)]), [(0, [(some 20, 0), (none, 0)], []), (217, [(some 20, 0), (some 19, 0), (some 14, 0), (some 15, 0), (some 4, 0), (some 5, 0), (some 6, 0), (some 16, 0), (some 17, 0)], [35, 36, 37, 38, 39, 40, 41, 42, 11, 12, 13, 14, 15, 16]), (13, [(some 19, 0), (none, 1), (some 13, 0)], []), (21, [(none, 0), (some 13, 0)], [50, 49]), (2, [(some 13, 0), (some 5, 0)], []), (106, [(some 14, 0), (some 15, 0)], [1, 2, 35, 36, 37, 38, 39, 40]), (105, [(some 4, 0)], [9, 10, 41, 42]), (218, [(some 13, 0), (some 14, 0), (some 15, 0), (some 4, 0), (some 5, 0), (some 6, 0)], [35, 36, 37, 38, 39, 40, 41, 42, 11, 12, 13, 14, 15, 16]), (0, [(some 16, 0), (some 15, 0)], []), (0, [(some 17, 0), (none, 0)], []), (0, [(some 4, 0), (some 4, 0)], []), (3, [(some 5, 0), (some 13, 0)], []), (78, [], [1])], (3, [(some 5, 0), (some 13, 1)], []))
set_option maxRecDepth 20000 in
theorem v_hushBy_1_3 {PT : PTy} (hp : HP18 PT) : vcOk PT w_hushBy_1_3 := vc_of (fun ρ α hB hF => by
  obtain ⟨f0, f1, f2, f3, f4, f5, f6, f7, f8, f9, f10, f11, f12, -⟩ := hF
  have e78 : PT 78 = P_ly := hp.1.1.1.1.1.1.1.1.1.1.1.1.1.1.1.1.2.2.2.2.2.2.2.1
  have e105 : PT 105 = P_cp2 := hp.1.1.1.1.1.1.1.1.1.1.1.1.1.2.2.2.2.2.2.2.2.2.2.2.1
  have e106 : PT 106 = P_rd := hp.1.1.1.1.1.1.1.1.1.1.1.1.1.2.2.2.2.2.2.2.2.2.2.2.2.1
  have e217 : PT 217 = P_ihY := hp.2.2.2.2.2.2.1
  have e218 : PT 218 = P_hv1 := hp.2.2.2.2.2.2.2.1
  simp only [hF0, hF2, hF3, hF13, hF21, hFp_78, hFp_105, hFp_106, hFp_217, hFp_218, e78, e105, e106, e217, e218, P_ly, P_cp2, P_rd, P_ihY, P_hv1, den_s, den_c, Int.add_zero, List.map_cons, List.map_nil] at f0 f1 f2 f3 f4 f5 f6 f7 f8 f9 f10 f11 f12 ⊢
  have b4 : (0 : Int) ≤ ρ 4 ∧ ρ 4 ≤ 8 := hB 4 (0, 8) rfl
  have b5 : (1 : Int) ≤ ρ 5 ∧ ρ 5 ≤ 6 := hB 5 (1, 6) rfl
  have b6 : (0 : Int) ≤ ρ 6 ∧ ρ 6 ≤ 6 := hB 6 (0, 6) rfl
  have b13 : (0 : Int) ≤ ρ 13 ∧ ρ 13 ≤ 5 := hB 13 (0, 5) rfl
  have b14 : (0 : Int) ≤ ρ 14 ∧ ρ 14 ≤ 8 := hB 14 (0, 8) rfl
  have b15 : (0 : Int) ≤ ρ 15 ∧ ρ 15 ≤ 10 := hB 15 (0, 10) rfl
  have b16 : (0 : Int) ≤ ρ 16 ∧ ρ 16 ≤ 11 := hB 16 (0, 11) rfl
  have b17 : ((-2147483648) : Int) ≤ ρ 17 ∧ ρ 17 ≤ 2147483647 := hB 17 ((-2147483648), 2147483647) rfl
  have b19 : (1 : Int) ≤ ρ 19 ∧ ρ 19 ≤ 32 := hB 19 (1, 32) rfl
  have b20 : (0 : Int) ≤ ρ 20 ∧ ρ 20 ≤ 0 := hB 20 (0, 0) rfl
  clear hB
  generalize ρ 4 = r4, ρ 5 = r5, ρ 6 = r6, ρ 13 = r13, ρ 14 = r14, ρ 15 = r15, ρ 16 = r16, ρ 17 = r17, ρ 19 = r19, ρ 20 = r20, α 1 = a1, α 2 = a2, α 9 = a9, α 10 = a10, α 11 = a11, α 12 = a12, α 13 = a13, α 14 = a14, α 15 = a15, α 16 = a16, α 35 = a35, α 36 = a36, α 37 = a37, α 38 = a38, α 39 = a39, α 40 = a40, α 41 = a41, α 42 = a42, α 49 = a49, α 50 = a50 at *
  subst f2
  subst f3
  omega)
def w_hushBy_1_4 : VC := (([(0, 23), (0, 49), (0, 8), (0, 10), (0, 8), (1, 6), (0, 6), (0, 8), (0, 11), (0, 9), ((-2147483648), 2147483647), ((-2147483648), 2147483647), (0, 5), (0, 5), (0, 8), (0, 10), (0, 11), ((-2147483648), 2147483647), ((-2147483648), 2147483647), (1, 32), (1, 1)]), [(1, [(some 20, 0), (none, 0)], []), (217, [(some 20, 0), (some 19, 0), (some 14, 0), (some 15, 0), (some 4, 0), (some 5, 0), (some 6, 0), (some 16, 0), (some 17, 0)], [35, 36, 37, 38, 39, 40, 41, 42, 11, 12, 13, 14, 15, 16]), (13, [(some 19, 0), (none, 1), (some 13, 0)], []), (21, [(none, 0), (some 13, 0)], [50, 49]), (2, [(some 13, 0), (some 5, 0)], []), (106, [(some 14, 0), (some 15, 0)], [1, 2, 35, 36, 37, 38, 39, 40]), (105, [(some 4, 0)], [9, 10, 41, 42]), (218, [(some 13, 0), (some 14, 0), (some 15, 0), (some 4, 0), (some 5, 0), (some 6, 0)], [35, 36, 37, 38, 39, 40, 41, 42, 11, 12, 13, 14, 15, 16]), (0, [(some 16, 0), (some 15, 0)], []), (0, [(some 17, 0), (none, 0)], []), (0, [(some 4, 0), (some 4, 0)], []), (3, [(some 5, 0), (some 13, 0)], []), (78, [], [1])], (221, [(none, 1), (some 14, 0), (some 15, 0), (some 4, 0), (some 5, 0), (some 6, 0)], [1, 2, 35, 36, 37, 38, 39, 40, 41, 42, 9, 10, 11, 12, 13, 14, 15, 16, 50]))
set_option maxRecDepth 20000 in
theorem v_hushBy_1_4 {PT : PTy} (hp : HP18 PT) : vcOk PT w_hushBy_1_4 := vc_of (fun ρ α hB hF => by
  obtain ⟨-, f1, f2, f3, f4, f5, f6, f7, f8, f9, f10, f11, f12, -⟩ := hF
  have e78 : PT 78 = P_ly := hp.1.1.1.1.1.1.1.1.1.1.1.1.1.1.1.1.2.2.2.2.2.2.2.1
  have e105 : PT 105 = P_cp2 := hp.1.1.1.1.1.1.1.1.1.1.1.1.1.2.2.2.2.2.2.2.2.2.2.2.1
  have e106 : PT 106 = P_rd := hp.1.1.1.1.1.1.1.1.1.1.1.1.1.2.2.2.2.2.2.2.2.2.2.2.2.1
  have e217 : PT 217 = P_ihY := hp.2.2.2.2.2.2.1
  have e218 : PT 218 = P_hv1 := hp.2.2.2.2.2.2.2.1
  have e221 : PT 221 = P_hbY := hp.2.2.2.2.2.2.2.2.2.2.1
  simp only [hF0, hF2, hF3, hF13, hF21, hFp_78, hFp_105, hFp_106, hFp_217, hFp_218, hFp_221, e78, e105, e106, e217, e218, e221, P_ly, P_cp2, P_rd, P_ihY, P_hv1, P_hbY, den_s, den_c, Int.add_zero, List.map_cons, List.map_nil] at f1 f2 f3 f4 f5 f6 f7 f8 f9 f10 f11 f12 ⊢
  have b4 : (0 : Int) ≤ ρ 4 ∧ ρ 4 ≤ 8 := hB 4 (0, 8) rfl
  have b5 : (1 : Int) ≤ ρ 5 ∧ ρ 5 ≤ 6 := hB 5 (1, 6) rfl
  have b6 : (0 : Int) ≤ ρ 6 ∧ ρ 6 ≤ 6 := hB 6 (0, 6) rfl
  have b13 : (0 : Int) ≤ ρ 13 ∧ ρ 13 ≤ 5 := hB 13 (0, 5) rfl
  have b14 : (0 : Int) ≤ ρ 14 ∧ ρ 14 ≤ 8 := hB 14 (0, 8) rfl
  have b15 : (0 : Int) ≤ ρ 15 ∧ ρ 15 ≤ 10 := hB 15 (0, 10) rfl
  have b16 : (0 : Int) ≤ ρ 16 ∧ ρ 16 ≤ 11 := hB 16 (0, 11) rfl
  have b17 : ((-2147483648) : Int) ≤ ρ 17 ∧ ρ 17 ≤ 2147483647 := hB 17 ((-2147483648), 2147483647) rfl
  have b19 : (1 : Int) ≤ ρ 19 ∧ ρ 19 ≤ 32 := hB 19 (1, 32) rfl
  have b20 : (1 : Int) ≤ ρ 20 ∧ ρ 20 ≤ 1 := hB 20 (1, 1) rfl
  clear hB
  generalize ρ 4 = r4, ρ 5 = r5, ρ 6 = r6, ρ 13 = r13, ρ 14 = r14, ρ 15 = r15, ρ 16 = r16, ρ 17 = r17, ρ 19 = r19, ρ 20 = r20, α 1 = a1, α 2 = a2, α 9 = a9, α 10 = a10, α 11 = a11, α 12 = a12, α 13 = a13, α 14 = a14, α 15 = a15, α 16 = a16, α 35 = a35, α 36 = a36, α 37 = a37, α 38 = a38, α 39 = a39, α 40 = a40, α 41 = a41, α 42 = a42, α 49 = a49, α 50 = a50 at *
  subst f2
  subst f3
  have h0 : hqY r14 r15 r4 r5 r6 a35 a36 a37 a38 a39 a40 a41 a42 a11 a12 a13 a14 a15 a16 (mShl 1 r13) r20 := f1 (by omega) (by omega)
  rw [show r20 = 1 by omega] at h0
  exact ⟨⟨f5, f6⟩, r13, 0, Or.inr (Or.inl ⟨by first | rfl | trivial, by omega, by omega, f7, h0⟩), fun _ => (by rw [updI_at]), fun q => by exfalso; omega⟩)
def w_hushBy_2_0 : VC := ((bY ++ [(0, 6), (0, 8), (0, 10), (0, 11), ((-2147483648), 2147483647), ((-2147483648), 2147483647)]), [(3, [(some 13, 0), (some 5, 0)], []), (106, [(some 14, 0), (some 15, 0)], [1, 2, 35, 36, 37, 38, 39, 40]), (105, [(some 4, 0)], [9, 10, 41, 42]), (220, [(some 13, 0), (some 14, 0), (some 15, 0), (some 4, 0), (some 5, 0), (some 6, 0)], [35, 36, 37, 38, 39, 40, 41, 42, 11, 12, 13, 14, 15, 16]), (0, [(some 16, 0), (some 15, 0)], []), (0, [(some 17, 0), (none, 0)], []), (0, [(some 4, 0), (some 4, 0)], []), (3, [(some 5, 0), (some 13, 0)], []), (78, [], [1])], (221, [(none, (-1)), (some 14, 0), (some 15, 0), (some 4, 0), (some 5, 0), (some 6, 0)], [1, 2, 35, 36, 37, 38, 39, 40, 41, 42, 9, 10, 11, 12, 13, 14, 15, 16, 49]))
set_option maxRecDepth 20000 in
theorem v_hushBy_2_0 {PT : PTy} (hp : HP18 PT) : vcOk PT w_hushBy_2_0 := vc_of (fun ρ α hB hF => by
  obtain ⟨f0, f1, f2, f3, f4, f5, f6, f7, f8, -⟩ := hF
  have e78 : PT 78 = P_ly := hp.1.1.1.1.1.1.1.1.1.1.1.1.1.1.1.1.2.2.2.2.2.2.2.1
  have e105 : PT 105 = P_cp2 := hp.1.1.1.1.1.1.1.1.1.1.1.1.1.2.2.2.2.2.2.2.2.2.2.2.1
  have e106 : PT 106 = P_rd := hp.1.1.1.1.1.1.1.1.1.1.1.1.1.2.2.2.2.2.2.2.2.2.2.2.2.1
  have e220 : PT 220 = P_hv3 := hp.2.2.2.2.2.2.2.2.2.1
  have e221 : PT 221 = P_hbY := hp.2.2.2.2.2.2.2.2.2.2.1
  simp only [hF0, hF3, hFp_78, hFp_105, hFp_106, hFp_220, hFp_221, e78, e105, e106, e220, e221, P_ly, P_cp2, P_rd, P_hv3, P_hbY, den_s, den_c, Int.add_zero, List.map_cons, List.map_nil] at f0 f1 f2 f3 f4 f5 f6 f7 f8 ⊢
  have b4 : (0 : Int) ≤ ρ 4 ∧ ρ 4 ≤ 8 := hB 4 (0, 8) rfl
  have b5 : (0 : Int) ≤ ρ 5 ∧ ρ 5 ≤ 6 := hB 5 (0, 6) rfl
  have b6 : (0 : Int) ≤ ρ 6 ∧ ρ 6 ≤ 6 := hB 6 (0, 6) rfl
  have b13 : (0 : Int) ≤ ρ 13 ∧ ρ 13 ≤ 6 := hB 13 (0, 6) rfl
  have b14 : (0 : Int) ≤ ρ 14 ∧ ρ 14 ≤ 8 := hB 14 (0, 8) rfl
  have b15 : (0 : Int) ≤ ρ 15 ∧ ρ 15 ≤ 10 := hB 15 (0, 10) rfl
  have b16 : (0 : Int) ≤ ρ 16 ∧ ρ 16 ≤ 11 := hB 16 (0, 11) rfl
  have b17 : ((-2147483648) : Int) ≤ ρ 17 ∧ ρ 17 ≤ 2147483647 := hB 17 ((-2147483648), 2147483647) rfl
  clear hB
  generalize ρ 4 = r4, ρ 5 = r5, ρ 6 = r6, ρ 13 = r13, ρ 14 = r14, ρ 15 = r15, ρ 16 = r16, ρ 17 = r17, α 1 = a1, α 2 = a2, α 9 = a9, α 10 = a10, α 11 = a11, α 12 = a12, α 13 = a13, α 14 = a14, α 15 = a15, α 16 = a16, α 35 = a35, α 36 = a36, α 37 = a37, α 38 = a38, α 39 = a39, α 40 = a40, α 41 = a41, α 42 = a42, α 49 = a49 at *
  have u := f3
  rw [show r13 = r5 by omega] at u
  exact ⟨⟨f1, f2⟩, 0, 0, Or.inr (Or.inr (Or.inr ⟨by first | rfl | trivial, u⟩)), fun q => by exfalso; omega, fun q => by exfalso; omega⟩)
def w_hushBy_2_1 : VC := (([(0, 23), (0, 49), (0, 8), (0, 10), (0, 8), (1, 6), (0, 6), (0, 8), (0, 11), (0, 9), ((-2147483648), 2147483647), ((-2147483648), 2147483647), (0, 5), (0, 5), (0, 8), (0, 10), (0, 11), ((-2147483648), 2147483647), ((-2147483648), 2147483647)]), [(2, [(some 13, 0), (some 5, 0)], []), (106, [(some 14, 0), (some 15, 0)], [1, 2, 35, 36, 37, 38, 39, 40]), (105, [(some 4, 0)], [9, 10, 41, 42]), (220, [(some 13, 0), (some 14, 0), (some 15, 0), (some 4, 0), (some 5, 0), (some 6, 0)], [35, 36, 37, 38, 39, 40, 41, 42, 11, 12, 13, 14, 15, 16]), (0, [(some 16, 0), (some 15, 0)], []), (0, [(some 17, 0), (none, 0)], []), (0, [(some 4, 0), (some 4, 0)], []), (3, [(some 5, 0), (some 13, 0)], []), (78, [], [1])], (219, [(some 13, 0), (some 13, 1), (some 14, 0), (some 15, 0), (some 4, 0), (some 5, 0), (some 6, 0)], [35, 36, 37, 38, 39, 40, 41, 42, 11, 12, 13, 14, 15, 16]))
set_option maxRecDepth 20000 in
theorem v_hushBy_2_1 {PT : PTy} (hp : HP18 PT) : vcOk PT w_hushBy_2_1 := vc_of (fun ρ α hB hF => by
  obtain ⟨f0, f1, f2, f3, f4, f5, f6, f7, f8, -⟩ := hF
  have e78 : PT 78 = P_ly := hp.1.1.1.1.1.1.1.1.1.1.1.1.1.1.1.1.2.2.2.2.2.2.2.1
  have e105 : PT 105 = P_cp2 := hp.1.1.1.1.1.1.1.1.1.1.1.1.1.2.2.2.2.2.2.2.2.2.2.2.1
  have e106 : PT 106 = P_rd := hp.1.1.1.1.1.1.1.1.1.1.1.1.1.2.2.2.2.2.2.2.2.2.2.2.2.1
  have e219 : PT 219 = P_hv2 := hp.2.2.2.2.2.2.2.2.1
  have e220 : PT 220 = P_hv3 := hp.2.2.2.2.2.2.2.2.2.1
  simp only [hF0, hF2, hF3, hFp_78, hFp_105, hFp_106, hFp_219, hFp_220, e78, e105, e106, e219, e220, P_ly, P_cp2, P_rd, P_hv2, P_hv3, den_s, den_c, Int.add_zero, List.map_cons, List.map_nil] at f0 f1 f2 f3 f4 f5 f6 f7 f8 ⊢
  have b4 : (0 : Int) ≤ ρ 4 ∧ ρ 4 ≤ 8 := hB 4 (0, 8) rfl
  have b5 : (1 : Int) ≤ ρ 5 ∧ ρ 5 ≤ 6 := hB 5 (1, 6) rfl
  have b6 : (0 : Int) ≤ ρ 6 ∧ ρ 6 ≤ 6 := hB 6 (0, 6) rfl
  have b13 : (0 : Int) ≤ ρ 13 ∧ ρ 13 ≤ 5 := hB 13 (0, 5) rfl
  have b14 : (0 : Int) ≤ ρ 14 ∧ ρ 14 ≤ 8 := hB 14 (0, 8) rfl
  have b15 : (0 : Int) ≤ ρ 15 ∧ ρ 15 ≤ 10 := hB 15 (0, 10) rfl
  have b16 : (0 : Int) ≤ ρ 16 ∧ ρ 16 ≤ 11 := hB 16 (0, 11) rfl
  have b17 : ((-2147483648) : Int) ≤ ρ 17 ∧ ρ 17 ≤ 2147483647 := hB 17 ((-2147483648), 2147483647) rfl
  clear hB
  generalize ρ 4 = r4, ρ 5 = r5, ρ 6 = r6, ρ 13 = r13, ρ 14 = r14, ρ 15 = r15, ρ 16 = r16, ρ 17 = r17, α 1 = a1, α 2 = a2, α 9 = a9, α 10 = a10, α 11 = a11, α 12 = a12, α 13 = a13, α 14 = a14, α 15 = a15, α 16 = a16, α 35 = a35, α 36 = a36, α 37 = a37, α 38 = a38, α 39 = a39, α 40 = a40, α 41 = a41, α 42 = a42 at *
  obtain ⟨u1, u2⟩ := f3
  exact ⟨u1, u2, fun k h1 h2 => by exfalso; omega⟩)
def w_hushBy_2_2 : VC := (([(0, 23), (0, 49), (0, 8), (0, 10), (0, 8), (1, 6), (0, 6), (0, 8), (0, 11), (0, 9), ((-2147483648), 2147483647), ((-2147483648), 2147483647), (0, 5), (0, 5), (0, 8), (0, 10), (0, 11), ((-2147483648), 2147483647), ((-2147483648), 2147483647)]), [(2, [(some 13, 0), (some 5, 0)], []), (106, [(some 14, 0), (some 15, 0)], [1, 2, 35, 36, 37, 38, 39, 40]), (105, [(some 4, 0)], [9, 10, 41, 42]), (220, [(some 13, 0), (some 14, 0), (some 15, 0), (some 4, 0), (some 5, 0), (some 6, 0)], [35, 36, 37, 38, 39, 40, 41, 42, 11, 12, 13, 14, 15, 16]), (0, [(some 16, 0), (some 15, 0)], []), (0, [(some 17, 0), (none, 0)], []), (0, [(some 4, 0), (some 4, 0)], []), (3, [(some 5, 0), (some 13, 0)], []), (78, [], [1])], (3, [(some 5, 0), (some 13, 1)], []))
set_option maxRecDepth 20000 in
theorem v_hushBy_2_2 {PT : PTy} (hp : HP18 PT) : vcOk PT w_hushBy_2_2 := vc_of (fun ρ α hB hF => by
  obtain ⟨f0, f1, f2, f3, f4, f5, f6, f7, f8, -⟩ := hF
  have e78 : PT 78 = P_ly := hp.1.1.1.1.1.1.1.1.1.1.1.1.1.1.1.1.2.2.2.2.2.2.2.1
  have e105 : PT 105 = P_cp2 := hp.1.1.1.1.1.1.1.1.1.1.1.1.1.2.2.2.2.2.2.2.2.2.2.2.1
  have e106 : PT 106 = P_rd := hp.1.1.1.1.1.1.1.1.1.1.1.1.1.2.2.2.2.2.2.2.2.2.2.2.2.1
  have e220 : PT 220 = P_hv3 := hp.2.2.2.2.2.2.2.2.2.1
  simp only [hF0, hF2, hF3, hFp_78, hFp_105, hFp_106, hFp_220, e78, e105, e106, e220, P_ly, P_cp2, P_rd, P_hv3, den_s, den_c, Int.add_zero, List.map_cons, List.map_nil] at f0 f1 f2 f3 f4 f5 f6 f7 f8 ⊢
  have b4 : (0 : Int) ≤ ρ 4 ∧ ρ 4 ≤ 8 := hB 4 (0, 8) rfl
  have b5 : (1 : Int) ≤ ρ 5 ∧ ρ 5 ≤ 6 := hB 5 (1, 6) rfl
  have b6 : (0 : Int) ≤ ρ 6 ∧ ρ 6 ≤ 6 := hB 6 (0, 6) rfl
  have b13 : (0 : Int) ≤ ρ 13 ∧ ρ 13 ≤ 5 := hB 13 (0, 5) rfl
  have b14 : (0 : Int) ≤ ρ 14 ∧ ρ 14 ≤ 8 := hB 14 (0, 8) rfl
  have b15 : (0 : Int) ≤ ρ 15 ∧ ρ 15 ≤ 10 := hB 15 (0, 10) rfl
  have b16 : (0 : Int) ≤ ρ 16 ∧ ρ 16 ≤ 11 := hB 16 (0, 11) rfl
  have b17 : ((-2147483648) : Int) ≤ ρ 17 ∧ ρ 17 ≤ 2147483647 := hB 17 ((-2147483648), 2147483647) rfl
  clear hB
  generalize ρ 4 = r4, ρ 5 = r5, ρ 6 = r6, ρ 13 = r13, ρ 14 = r14, ρ 15 = r15, ρ 16 = r16, ρ 17 = r17, α 1 = a1, α 2 = a2, α 9 = a9, α 10 = a10, α 11 = a11, α 12 = a12, α 13 = a13, α 14 = a14, α 15 = a15, α 16 = a16, α 35 = a35, α 36 = a36, α 37 = a37, α 38 = a38, α 39 = a39, α 40 = a40, α 41 = a41, α 42 = a42 at *
  omega)
def w_hushBy_2_3 : VC := (([(0, 23), (0, 49), (0, 8), (0, 10), (0, 8), (1, 6), (0, 6), (0, 8), (0, 11), (0, 9), ((-2147483648), 2147483647), ((-2147483648), 2147483647), (0, 5), (0, 5), (0, 8), (0, 10), (0, 11), ((-2147483648), 2147483647), ((-2147483648), 2147483647)]), [(2, [(some 13, 0), (some 5, 0)], []), (106, [(some 14, 0), (some 15, 0)], [1, 2, 35, 36, 37, 38, 39, 40]), (105, [(some 4, 0)], [9, 10, 41, 42]), (220, [(some 13, 0), (some 14, 0), (some 15, 0), (some 4, 0), (some 5, 0), (some 6, 0)], [35, 36, 37, 38, 39, 40, 41, 42, 11, 12, 13, 14, 15, 16]), (0, [(some 16, 0), (some 15, 0)], []), (0, [(some 17, 0), (none, 0)], []), (0, [(some 4, 0), (some 4, 0)], []), (3, [(some 5, 0), (some 13, 0)], []), (78, [], [1])], (2, [(some 13, 0), (some 13, 1)], []))
set_option maxRecDepth 20000 in
theorem v_hushBy_2_3 {PT : PTy} (hp : HP18 PT) : vcOk PT w_hushBy_2_3 := vc_of (fun ρ α hB hF => by
  obtain ⟨f0, f1, f2, f3, f4, f5, f6, f7, f8, -⟩ := hF
  have e78 : PT 78 = P_ly := hp.1.1.1.1.1.1.1.1.1.1.1.1.1.1.1.1.2.2.2.2.2.2.2.1
  have e105 : PT 105 = P_cp2 := hp.1.1.1.1.1.1.1.1.1.1.1.1.1.2.2.2.2.2.2.2.2.2.2.2.1
  have e106 : PT 106 = P_rd := hp.1.1.1.1.1.1.1.1.1.1.1.1.1.2.2.2.2.2.2.2.2.2.2.2.2.1
  have e220 : PT 220 = P_hv3 := hp.2.2.2.2.2.2.2.2.2.1
  simp only [hF0, hF2, hF3, hFp_78, hFp_105, hFp_106, hFp_220, e78, e105, e106, e220, P_ly, P_cp2, P_rd, P_hv3, den_s, den_c, Int.add_zero, List.map_cons, List.map_nil] at f0 f1 f2 f3 f4 f5 f6 f7 f8 ⊢
  have b4 : (0 : Int) ≤ ρ 4 ∧ ρ 4 ≤ 8 := hB 4 (0, 8) rfl
  have b5 : (1 : Int) ≤ ρ 5 ∧ ρ 5 ≤ 6 := hB 5 (1, 6) rfl
  have b6 : (0 : Int) ≤ ρ 6 ∧ ρ 6 ≤ 6 := hB 6 (0, 6) rfl
  have b13 : (0 : Int) ≤ ρ 13 ∧ ρ 13 ≤ 5 := hB 13 (0, 5) rfl
  have b14 : (0 : Int) ≤ ρ 14 ∧ ρ 14 ≤ 8 := hB 14 (0, 8) rfl
  have b15 : (0 : Int) ≤ ρ 15 ∧ ρ 15 ≤ 10 := hB 15 (0, 10) rfl
  have b16 : (0 : Int) ≤ ρ 16 ∧ ρ 16 ≤ 11 := hB 16 (0, 11) rfl
  have b17 : ((-2147483648) : Int) ≤ ρ 17 ∧ ρ 17 ≤ 2147483647 := hB 17 ((-2147483648), 2147483647) rfl
  clear hB
  generalize ρ 4 = r4, ρ 5 = r5, ρ 6 = r6, ρ 13 = r13, ρ 14 = r14, ρ 15 = r15, ρ 16 = r16, ρ 17 = r17, α 1 = a1, α 2 = a2, α 9 = a9, α 10 = a10, α 11 = a11, α 12 = a12, α 13 = a13, α 14 = a14, α 15 = a15, α 16 = a16, α 35 = a35, α 36 = a36, α 37 = a37, α 38 = a38, α 39 = a39, α 40 = a40, α 41 = a41, α 42 = a42 at *
  omega)
def w_hushBy_3_0 : VC := (([(0, 23), (0, 49), (0, 8), (0, 10), (0, 8), (1, 6), (0, 6), (0, 8), (0, 11), (0, 9), ((-2147483648), 2147483647), ((-2147483648), 2147483647), (0, 5), (0, 5), (1, 6), (0, 8), (0, 10), (0, 11), ((-2147483648), 2147483647), ((-2147483648), 2147483647)]), [(3, [(some 14, 0), (some 5, 0)], []), (106, [(some 15, 0), (some 16, 0)], [1, 2, 35, 36, 37, 38, 39, 40]), (105, [(some 4, 0)], [9, 10, 41, 42]), (219, [(some 13, 0), (some 14, 0), (some 15, 0), (some 16, 0), (some 4, 0), (some 5, 0), (some 6, 0)], [35, 36, 37, 38, 39, 40, 41, 42, 11, 12, 13, 14, 15, 16]), (0, [(some 17, 0), (some 16, 0)], []), (0, [(some 18, 0), (none, 0)], []), (0, [(some 4, 0), (some 4, 0)], []), (3, [(some 5, 0), (some 14, 0)], []), (2, [(some 13, 0), (some 14, 0)], []), (2, [(some 13, 0), (some 5, 0)], []), (78, [], [1])], (220, [(some 13, 1), (some 15, 0), (some 16, 0), (some 4, 0), (some 5, 0), (some 6, 0)], [35, 36, 37, 38, 39, 40, 41, 42, 11, 12, 13, 14, 15, 16]))
set_option maxRecDepth 20000 in
theorem v_hushBy_3_0 {PT : PTy} (hp : HP18 PT) : vcOk PT w_hushBy_3_0 := vc_of (fun ρ α hB hF => by
  obtain ⟨f0, f1, f2, f3, f4, f5, f6, f7, f8, f9, f10, -⟩ := hF
  have e78 : PT 78 = P_ly := hp.1.1.1.1.1.1.1.1.1.1.1.1.1.1.1.1.2.2.2.2.2.2.2.1
  have e105 : PT 105 = P_cp2 := hp.1.1.1.1.1.1.1.1.1.1.1.1.1.2.2.2.2.2.2.2.2.2.2.2.1
  have e106 : PT 106 = P_rd := hp.1.1.1.1.1.1.1.1.1.1.1.1.1.2.2.2.2.2.2.2.2.2.2.2.2.1
  have e219 : PT 219 = P_hv2 := hp.2.2.2.2.2.2.2.2.1
  have e220 : PT 220 = P_hv3 := hp.2.2.2.2.2.2.2.2.2.1
  simp only [hF0, hF2, hF3, hFp_78, hFp_105, hFp_106, hFp_219, hFp_220, e78, e105, e106, e219, e220, P_ly, P_cp2, P_rd, P_hv2, P_hv3, den_s, den_c, Int.add_zero, List.map_cons, List.map_nil] at f0 f1 f2 f3 f4 f5 f6 f7 f8 f9 f10 ⊢
  have b4 : (0 : Int) ≤ ρ 4 ∧ ρ 4 ≤ 8 := hB 4 (0, 8) rfl
  have b5 : (1 : Int) ≤ ρ 5 ∧ ρ 5 ≤ 6 := hB 5 (1, 6) rfl
  have b6 : (0 : Int) ≤ ρ 6 ∧ ρ 6 ≤ 6 := hB 6 (0, 6) rfl
  have b13 : (0 : Int) ≤ ρ 13 ∧ ρ 13 ≤ 5 := hB 13 (0, 5) rfl
  have b14 : (1 : Int) ≤ ρ 14 ∧ ρ 14 ≤ 6 := hB 14 (1, 6) rfl
  have b15 : (0 : Int) ≤ ρ 15 ∧ ρ 15 ≤ 8 := hB 15 (0, 8) rfl
  have b16 : (0 : Int) ≤ ρ 16 ∧ ρ 16 ≤ 10 := hB 16 (0, 10) rfl
  have b17 : (0 : Int) ≤ ρ 17 ∧ ρ 17 ≤ 11 := hB 17 (0, 11) rfl
  have b18 : ((-2147483648) : Int) ≤ ρ 18 ∧ ρ 18 ≤ 2147483647 := hB 18 ((-2147483648), 2147483647) rfl
  clear hB
  generalize ρ 4 = r4, ρ 5 = r5, ρ 6 = r6, ρ 13 = r13, ρ 14 = r14, ρ 15 = r15, ρ 16 = r16, ρ 17 = r17, ρ 18 = r18, α 1 = a1, α 2 = a2, α 9 = a9, α 10 = a10, α 11 = a11, α 12 = a12, α 13 = a13, α 14 = a14, α 15 = a15, α 16 = a16, α 35 = a35, α 36 = a36, α 37 = a37, α 38 = a38, α 39 = a39, α 40 = a40, α 41 = a41, α 42 = a42 at *
  obtain ⟨u1, u2, u3⟩ := f3
  exact ⟨u1, fun j k h1 h2 h3 h4 => by
    by_cases q : j = r13
    · subst q; exact u3 k h3 (by omega)
    · exact u2 j k h1 (by omega) h3 h4⟩)
def w_hushBy_3_1 : VC := (([(0, 23), (0, 49), (0, 8), (0, 10), (0, 8), (1, 6), (0, 6), (0, 8), (0, 11), (0, 9), ((-2147483648), 2147483647), ((-2147483648), 2147483647), (0, 5), (0, 5), (1, 6), (0, 8), (0, 10), (0, 11), ((-2147483648), 2147483647), ((-2147483648), 2147483647)]), [(3, [(some 14, 0), (some 5, 0)], []), (106, [(some 15, 0), (some 16, 0)], [1, 2, 35, 36, 37, 38, 39, 40]), (105, [(some 4, 0)], [9, 10, 41, 42]), (219, [(some 13, 0), (some 14, 0), (some 15, 0), (some 16, 0), (some 4, 0), (some 5, 0), (some 6, 0)], [35, 36, 37, 38, 39, 40, 41, 42, 11, 12, 13, 14, 15, 16]), (0, [(some 17, 0), (some 16, 0)], []), (0, [(some 18, 0), (none, 0)], []), (0, [(some 4, 0), (some 4, 0)], []), (3, [(some 5, 0), (some 14, 0)], []), (2, [(some 13, 0), (some 14, 0)], []), (2, [(some 13, 0), (some 5, 0)], []), (78, [], [1])], (3, [(some 5, 0), (some 13, 1)], []))
set_option maxRecDepth 20000 in
theorem v_hushBy_3_1 {PT : PTy} (hp : HP18 PT) : vcOk PT w_hushBy_3_1 := vc_of (fun ρ α hB hF => by
  obtain ⟨f0, f1, f2, f3, f4, f5, f6, f7, f8, f9, f10, -⟩ := hF
  have e78 : PT 78 = P_ly := hp.1.1.1.1.1.1.1.1.1.1.1.1.1.1.1.1.2.2.2.2.2.2.2.1
  have e105 : PT 105 = P_cp2 := hp.1.1.1.1.1.1.1.1.1.1.1.1.1.2.2.2.2.2.2.2.2.2.2.2.1
  have e106 : PT 106 = P_rd := hp.1.1.1.1.1.1.1.1.1.1.1.1.1.2.2.2.2.2.2.2.2.2.2.2.2.1
  have e219 : PT 219 = P_hv2 := hp.2.2.2.2.2.2.2.2.1
  simp only [hF0, hF2, hF3, hFp_78, hFp_105, hFp_106, hFp_219, e78, e105, e106, e219, P_ly, P_cp2, P_rd, P_hv2, den_s, den_c, Int.add_zero, List.map_cons, List.map_nil] at f0 f1 f2 f3 f4 f5 f6 f7 f8 f9 f10 ⊢
  have b4 : (0 : Int) ≤ ρ 4 ∧ ρ 4 ≤ 8 := hB 4 (0, 8) rfl
  have b5 : (1 : Int) ≤ ρ 5 ∧ ρ 5 ≤ 6 := hB 5 (1, 6) rfl
  have b6 : (0 : Int) ≤ ρ 6 ∧ ρ 6 ≤ 6 := hB 6 (0, 6) rfl
  have b13 : (0 : Int) ≤ ρ 13 ∧ ρ 13 ≤ 5 := hB 13 (0, 5) rfl
  have b14 : (1 : Int) ≤ ρ 14 ∧ ρ 14 ≤ 6 := hB 14 (1, 6) rfl
  have b15 : (0 : Int) ≤ ρ 15 ∧ ρ 15 ≤ 8 := hB 15 (0, 8) rfl
  have b16 : (0 : Int) ≤ ρ 16 ∧ ρ 16 ≤ 10 := hB 16 (0, 10) rfl
  have b17 : (0 : Int) ≤ ρ 17 ∧ ρ 17 ≤ 11 := hB 17 (0, 11) rfl
  have b18 : ((-2147483648) : Int) ≤ ρ 18 ∧ ρ 18 ≤ 2147483647 := hB 18 ((-2147483648), 2147483647) rfl
  clear hB
  generalize ρ 4 = r4, ρ 5 = r5, ρ 6 = r6, ρ 13 = r13, ρ 14 = r14, ρ 15 = r15, ρ 16 = r16, ρ 17 = r17, ρ 18 = r18, α 1 = a1, α 2 = a2, α 9 = a9, α 10 = a10, α 11 = a11, α 12 = a12, α 13 = a13, α 14 = a14, α 15 = a15, α 16 = a16, α 35 = a35, α 36 = a36, α 37 = a37, α 38 = a38, α 39 = a39, α 40 = a40, α 41 = a41, α 42 = a42 at *
  omega)
def w_hushBy_3_2 : VC := (([(0, 23), (0, 49), (0, 8), (0, 10), (0, 8), (2, 6), (0, 6), (0, 8), (0, 11), (0, 9), ((-2147483648), 2147483647), ((-2147483648), 2147483647), (0, 5), (0, 5), (1, 5), (0, 8), (0, 10), (0, 11), ((-2147483648), 2147483647), ((-2147483648), 2147483647), (1, 32), (2, 32), ((-2147483648), 2147483647), (0, 0)]), [(0, [(some 23, 0), (none, 0)], []), (217, [(some 23, 0), (some 22, 0), (some 15, 0), (some 16, 0), (some 4, 0), (some 5, 0), (some 6, 0), (some 17, 0), (some 18, 0)], [35, 36, 37, 38, 39, 40, 41, 42, 11, 12, 13, 14, 15, 16]), (11, [(some 22, 0), (some 20, 0), (some 21, 0)], []), (13, [(some 21, 0), (none, 1), (some 14, 0)], []), (13, [(some 20, 0), (none, 1), (some 13, 0)], []), (21, [(none, 1), (some 14, 0)], [51, 50]), (21, [(none, 0), (some 13, 0)], [50, 49]), (2, [(some 14, 0), (some 5, 0)], []), (106, [(some 15, 0), (some 16, 0)], [1, 2, 35, 36, 37, 38, 39, 40]), (105, [(some 4, 0)], [9, 10, 41, 42]), (219, [(some 13, 0), (some 14, 0), (some 15, 0), (some 16, 0), (some 4, 0), (some 5, 0), (some 6, 0)], [35, 36, 37, 38, 39, 40, 41, 42, 11, 12, 13, 14, 15, 16]), (0, [(some 17, 0), (some 16, 0)], []), (0, [(some 18, 0), (none, 0)], []), (0, [(some 4, 0), (some 4, 0)], []), (3, [(some 5, 0), (some 14, 0)], []), (2, [(some 13, 0), (some 14, 0)], []), (2, [(some 13, 0), (some 5, 0)], []), (78, [], [1])], (219, [(some 13, 0), (some 14, 1), (some 15, 0), (some 16, 0), (some 4, 0), (some 5, 0), (some 6, 0)], [35, 36, 37, 38, 39, 40, 41, 42, 11, 12, 13, 14, 15, 16]))
set_option maxRecDepth 20000 in
theorem v_hushBy_3_2 {PT : PTy} (hp : HP18 PT) : vcOk PT w_hushBy_3_2 := vc_of (fun ρ α hB hF => by
  obtain ⟨f0, f1, f2, f3, f4, f5, f6, f7, f8, f9, f10, f11, f12, f13, f14, f15, f16, f17, -⟩ := hF
  have e78 : PT 78 = P_ly := hp.1.1.1.1.1.1.1.1.1.1.1.1.1.1.1.1.2.2.2.2.2.2.2.1
  have e105 : PT 105 = P_cp2 := hp.1.1.1.1.1.1.1.1.1.1.1.1.1.2.2.2.2.2.2.2.2.2.2.2.1
  have e106 : PT 106 = P_rd := hp.1.1.1.1.1.1.1.1.1.1.1.1.1.2.2.2.2.2.2.2.2.2.2.2.2.1
  have e217 : PT 217 = P_ihY := hp.2.2.2.2.2.2.1
  have e219 : PT 219 = P_hv2 := hp.2.2.2.2.2.2.2.2.1
  simp only [hF0, hF2, hF3, hF11, hF13, hF21, hFp_78, hFp_105, hFp_106, hFp_217, hFp_219, e78, e105, e106, e217, e219, P_ly, P_cp2, P_rd, P_ihY, P_hv2, den_s, den_c, Int.add_zero, List.map_cons, List.map_nil] at f0 f1 f2 f3 f4 f5 f6 f7 f8 f9 f10 f11 f12 f13 f14 f15 f16 f17 ⊢
  have b4 : (0 : Int) ≤ ρ 4 ∧ ρ 4 ≤ 8 := hB 4 (0, 8) rfl
  have b5 : (2 : Int) ≤ ρ 5 ∧ ρ 5 ≤ 6 := hB 5 (2, 6) rfl
  have b6 : (0 : Int) ≤ ρ 6 ∧ ρ 6 ≤ 6 := hB 6 (0, 6) rfl
  have b13 : (0 : Int) ≤ ρ 13 ∧ ρ 13 ≤ 5 := hB 13 (0, 5) rfl
  have b14 : (1 : Int) ≤ ρ 14 ∧ ρ 14 ≤ 5 := hB 14 (1, 5) rfl
  have b15 : (0 : Int) ≤ ρ 15 ∧ ρ 15 ≤ 8 := hB 15 (0, 8) rfl
  have b16 : (0 : Int) ≤ ρ 16 ∧ ρ 16 ≤ 10 := hB 16 (0, 10) rfl
  have b17 : (0 : Int) ≤ ρ 17 ∧ ρ 17 ≤ 11 := hB 17 (0, 11) rfl
  have b18 : ((-2147483648) : Int) ≤ ρ 18 ∧ ρ 18 ≤ 2147483647 := hB 18 ((-2147483648), 2147483647) rfl
  have b20 : (1 : Int) ≤ ρ 20 ∧ ρ 20 ≤ 32 := hB 20 (1, 32) rfl
  have b21 : (2 : Int) ≤ ρ 21 ∧ ρ 21 ≤ 32 := hB 21 (2, 32) rfl
  have b22 : ((-2147483648) : Int) ≤ ρ 22 ∧ ρ 22 ≤ 2147483647 := hB 22 ((-2147483648), 2147483647) rfl
  have b23 : (0 : Int) ≤ ρ 23 ∧ ρ 23 ≤ 0 := hB 23 (0, 0) rfl
  clear hB
  generalize ρ 4 = r4, ρ 5 = r5, ρ 6 = r6, ρ 13 = r13, ρ 14 = r14, ρ 15 = r15, ρ 16 = r16, ρ 17 = r17, ρ 18 = r18, ρ 20 = r20, ρ 21 = r21, ρ 22 = r22, ρ 23 = r23, α 1 = a1, α 2 = a2, α 9 = a9, α 10 = a10, α 11 = a11, α 12 = a12, α 13 = a13, α 14 = a14, α 15 = a15, α 16 = a16, α 35 = a35, α 36 = a36, α 37 = a37, α 38 = a38, α 39 = a39, α 40 = a40, α 41 = a41, α 42 = a42, α 49 = a49, α 50 = a50, α 51 = a51 at *
  subst f2
  subst f3
  subst f4
  subst f5
  subst f6
  have h0 : hqY r15 r16 r4 r5 r6 a35 a36 a37 a38 a39 a40 a41 a42 a11 a12 a13 a14 a15 a16 (mOr (mShl 1 r13) (mShl 1 r14)) r23 := f1 (by omega) (by omega)
  rw [show r23 = 0 by omega] at h0
  obtain ⟨u1, u2, u3⟩ := f10
  exact ⟨u1, u2, fun k h1 h2 => by
    by_cases q : k = r14
    · subst q; exact h0
    · exact u3 k h1 (by omega)⟩)
def w_hushBy_3_3 : VC := (([(0, 23), (0, 49), (0, 8), (0, 10), (0, 8), (2, 6), (0, 6), (0, 8), (0, 11), (0, 9), ((-2147483648), 2147483647), ((-2147483648), 2147483647), (0, 5), (0, 5), (1, 5), (0, 8), (0, 10), (0, 11), ((-2147483648), 2147483647), ((-2147483648), 2147483647), (1, 32), (2, 32), ((-2147483648), 2147483647), (0, 0)]), [(0, [(some 23, 0), (none, 0)], []), (217, [(some 23, 0), (some 22, 0), (some 15, 0), (some 16, 0), (some 4, 0), (some 5, 0), (some 6, 0), (some 17, 0), (some 18, 0)], [35, 36, 37, 38, 39, 40, 41, 42, 11, 12, 13, 14, 15, 16]), (11, [(some 22, 0), (some 20, 0), (some 21, 0)], []), (13, [(some 21, 0), (none, 1), (some 14, 0)], []), (13, [(some 20, 0), (none, 1), (some 13, 0)], []), (21, [(none, 1), (some 14, 0)], [51, 50]), (21, [(none, 0), (some 13, 0)], [50, 49]), (2, [(some 14, 0), (some 5, 0)], []), (106, [(some 15, 0), (some 16, 0)], [1, 2, 35, 36, 37, 38, 39, 40]), (105, [(some 4, 0)], [9, 10, 41, 42]), (219, [(some 13, 0), (some 14, 0), (some 15, 0), (some 16, 0), (some 4, 0), (some 5, 0), (some 6, 0)], [35, 36, 37, 38, 39, 40, 41, 42, 11, 12, 13, 14, 15, 16]), (0, [(some 17, 0), (some 16, 0)], []), (0, [(some 18, 0), (none, 0)], []), (0, [(some 4, 0), (some 4, 0)], []), (3, [(some 5, 0), (some 14, 0)], []), (2, [(some 13, 0), (some 14, 0)], []), (2, [(some 13, 0), (some 5, 0)], []), (78, [], [1])], (3, [(some 5, 0), (some 14, 1)], []))
set_option maxRecDepth 20000 in
theorem v_hushBy_3_3 {PT : PTy} (hp : HP18 PT) : vcOk PT w_hushBy_3_3 := vc_of (fun ρ α hB hF => by
  obtain ⟨f0, f1, f2, f3, f4, f5, f6, f7, f8, f9, f10, f11, f12, f13, f14, f15, f16, f17, -⟩ := hF
  have e78 : PT 78 = P_ly := hp.1.1.1.1.1.1.1.1.1.1.1.1.1.1.1.1.2.2.2.2.2.2.2.1
  have e105 : PT 105 = P_cp2 := hp.1.1.1.1.1.1.1.1.1.1.1.1.1.2.2.2.2.2.2.2.2.2.2.2.1
  have e106 : PT 106 = P_rd := hp.1.1.1.1.1.1.1.1.1.1.1.1.1.2.2.2.2.2.2.2.2.2.2.2.2.1
  have e217 : PT 217 = P_ihY := hp.2.2.2.2.2.2.1
  have e219 : PT 219 = P_hv2 := hp.2.2.2.2.2.2.2.2.1
  simp only [hF0, hF2, hF3, hF11, hF13, hF21, hFp_78, hFp_105, hFp_106, hFp_217, hFp_219, e78, e105, e106, e217, e219, P_ly, P_cp2, P_rd, P_ihY, P_hv2, den_s, den_c, Int.add_zero, List.map_cons, List.map_nil] at f0 f1 f2 f3 f4 f5 f6 f7 f8 f9 f10 f11 f12 f13 f14 f15 f16 f17 ⊢
  have b4 : (0 : Int) ≤ ρ 4 ∧ ρ 4 ≤ 8 := hB 4 (0, 8) rfl
  have b5 : (2 : Int) ≤ ρ 5 ∧ ρ 5 ≤ 6 := hB 5 (2, 6) rfl
  have b6 : (0 : Int) ≤ ρ 6 ∧ ρ 6 ≤ 6 := hB 6 (0, 6) rfl
  have b13 : (0 : Int) ≤ ρ 13 ∧ ρ 13 ≤ 5 := hB 13 (0, 5) rfl
  have b14 : (1 : Int) ≤ ρ 14 ∧ ρ 14 ≤ 5 := hB 14 (1, 5) rfl
  have b15 : (0 : Int) ≤ ρ 15 ∧ ρ 15 ≤ 8 := hB 15 (0, 8) rfl
  have b16 : (0 : Int) ≤ ρ 16 ∧ ρ 16 ≤ 10 := hB 16 (0, 10) rfl
  have b17 : (0 : Int) ≤ ρ 17 ∧ ρ 17 ≤ 11 := hB 17 (0, 11) rfl
  have b18 : ((-2147483648) : Int) ≤ ρ 18 ∧ ρ 18 ≤ 2147483647 := hB 18 ((-2147483648), 2147483647) rfl
  have b20 : (1 : Int) ≤ ρ 20 ∧ ρ 20 ≤ 32 := hB 20 (1, 32) rfl
  have b21 : (2 : Int) ≤ ρ 21 ∧ ρ 21 ≤ 32 := hB 21 (2, 32) rfl
  have b22 : ((-2147483648) : Int) ≤ ρ 22 ∧ ρ 22 ≤ 2147483647 := hB 22 ((-2147483648), 2147483647) rfl
  have b23 : (0 : Int) ≤ ρ 23 ∧ ρ 23 ≤ 0 := hB 23 (0, 0) rfl
  clear hB
  generalize ρ 4 = r4, ρ 5 = r5, ρ 6 = r6, ρ 13 = r13, ρ 14 = r14, ρ 15 = r15, ρ 16 = r16, ρ 17 = r17, ρ 18 = r18, ρ 20 = r20, ρ 21 = r21, ρ 22 = r22, ρ 23 = r23, α 1 = a1, α 2 = a2, α 9 = a9, α 10 = a10, α 11 = a11, α 12 = a12, α 13 = a13, α 14 = a14, α 15 = a15, α 16 = a16, α 35 = a35, α 36 = a36, α 37 = a37, α 38 = a38, α 39 = a39, α 40 = a40, α 41 = a41, α 42 = a42, α 49 = a49, α 50 = a50, α 51 = a51 at *
  subst f2
  subst f3
  subst f4
  subst f5
  subst f6
  omega)
def w_hushBy_3_4 : VC := (([(0, 23), (0, 49), (0, 8), (0, 10), (0, 8), (2, 6), (0, 6), (0, 8), (0, 11), (0, 9), ((-2147483648), 2147483647), ((-2147483648), 2147483647), (0, 5), (0, 5), (1, 5), (0, 8), (0, 10), (0, 11), ((-2147483648), 2147483647), ((-2147483648), 2147483647), (1, 32), (2, 32), ((-2147483648), 2147483647), (0, 0)]), [(0, [(some 23, 0), (none, 0)], []), (217, [(some 23, 0), (some 22, 0), (some 15, 0), (some 16, 0), (some 4, 0), (some 5, 0), (some 6, 0), (some 17, 0), (some 18, 0)], [35, 36, 37, 38, 39, 40, 41, 42, 11, 12, 13, 14, 15, 16]), (11, [(some 22, 0), (some 20, 0), (some 21, 0)], []), (13, [(some 21, 0), (none, 1), (some 14, 0)], []), (13, [(some 20, 0), (none, 1), (some 13, 0)], []), (21, [(none, 1), (some 14, 0)], [51, 50]), (21, [(none, 0), (some 13, 0)], [50, 49]), (2, [(some 14, 0), (some 5, 0)], []), (106, [(some 15, 0), (some 16, 0)], [1, 2, 35, 36, 37, 38, 39, 40]), (105, [(some 4, 0)], [9, 10, 41, 42]), (219, [(some 13, 0), (some 14, 0), (some 15, 0), (some 16, 0), (some 4, 0), (some 5, 0), (some 6, 0)], [35, 36, 37, 38, 39, 40, 41, 42, 11, 12, 13, 14, 15, 16]), (0, [(some 17, 0), (some 16, 0)], []), (0, [(some 18, 0), (none, 0)], []), (0, [(some 4, 0), (some 4, 0)], []), (3, [(some 5, 0), (some 14, 0)], []), (2, [(some 13, 0), (some 14, 0)], []), (2, [(some 13, 0), (some 5, 0)], []), (78, [], [1])], (2, [(some 13, 0), (some 14, 1)], []))
set_option maxRecDepth 20000 in
theorem v_hushBy_3_4 {PT : PTy} (hp : HP18 PT) : vcOk PT w_hushBy_3_4 := vc_of (fun ρ α hB hF => by
  obtain ⟨f0, f1, f2, f3, f4, f5, f6, f7, f8, f9, f10, f11, f12, f13, f14, f15, f16, f17, -⟩ := hF
  have e78 : PT 78 = P_ly := hp.1.1.1.1.1.1.1.1.1.1.1.1.1.1.1.1.2.2.2.2.2.2.2.1
  have e105 : PT 105 = P_cp2 := hp.1.1.1.1.1.1.1.1.1.1.1.1.1.2.2.2.2.2.2.2.2.2.2.2.1
  have e106 : PT 106 = P_rd := hp.1.1.1.1.1.1.1.1.1.1.1.1.1.2.2.2.2.2.2.2.2.2.2.2.2.1
  have e217 : PT 217 = P_ihY := hp.2.2.2.2.2.2.1
  have e219 : PT 219 = P_hv2 := hp.2.2.2.2.2.2.2.2.1
  simp only [hF0, hF2, hF3, hF11, hF13, hF21, hFp_78, hFp_105, hFp_106, hFp_217, hFp_219, e78, e105, e106, e217, e219, P_ly, P_cp2, P_rd, P_ihY, P_hv2, den_s, den_c, Int.add_zero, List.map_cons, List.map_nil] at f0 f1 f2 f3 f4 f5 f6 f7 f8 f9 f10 f11 f12 f13 f14 f15 f16 f17 ⊢
  have b4 : (0 : Int) ≤ ρ 4 ∧ ρ 4 ≤ 8 := hB 4 (0, 8) rfl
  have b5 : (2 : Int) ≤ ρ 5 ∧ ρ 5 ≤ 6 := hB 5 (2, 6) rfl
  have b6 : (0 : Int) ≤ ρ 6 ∧ ρ 6 ≤ 6 := hB 6 (0, 6) rfl
  have b13 : (0 : Int) ≤ ρ 13 ∧ ρ 13 ≤ 5 := hB 13 (0, 5) rfl
  have b14 : (1 : Int) ≤ ρ 14 ∧ ρ 14 ≤ 5 := hB 14 (1, 5) rfl
  have b15 : (0 : Int) ≤ ρ 15 ∧ ρ 15 ≤ 8 := hB 15 (0, 8) rfl
  have b16 : (0 : Int) ≤ ρ 16 ∧ ρ 16 ≤ 10 := hB 16 (0, 10) rfl
  have b17 : (0 : Int) ≤ ρ 17 ∧ ρ 17 ≤ 11 := hB 17 (0, 11) rfl
  have b18 : ((-2147483648) : Int) ≤ ρ 18 ∧ ρ 18 ≤ 2147483647 := hB 18 ((-2147483648), 2147483647) rfl
  have b20 : (1 : Int) ≤ ρ 20 ∧ ρ 20 ≤ 32 := hB 20 (1, 32) rfl
  have b21 : (2 : Int) ≤ ρ 21 ∧ ρ 21 ≤ 32 := hB 21 (2, 32) rfl
  have b22 : ((-2147483648) : Int) ≤ ρ 22 ∧ ρ 22 ≤ 2147483647 := hB 22 ((-2147483648), 2147483647) rfl
  have b23 : (0 : Int) ≤ ρ 23 ∧ ρ 23 ≤ 0 := hB 23 (0, 0) rfl
  clear hB
  generalize ρ 4 = r4, ρ 5 = r5, ρ 6 = r6, ρ 13 = r13, ρ 14 = r14, ρ 15 = r15, ρ 16 = r16, ρ 17 = r17, ρ 18 = r18, ρ 20 = r20, ρ 21 = r21, ρ 22 = r22, ρ 23 = r23, α 1 = a1, α 2 = a2, α 9 = a9, α 10 = a10, α 11 = a11, α 12 = a12, α 13 = a13, α 14 = a14, α 15 = a15, α 16 = a16, α 35 = a35, α 36 = a36, α 37 = a37, α 38 = a38, α 39 = a39, α 40 = a40, α 41 = a41, α 42 = a42, α 49 = a49, α 50 = a50, α 51 = a51 at *
  subst f2
  subst f3
  subst f4
  subst f5
  subst f6
  omega)
def w_hushBy_3_5 : VC := (([(0, 23), (0, 49), (0, 8), (0, 10), (0, 8), (2, 6), (0, 6), (0, 8), (0, 11), (0, 9), ((-2147483648), 2147483647), ((-2147483648), 2147483647), (0, 5), (0, 5), (1, 5), (0, 8), (0, 10), (0, 11), ((-2147483648), 2147483647), ((-2147483648), 2147483647), (1, 32), (2, 32), ((-2147483648), 2147483647), (1, 1)]), [(1, [(some 23, 0), (none, 0)], []), (217, [(some 23, 0), (some 22, 0), (some 15, 0), (some 16, 0), (some 4, 0), (some 5, 0), (some 6, 0), (some 17, 0), (some 18, 0)], [35, 36, 37, 38, 39, 40, 41, 42, 11, 12, 13, 14, 15, 16]), (11, [(some 22, 0), (some 20, 0), (some 21, 0)], []), (13, [(some 21, 0), (none, 1), (some 14, 0)], []), (13, [(some 20, 0), (none, 1), (some 13, 0)], []), (21, [(none, 1), (some 14, 0)], [51, 50]), (21, [(none, 0), (some 13, 0)], [50, 49]), (2, [(some 14, 0), (some 5, 0)], []), (106, [(some 15, 0), (some 16, 0)], [1, 2, 35, 36, 37, 38, 39, 40]), (105, [(some 4, 0)], [9, 10, 41, 42]), (219, [(some 13, 0), (some 14, 0), (some 15, 0), (some 16, 0), (some 4, 0), (some 5, 0), (some 6, 0)], [35, 36, 37, 38, 39, 40, 41, 42, 11, 12, 13, 14, 15, 16]), (0, [(some 17, 0), (some 16, 0)], []), (0, [(some 18, 0), (none, 0)], []), (0, [(some 4, 0), (some 4, 0)], []), (3, [(some 5, 0), (some 14, 0)], []), (2, [(some 13, 0), (some 14, 0)], []), (2, [(some 13, 0), (some 5, 0)], []), (78, [], [1])], (221, [(none, 2), (some 15, 0), (some 16, 0), (some 4, 0), (some 5, 0), (some 6, 0)], [1, 2, 35, 36, 37, 38, 39, 40, 41, 42, 9, 10, 11, 12, 13, 14, 15, 16, 51]))
set_option maxRecDepth 20000 in
theorem v_hushBy_3_5 {PT : PTy} (hp : HP18 PT) : vcOk PT w_hushBy_3_5 := vc_of (fun ρ α hB hF => by
  obtain ⟨-, f1, f2, f3, f4, f5, f6, f7, f8, f9, f10, f11, f12, f13, f14, f15, f16, f17, -⟩ := hF
  have e78 : PT 78 = P_ly := hp.1.1.1.1.1.1.1.1.1.1.1.1.1.1.1.1.2.2.2.2.2.2.2.1
  have e105 : PT 105 = P_cp2 := hp.1.1.1.1.1.1.1.1.1.1.1.1.1.2.2.2.2.2.2.2.2.2.2.2.1
  have e106 : PT 106 = P_rd := hp.1.1.1.1.1.1.1.1.1.1.1.1.1.2.2.2.2.2.2.2.2.2.2.2.2.1
  have e217 : PT 217 = P_ihY := hp.2.2.2.2.2.2.1
  have e219 : PT 219 = P_hv2 := hp.2.2.2.2.2.2.2.2.1
  have e221 : PT 221 = P_hbY := hp.2.2.2.2.2.2.2.2.2.2.1
  simp only [hF0, hF2, hF3, hF11, hF13, hF21, hFp_78, hFp_105, hFp_106, hFp_217, hFp_219, hFp_221, e78, e105, e106, e217, e219, e221, P_ly, P_cp2, P_rd, P_ihY, P_hv2, P_hbY, den_s, den_c, Int.add_zero, List.map_cons, List.map_nil] at f1 f2 f3 f4 f5 f6 f7 f8 f9 f10 f11 f12 f13 f14 f15 f16 f17 ⊢
  have b4 : (0 : Int) ≤ ρ 4 ∧ ρ 4 ≤ 8 := hB 4 (0, 8) rfl
  have b5 : (2 : Int) ≤ ρ 5 ∧ ρ 5 ≤ 6 := hB 5 (2, 6) rfl
  have b6 : (0 : Int) ≤ ρ 6 ∧ ρ 6 ≤ 6 := hB 6 (0, 6) rfl
  have b13 : (0 : Int) ≤ ρ 13 ∧ ρ 13 ≤ 5 := hB 13 (0, 5) rfl
  have b14 : (1 : Int) ≤ ρ 14 ∧ ρ 14 ≤ 5 := hB 14 (1, 5) rfl
  have b15 : (0 : Int) ≤ ρ 15 ∧ ρ 15 ≤ 8 := hB 15 (0, 8) rfl
  have b16 : (0 : Int) ≤ ρ 16 ∧ ρ 16 ≤ 10 := hB 16 (0, 10) rfl
  have b17 : (0 : Int) ≤ ρ 17 ∧ ρ 17 ≤ 11 := hB 17 (0, 11) rfl
  have b18 : ((-2147483648) : Int) ≤ ρ 18 ∧ ρ 18 ≤ 2147483647 := hB 18 ((-2147483648), 2147483647) rfl
  have b20 : (1 : Int) ≤ ρ 20 ∧ ρ 20 ≤ 32 := hB 20 (1, 32) rfl
  have b21 : (2 : Int) ≤ ρ 21 ∧ ρ 21 ≤ 32 := hB 21 (2, 32) rfl
  have b22 : ((-2147483648) : Int) ≤ ρ 22 ∧ ρ 22 ≤ 2147483647 := hB 22 ((-2147483648), 2147483647) rfl
  have b23 : (1 : Int) ≤ ρ 23 ∧ ρ 23 ≤ 1 := hB 23 (1, 1) rfl
  clear hB
  generalize ρ 4 = r4, ρ 5 = r5, ρ 6 = r6, ρ 13 = r13, ρ 14 = r14, ρ 15 = r15, ρ 16 = r16, ρ 17 = r17, ρ 18 = r18, ρ 20 = r20, ρ 21 = r21, ρ 22 = r22, ρ 23 = r23, α 1 = a1, α 2 = a2, α 9 = a9, α 10 = a10, α 11 = a11, α 12 = a12, α 13 = a13, α 14 = a14, α 15 = a15, α 16 = a16, α 35 = a35, α 36 = a36, α 37 = a37, α 38 = a38, α 39 = a39, α 40 = a40, α 41 = a41, α 42 = a42, α 49 = a49, α 50 = a50, α 51 = a51 at *
  subst f2
  subst f3
  subst f4
  subst f5
  subst f6
  have h0 : hqY r15 r16 r4 r5 r6 a35 a36 a37 a38 a39 a40 a41 a42 a11 a12 a13 a14 a15 a16 (mOr (mShl 1 r13) (mShl 1 r14)) r23 := f1 (by omega) (by omega)
  rw [show r23 = 1 by omega] at h0
  exact ⟨⟨f8, f9⟩, r13, r14, Or.inr (Or.inr (Or.inl ⟨by first | rfl | trivial, by omega, by omega, by omega, f10, h0⟩)), fun _ => (by first | rfl | (rw [updI_ne (by omega), updI_at]) | (rw [updI_at])), fun _ => (by first | rfl | rw [updI_at])⟩)
set_option maxRecDepth 1000000 in
theorem k_hushBy {PT : PTy} (hp : HP18 PT) : wfX c_hushBy = true ∧ xcOk PT c_hushBy := xctr (xl (k_asTold hp.1.1.1.1.1.1.1.1.1.1.1.1.1) (xl (k_isHushed hp) (xl0))) c_hushBy 47 mX7_hushBy rfl h_hushBy (by decide +kernel) (by decide +kernel) (by decide) (vcs_by [w_hushBy_0_0, w_hushBy_0_1, w_hushBy_0_2] (by decide +kernel) (vc (v_hushBy_0_0 hp) (vc (v_hushBy_0_1 hp) (vc (v_hushBy_0_2 hp) vn)))) (fmc (vcs_by [w_hushBy_1_0, w_hushBy_1_1, w_hushBy_1_2, w_hushBy_1_3, w_hushBy_1_4] (by decide +kernel) (vc (v_hushBy_1_0 hp) (vc (v_hushBy_1_1 hp) (vc (v_hushBy_1_2 hp) (vc (v_hushBy_1_3 hp) (vc (v_hushBy_1_4 hp) vn)))))) (fmc (vcs_by [w_hushBy_2_0, w_hushBy_2_1, w_hushBy_2_2, w_hushBy_2_3] (by decide +kernel) (vc (v_hushBy_2_0 hp) (vc (v_hushBy_2_1 hp) (vc (v_hushBy_2_2 hp) (vc (v_hushBy_2_3 hp) vn))))) (fmc (vcs_by [w_hushBy_3_0, w_hushBy_3_1, w_hushBy_3_2, w_hushBy_3_3, w_hushBy_3_4, w_hushBy_3_5] (by decide +kernel) (vc (v_hushBy_3_0 hp) (vc (v_hushBy_3_1 hp) (vc (v_hushBy_3_2 hp) (vc (v_hushBy_3_3 hp) (vc (v_hushBy_3_4 hp) (vc (v_hushBy_3_5 hp) vn))))))) fmn)))
