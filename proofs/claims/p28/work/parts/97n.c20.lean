/-! ===== plans; printed by wip/gen/x ===== -/
def P_wyS (l : List Int) (a : List (Int → Int)) : Prop := match l, a with
  | [i, b, k, t, ns, n, m, nk, nl, nt], [L, T, so, D4, wh, gr, md, du, KD, KO, ld, lw, lm, td, tw, tm, sd, sw, sm, CB] => wyS i b k t ns n m nk nl nt L T so D4 wh gr md du KD KO ld lw lm td tw tm sd sw sm CB
  | _, _ => False
theorem hFp_206 {PT : PTy} {ρ : Nat → Int} {α : Nat → Int → Int} (l : List AN) (a : List Nat) : hF PT ρ α (206, l, a) = PT 206 (l.map (den ρ)) (a.map α) := rfl
def P_wyT (l : List Int) (a : List (Int → Int)) : Prop := match l, a with
  | [v, d, b, k, t, ns, n, m, nk, nl, nt], [L, T, so, D4, wh, gr, md, du, KD, KO, ld, lw, lm, td, tw, tm, sd, sw, sm, CB, CA] => wyT v d b k t ns n m nk nl nt L T so D4 wh gr md du KD KO ld lw lm td tw tm sd sw sm CB CA
  | _, _ => False
theorem hFp_207 {PT : PTy} {ρ : Nat → Int} {α : Nat → Int → Int} (l : List AN) (a : List Nat) : hF PT ρ α (207, l, a) = PT 207 (l.map (den ρ)) (a.map α) := rfl
def P_szP (l : List Int) (a : List (Int → Int)) : Prop := match l, a with
  | [r, k, ns, n, m, nk, nl, nt], [L, T, so, sz, wh, gr, md, du, KD, KO, kd, ko, ld, lw, lm, td, tw, tm, sd, sw, sm, CB] => toY n m nk L T so sz wh gr md du KD KO kd ko ∧ obB (wsY k ns n m nk nl nt 0 0 so sz wh gr md du KD KO ld lw lm td tw tm sd sw sm) 10 r ∧ ∀ v d, 0 ≤ v → v < 10 → 0 ≤ d → d < 24 → cbY k n m nk nl nt 0 0 so sz wh gr md du KD KO ld lw lm td tw tm v d (CB (24 * v + d))
  | _, _ => False
theorem hFp_208 {PT : PTy} {ρ : Nat → Int} {α : Nat → Int → Int} (l : List AN) (a : List Nat) : hF PT ρ α (208, l, a) = PT 208 (l.map (den ρ)) (a.map α) := rfl
def P_woS (l : List Int) (a : List (Int → Int)) : Prop := match l, a with
  | [i, b, k, t, ns, n, m, nk, nl, nt], [L, T, D3, sz, wh, gr, md, du, KD, KO, ld, lw, lm, td, tw, tm, sd, sw, sm] => ∃ a b' so, rdP a n (L 0) T so sz ∧ rdV b' m (L 1) (sh T) wh gr md du ∧ (∀ q, ¬ q = k → D3 q = so q) ∧ t = so k ∧ obB (woY k ns n m nk nl nt 0 0 so sz wh gr md du KD KO ld lw lm td tw tm sd sw sm) i b
  | _, _ => False
theorem hFp_209 {PT : PTy} {ρ : Nat → Int} {α : Nat → Int → Int} (l : List AN) (a : List Nat) : hF PT ρ α (209, l, a) = PT 209 (l.map (den ρ)) (a.map α) := rfl
def P_soP2 (l : List Int) (a : List (Int → Int)) : Prop := match l, a with
  | [r, k, ns, n, m, nk, nl, nt], [L, T, so, sz, wh, gr, md, du, KD, KO, kd, ko, ld, lw, lm, td, tw, tm, sd, sw, sm] => toY n m nk L T so sz wh gr md du KD KO kd ko ∧ obB (woY k ns n m nk nl nt 0 0 so sz wh gr md du KD KO ld lw lm td tw tm sd sw sm) 3 r
  | _, _ => False
theorem hFp_210 {PT : PTy} {ρ : Nat → Int} {α : Nat → Int → Int} (l : List AN) (a : List Nat) : hF PT ρ α (210, l, a) = PT 210 (l.map (den ρ)) (a.map α) := rfl
def P_owaY (l : List Int) (a : List (Int → Int)) : Prop := match l, a with
  | [r, k, w, ns, n, m, nk, nl, nt], [L, T, so, sz, wh, gr, md, du, KD, KO, kd, ko, ld, lw, lm, td, tw, tm, sd, sw, sm] => ∃ n0, nP n0 (L 0) T ∧ (¬ (0 ≤ k ∧ k < n0 ∧ 0 ≤ w ∧ w ≤ 1) → r = -2) ∧ (0 ≤ k ∧ k < n0 ∧ 0 ≤ w ∧ w ≤ 1 → n = n0 ∧ toY n m nk L T so sz wh gr md du KD KO kd ko ∧ (w = 0 → obB (wsY k ns n m nk nl nt 0 0 so sz wh gr md du KD KO ld lw lm td tw tm sd sw sm) 10 r) ∧ (w = 1 → obB (woY k ns n m nk nl nt 0 0 so sz wh gr md du KD KO ld lw lm td tw tm sd sw sm) 3 r))
  | _, _ => False
theorem hFp_211 {PT : PTy} {ρ : Nat → Int} {α : Nat → Int → Int} (l : List AN) (a : List Nat) : hF PT ρ α (211, l, a) = PT 211 (l.map (den ρ)) (a.map α) := rfl
def HP17 (PT : PTy) : Prop := HP16 PT ∧ (PT 206 = P_wyS ∧ PT 207 = P_wyT ∧ PT 208 = P_szP ∧ PT 209 = P_woS ∧ PT 210 = P_soP2 ∧ PT 211 = P_owaY ∧ True)
def c_sizesBy : XC := (175, 6, (bY ++ [(0, 7)]), [.inr (.inl 0), .inl (some 13, 0)], gY2, [(78, [], [1])], [((bY ++ [(0, 7), ((-2147483648), 2147483647), (0, 8), (0, 10), (0, 11), ((-2147483648), 2147483647), ((-2147483648), 2147483647)]), some (.inl (some 14, 0)), (hst gY2 [(0, .inr (.inr (.inr (7, [.inr (.inl 1), .inr (.inl 2), .inl (some 15, 0), .inr (.inl 3), .inr (.inl 4), .inl (some 16, 0), .inr (.inl 5), .inr (.inl 6), .inr (.inl 7), .inr (.inl 8), .inl (some 4, 0), .inr (.inl 9), .inr (.inl 10), .inl (some 5, 0), .inr (.inl 11), .inr (.inl 12), .inr (.inl 13), .inl (some 6, 0), .inr (.inl 14), .inr (.inl 15), .inr (.inl 16), .inl (some 17, 0), .inl (some 4, 0), .inr (.inl 17), .inr (.inl 18), .inl (some 18, 0), .inl (some 19, 0), .inr (.inl 19), .inr (.inl 20), .inr (.inl 21), .inr (.inl 22), .inr (.inl 23), .inr (.inl 24), .inr (.inl 25), .inl (some 7, 0), .inr (.inl 26), .inr (.inl 27), .inr (.inl 28), .inr (.inl 29), .inr (.inl 30), .inr (.inl 31), .inr (.inl 32), .inr (.inl 33), .inr (.inl 34), .inl (some 12, 0)]))))]), [0, 1, 2, 35, 36, 37, 38, 39, 40, 9, 10, 11, 12, 13, 14, 15, 16, 41, 42, 43, 44, 45, 46, 47, 48, 25, 26, 27, 28, 49, 30, 31, 32, 33, 34], 50, [(208, [(some 14, 0), (some 13, 0), (some 7, 0), (some 15, 0), (some 16, 0), (some 4, 0), (some 5, 0), (some 6, 0)], [1, 2, 35, 36, 37, 38, 39, 40, 41, 42, 9, 10, 11, 12, 13, 14, 15, 16, 26, 27, 28, 49])])])
def h_sizesBy : List XH := [(16, (bY ++ [(0, 7), (0, 9), ((-2147483648), 2147483647), (0, 10), (0, 8), (0, 10), (0, 11), ((-2147483648), 2147483647), ((-2147483648), 2147483647)]), [some (.inr (.inl 0)), some (.inl (some 13, 0)), some (.inl (some 14, 0)), some (.inl (some 15, 0)), some (.inl (some 16, 0)), none], (hst gY2 [(0, .inr (.inr (.inr (7, [.inr (.inl 1), .inr (.inl 2), .inl (some 17, 0), .inr (.inl 3), .inr (.inl 4), .inl (some 18, 0), .inr (.inl 5), .inr (.inl 6), .inr (.inl 7), .inr (.inl 8), .inl (some 4, 0), .inr (.inl 9), .inr (.inl 10), .inl (some 5, 0), .inr (.inl 11), .inr (.inl 12), .inr (.inl 13), .inl (some 6, 0), .inr (.inl 14), .inr (.inl 15), .inr (.inl 16), .inl (some 19, 0), .inl (some 4, 0), .inr (.inl 17), .inr (.inl 18), .inl (some 20, 0), .inl (some 21, 0), .inr (.inl 19), .inr (.inl 20), .inr (.inl 21), .inr (.inl 22), .inr (.inl 23), .inr (.inl 24), .inr (.inl 25), .inl (some 7, 0), .inr (.inl 26), .inr (.inl 27), .inr (.inl 28), .inr (.inl 29), .inr (.inl 30), .inr (.inl 31), .inr (.inl 32), .inr (.inl 33), .inr (.inl 34), .inl (some 12, 0)]))))]), [0, 1, 2, 35, 36, 37, 38, 39, 40, 9, 10, 11, 12, 13, 14, 15, 16, 41, 42, 43, 44, 45, 46, 47, 48, 25, 26, 27, 28, 49, 30, 31, 32, 33, 34], 50, [(105, [(some 4, 0)], [9, 10, 41, 42]), (206, [(some 16, 0), (some 15, 0), (some 13, 0), (some 14, 0), (some 7, 0), (some 17, 0), (some 18, 0), (some 4, 0), (some 5, 0), (some 6, 0)], [1, 2, 35, 36, 37, 38, 39, 40, 41, 42, 11, 12, 13, 14, 15, 16, 26, 27, 28, 49]), (0, [(some 19, 0), (some 18, 0)], []), (0, [(some 20, 0), (none, 0)], []), (0, [(some 21, 0), (none, 0)], []), (0, [(some 4, 0), (some 4, 0)], []), (3, [(none, 10), (some 16, 0)], [])], [(true, (none, 1)), (true, (some 16, 0)), (true, (none, 0)), (true, (none, 0))]),
  (52, (bY ++ [(0, 7), (0, 9), ((-2147483648), 2147483647), (0, 9), (0, 24), (0, 8), (0, 10), (0, 11), ((-2147483648), 2147483647), ((-2147483648), 2147483647)]), [some (.inr (.inl 0)), some (.inl (some 13, 0)), some (.inl (some 14, 0)), some (.inl (some 15, 0)), some (.inl (some 16, 0)), some (.inl (some 17, 0))], (hst gY2 [(0, .inr (.inr (.inr (7, [.inr (.inl 1), .inr (.inl 2), .inl (some 18, 0), .inr (.inl 3), .inr (.inl 4), .inl (some 19, 0), .inr (.inl 5), .inr (.inl 6), .inr (.inl 7), .inr (.inl 8), .inl (some 4, 0), .inr (.inl 9), .inr (.inl 10), .inl (some 5, 0), .inr (.inl 11), .inr (.inl 12), .inr (.inl 13), .inl (some 6, 0), .inr (.inl 14), .inr (.inl 15), .inr (.inl 16), .inl (some 20, 0), .inl (some 4, 0), .inr (.inl 17), .inr (.inl 18), .inl (some 21, 0), .inl (some 22, 0), .inr (.inl 19), .inr (.inl 20), .inr (.inl 21), .inr (.inl 22), .inr (.inl 23), .inr (.inl 24), .inr (.inl 25), .inl (some 7, 0), .inr (.inl 26), .inr (.inl 27), .inr (.inl 28), .inr (.inl 29), .inr (.inl 30), .inr (.inl 31), .inr (.inl 32), .inr (.inl 33), .inr (.inl 34), .inl (some 12, 0)]))))]), [0, 1, 2, 35, 36, 37, 38, 39, 40, 9, 10, 11, 12, 13, 14, 15, 16, 41, 42, 43, 44, 45, 46, 47, 48, 25, 26, 27, 28, 49, 30, 31, 32, 33, 34], 50, [(105, [(some 4, 0)], [9, 10, 41, 42]), (207, [(some 16, 0), (some 17, 0), (some 15, 0), (some 13, 0), (some 14, 0), (some 7, 0), (some 18, 0), (some 19, 0), (some 4, 0), (some 5, 0), (some 6, 0)], [1, 2, 35, 36, 37, 38, 39, 40, 41, 42, 11, 12, 13, 14, 15, 16, 26, 27, 28, 49, 46]), (0, [(some 20, 0), (some 19, 0)], []), (0, [(some 21, 0), (none, 0)], []), (0, [(some 22, 0), (none, 0)], []), (0, [(some 4, 0), (some 4, 0)], []), (3, [(none, 9), (some 16, 0)], []), (3, [(none, 24), (some 17, 0)], [])], [(true, (none, 1)), (true, (some 16, 0)), (true, (none, 1)), (true, (some 17, 0))])]
def w_sizesBy_0_0 : VC := ((bY ++ [(0, 7), (0, 8), (0, 10), (0, 11), ((-2147483648), 2147483647), ((-2147483648), 2147483647), (0, 9)]), [(20, [(some 19, 0), (some 13, 0)], [36]), (106, [(some 14, 0), (some 15, 0)], [1, 2, 35, 36, 37, 38, 39, 40]), (105, [(some 4, 0)], [9, 10, 41, 42]), (0, [(some 16, 0), (some 15, 0)], []), (0, [(some 4, 0), (some 4, 0)], []), (0, [(some 17, 0), (none, 0)], []), (0, [(some 18, 0), (none, 0)], []), (78, [], [1])], (206, [(none, 0), (none, 0), (some 13, 0), (some 19, 0), (some 7, 0), (some 14, 0), (some 15, 0), (some 4, 0), (some 5, 0), (some 6, 0)], [1, 2, 35, 36, 37, 38, 39, 40, 41, 42, 11, 12, 13, 14, 15, 16, 26, 27, 28, 29]))
set_option maxRecDepth 20000 in
theorem v_sizesBy_0_0 {PT : PTy} (hp : HP17 PT) : vcOk PT w_sizesBy_0_0 := vc_of (fun ρ α hB hF => by
  obtain ⟨f0, f1, f2, f3, f4, f5, f6, f7, -⟩ := hF
  have e78 : PT 78 = P_ly := hp.1.1.1.1.1.1.1.1.1.1.1.1.1.1.1.2.2.2.2.2.2.2.1
  have e105 : PT 105 = P_cp2 := hp.1.1.1.1.1.1.1.1.1.1.1.1.2.2.2.2.2.2.2.2.2.2.2.1
  have e106 : PT 106 = P_rd := hp.1.1.1.1.1.1.1.1.1.1.1.1.2.2.2.2.2.2.2.2.2.2.2.2.1
  have e206 : PT 206 = P_wyS := hp.2.1
  simp only [hF0, hF20, hFp_78, hFp_105, hFp_106, hFp_206, e78, e105, e106, e206, P_ly, P_cp2, P_rd, P_wyS, den_s, den_c, Int.add_zero, List.map_cons, List.map_nil] at f0 f1 f2 f3 f4 f5 f6 f7 ⊢
  have b4 : (0 : Int) ≤ ρ 4 ∧ ρ 4 ≤ 8 := hB 4 (0, 8) rfl
  have b5 : (0 : Int) ≤ ρ 5 ∧ ρ 5 ≤ 6 := hB 5 (0, 6) rfl
  have b6 : (0 : Int) ≤ ρ 6 ∧ ρ 6 ≤ 6 := hB 6 (0, 6) rfl
  have b7 : (0 : Int) ≤ ρ 7 ∧ ρ 7 ≤ 8 := hB 7 (0, 8) rfl
  have b13 : (0 : Int) ≤ ρ 13 ∧ ρ 13 ≤ 7 := hB 13 (0, 7) rfl
  have b14 : (0 : Int) ≤ ρ 14 ∧ ρ 14 ≤ 8 := hB 14 (0, 8) rfl
  have b15 : (0 : Int) ≤ ρ 15 ∧ ρ 15 ≤ 10 := hB 15 (0, 10) rfl
  have b16 : (0 : Int) ≤ ρ 16 ∧ ρ 16 ≤ 11 := hB 16 (0, 11) rfl
  have b17 : ((-2147483648) : Int) ≤ ρ 17 ∧ ρ 17 ≤ 2147483647 := hB 17 ((-2147483648), 2147483647) rfl
  have b18 : ((-2147483648) : Int) ≤ ρ 18 ∧ ρ 18 ≤ 2147483647 := hB 18 ((-2147483648), 2147483647) rfl
  have b19 : (0 : Int) ≤ ρ 19 ∧ ρ 19 ≤ 9 := hB 19 (0, 9) rfl
  clear hB
  generalize ρ 4 = r4, ρ 5 = r5, ρ 6 = r6, ρ 7 = r7, ρ 13 = r13, ρ 14 = r14, ρ 15 = r15, ρ 16 = r16, ρ 17 = r17, ρ 18 = r18, ρ 19 = r19, α 1 = a1, α 2 = a2, α 9 = a9, α 10 = a10, α 11 = a11, α 12 = a12, α 13 = a13, α 14 = a14, α 15 = a15, α 16 = a16, α 26 = a26, α 27 = a27, α 28 = a28, α 29 = a29, α 35 = a35, α 36 = a36, α 37 = a37, α 38 = a38, α 39 = a39, α 40 = a40, α 41 = a41, α 42 = a42 at *
  subst f0
  obtain ⟨a, b, h1, h2⟩ := f1
  exact ⟨a, b, _, h1, h2, fun q _ => rfl, rfl, obB_z, fun v d h1 h2 => by exfalso; omega⟩)
def w_sizesBy_0_1 : VC := ((bY ++ [(0, 7), (0, 8), (0, 10), (0, 11), ((-2147483648), 2147483647), ((-2147483648), 2147483647), (0, 9)]), [(20, [(some 19, 0), (some 13, 0)], [36]), (106, [(some 14, 0), (some 15, 0)], [1, 2, 35, 36, 37, 38, 39, 40]), (105, [(some 4, 0)], [9, 10, 41, 42]), (0, [(some 16, 0), (some 15, 0)], []), (0, [(some 4, 0), (some 4, 0)], []), (0, [(some 17, 0), (none, 0)], []), (0, [(some 18, 0), (none, 0)], []), (78, [], [1])], (3, [(none, 10), (none, 0)], []))
theorem v_sizesBy_0_1 {PT : PTy} (_ : HP17 PT) : vcOk PT w_sizesBy_0_1 := vc_of (fun ρ α _ _ => by simp only [hF3, den_c] <;> omega)
def w_sizesBy_1_0 : VC := ((bY ++ [(0, 7), (0, 9), ((-2147483648), 2147483647), (10, 10), (0, 8), (0, 10), (0, 11), ((-2147483648), 2147483647), ((-2147483648), 2147483647)]), [(21, [(some 13, 0), (some 14, 0)], [50, 36]), (3, [(some 16, 0), (none, 10)], []), (105, [(some 4, 0)], [9, 10, 41, 42]), (206, [(some 16, 0), (some 15, 0), (some 13, 0), (some 14, 0), (some 7, 0), (some 17, 0), (some 18, 0), (some 4, 0), (some 5, 0), (some 6, 0)], [1, 2, 35, 36, 37, 38, 39, 40, 41, 42, 11, 12, 13, 14, 15, 16, 26, 27, 28, 49]), (0, [(some 19, 0), (some 18, 0)], []), (0, [(some 20, 0), (none, 0)], []), (0, [(some 21, 0), (none, 0)], []), (0, [(some 4, 0), (some 4, 0)], []), (3, [(none, 10), (some 16, 0)], []), (78, [], [1])], (208, [(some 15, 0), (some 13, 0), (some 7, 0), (some 17, 0), (some 18, 0), (some 4, 0), (some 5, 0), (some 6, 0)], [1, 2, 35, 50, 37, 38, 39, 40, 41, 42, 9, 10, 11, 12, 13, 14, 15, 16, 26, 27, 28, 49]))
set_option maxRecDepth 20000 in
theorem v_sizesBy_1_0 {PT : PTy} (hp : HP17 PT) : vcOk PT w_sizesBy_1_0 := vc_of (fun ρ α hB hF => by
  obtain ⟨f0, -, f2, f3, f4, f5, f6, f7, -, f9, -⟩ := hF
  have e78 : PT 78 = P_ly := hp.1.1.1.1.1.1.1.1.1.1.1.1.1.1.1.2.2.2.2.2.2.2.1
  have e105 : PT 105 = P_cp2 := hp.1.1.1.1.1.1.1.1.1.1.1.1.2.2.2.2.2.2.2.2.2.2.2.1
  have e206 : PT 206 = P_wyS := hp.2.1
  have e208 : PT 208 = P_szP := hp.2.2.2.1
  simp only [hF0, hF21, hFp_78, hFp_105, hFp_206, hFp_208, e78, e105, e206, e208, P_ly, P_cp2, P_wyS, P_szP, den_s, den_c, Int.add_zero, List.map_cons, List.map_nil] at f0 f2 f3 f4 f5 f6 f7 f9 ⊢
  have b4 : (0 : Int) ≤ ρ 4 ∧ ρ 4 ≤ 8 := hB 4 (0, 8) rfl
  have b5 : (0 : Int) ≤ ρ 5 ∧ ρ 5 ≤ 6 := hB 5 (0, 6) rfl
  have b6 : (0 : Int) ≤ ρ 6 ∧ ρ 6 ≤ 6 := hB 6 (0, 6) rfl
  have b7 : (0 : Int) ≤ ρ 7 ∧ ρ 7 ≤ 8 := hB 7 (0, 8) rfl
  have b13 : (0 : Int) ≤ ρ 13 ∧ ρ 13 ≤ 7 := hB 13 (0, 7) rfl
  have b14 : (0 : Int) ≤ ρ 14 ∧ ρ 14 ≤ 9 := hB 14 (0, 9) rfl
  have b15 : ((-2147483648) : Int) ≤ ρ 15 ∧ ρ 15 ≤ 2147483647 := hB 15 ((-2147483648), 2147483647) rfl
  have b16 : (10 : Int) ≤ ρ 16 ∧ ρ 16 ≤ 10 := hB 16 (10, 10) rfl
  have b17 : (0 : Int) ≤ ρ 17 ∧ ρ 17 ≤ 8 := hB 17 (0, 8) rfl
  have b18 : (0 : Int) ≤ ρ 18 ∧ ρ 18 ≤ 10 := hB 18 (0, 10) rfl
  have b19 : (0 : Int) ≤ ρ 19 ∧ ρ 19 ≤ 11 := hB 19 (0, 11) rfl
  have b20 : ((-2147483648) : Int) ≤ ρ 20 ∧ ρ 20 ≤ 2147483647 := hB 20 ((-2147483648), 2147483647) rfl
  have b21 : ((-2147483648) : Int) ≤ ρ 21 ∧ ρ 21 ≤ 2147483647 := hB 21 ((-2147483648), 2147483647) rfl
  clear hB
  generalize ρ 4 = r4, ρ 5 = r5, ρ 6 = r6, ρ 7 = r7, ρ 13 = r13, ρ 14 = r14, ρ 15 = r15, ρ 16 = r16, ρ 17 = r17, ρ 18 = r18, ρ 19 = r19, ρ 20 = r20, ρ 21 = r21, α 1 = a1, α 2 = a2, α 9 = a9, α 10 = a10, α 11 = a11, α 12 = a12, α 13 = a13, α 14 = a14, α 15 = a15, α 16 = a16, α 26 = a26, α 27 = a27, α 28 = a28, α 35 = a35, α 36 = a36, α 37 = a37, α 38 = a38, α 39 = a39, α 40 = a40, α 41 = a41, α 42 = a42, α 49 = a49, α 50 = a50 at *
  subst f0
  obtain ⟨a, b', sz, i1, i2, i3, i4, i5, i6⟩ := f3
  rw [show r16 = 10 by omega] at i5 i6
  have eb : updI a36 r13 r14 = sz := by rw [i4]; exact upd_bk i3
  rw [eb]
  exact ⟨⟨⟨a, b', i1, i2⟩, f2⟩, i5, i6⟩)
def w_sizesBy_1_1 : VC := ((bY ++ [(0, 7), (0, 9), ((-2147483648), 2147483647), (0, 9), (0, 8), (0, 10), (0, 11), ((-2147483648), 2147483647), ((-2147483648), 2147483647), (0, 0), ((-2147483648), 2147483647)]), [(11, [(some 23, 0), (some 15, 0), (none, 0)], []), (0, [(some 22, 0), (none, 0)], []), (104, [(none, 24), (some 17, 0), (some 19, 0), (some 18, 0), (some 4, 0), (some 5, 0), (some 6, 0), (some 20, 0), (some 21, 0)], [35, 50, 37, 38, 39, 40, 41, 42, 11, 12, 13, 14, 15, 16, 43, 44, 45, 51, 52, 53, 54, 55, 56]), (200, [(some 22, 0), (some 7, 0), (some 17, 0)], [26, 27, 28, 54]), (21, [(some 13, 0), (some 16, 0)], [50, 36]), (2, [(some 16, 0), (none, 10)], []), (105, [(some 4, 0)], [9, 10, 41, 42]), (206, [(some 16, 0), (some 15, 0), (some 13, 0), (some 14, 0), (some 7, 0), (some 17, 0), (some 18, 0), (some 4, 0), (some 5, 0), (some 6, 0)], [1, 2, 35, 36, 37, 38, 39, 40, 41, 42, 11, 12, 13, 14, 15, 16, 26, 27, 28, 49]), (0, [(some 19, 0), (some 18, 0)], []), (0, [(some 20, 0), (none, 0)], []), (0, [(some 21, 0), (none, 0)], []), (0, [(some 4, 0), (some 4, 0)], []), (3, [(none, 10), (some 16, 0)], []), (78, [], [1])], (207, [(some 16, 0), (none, 0), (some 23, 0), (some 13, 0), (some 14, 0), (some 7, 0), (some 17, 0), (some 18, 0), (some 4, 0), (some 5, 0), (some 6, 0)], [1, 2, 35, 50, 37, 38, 39, 40, 41, 42, 11, 12, 13, 14, 15, 16, 26, 27, 28, 49, 54]))
set_option maxRecDepth 20000 in
theorem v_sizesBy_1_1 {PT : PTy} (hp : HP17 PT) : vcOk PT w_sizesBy_1_1 := vc_of (fun ρ α hB hF => by
  obtain ⟨f0, f1, f2, f3, f4, -, f6, f7, f8, f9, f10, f11, -, f13, -⟩ := hF
  have e78 : PT 78 = P_ly := hp.1.1.1.1.1.1.1.1.1.1.1.1.1.1.1.2.2.2.2.2.2.2.1
  have e104 : PT 104 = P_ru := hp.1.1.1.1.1.1.1.1.1.1.1.1.2.2.2.2.2.2.2.2.2.2.1
  have e105 : PT 105 = P_cp2 := hp.1.1.1.1.1.1.1.1.1.1.1.1.2.2.2.2.2.2.2.2.2.2.2.1
  have e200 : PT 200 = P_sy := hp.1.1.2.2.2.2.2.2.2.1
  have e206 : PT 206 = P_wyS := hp.2.1
  have e207 : PT 207 = P_wyT := hp.2.2.1
  simp only [hF0, hF11, hF21, hFp_78, hFp_104, hFp_105, hFp_200, hFp_206, hFp_207, e78, e104, e105, e200, e206, e207, P_ly, P_ru, P_cp2, P_sy, P_wyS, P_wyT, den_s, den_c, Int.add_zero, List.map_cons, List.map_nil] at f0 f1 f2 f3 f4 f6 f7 f8 f9 f10 f11 f13 ⊢
  have b4 : (0 : Int) ≤ ρ 4 ∧ ρ 4 ≤ 8 := hB 4 (0, 8) rfl
  have b5 : (0 : Int) ≤ ρ 5 ∧ ρ 5 ≤ 6 := hB 5 (0, 6) rfl
  have b6 : (0 : Int) ≤ ρ 6 ∧ ρ 6 ≤ 6 := hB 6 (0, 6) rfl
  have b7 : (0 : Int) ≤ ρ 7 ∧ ρ 7 ≤ 8 := hB 7 (0, 8) rfl
  have b13 : (0 : Int) ≤ ρ 13 ∧ ρ 13 ≤ 7 := hB 13 (0, 7) rfl
  have b14 : (0 : Int) ≤ ρ 14 ∧ ρ 14 ≤ 9 := hB 14 (0, 9) rfl
  have b15 : ((-2147483648) : Int) ≤ ρ 15 ∧ ρ 15 ≤ 2147483647 := hB 15 ((-2147483648), 2147483647) rfl
  have b16 : (0 : Int) ≤ ρ 16 ∧ ρ 16 ≤ 9 := hB 16 (0, 9) rfl
  have b17 : (0 : Int) ≤ ρ 17 ∧ ρ 17 ≤ 8 := hB 17 (0, 8) rfl
  have b18 : (0 : Int) ≤ ρ 18 ∧ ρ 18 ≤ 10 := hB 18 (0, 10) rfl
  have b19 : (0 : Int) ≤ ρ 19 ∧ ρ 19 ≤ 11 := hB 19 (0, 11) rfl
  have b20 : ((-2147483648) : Int) ≤ ρ 20 ∧ ρ 20 ≤ 2147483647 := hB 20 ((-2147483648), 2147483647) rfl
  have b21 : ((-2147483648) : Int) ≤ ρ 21 ∧ ρ 21 ≤ 2147483647 := hB 21 ((-2147483648), 2147483647) rfl
  have b22 : (0 : Int) ≤ ρ 22 ∧ ρ 22 ≤ 0 := hB 22 (0, 0) rfl
  have b23 : ((-2147483648) : Int) ≤ ρ 23 ∧ ρ 23 ≤ 2147483647 := hB 23 ((-2147483648), 2147483647) rfl
  clear hB
  generalize ρ 4 = r4, ρ 5 = r5, ρ 6 = r6, ρ 7 = r7, ρ 13 = r13, ρ 14 = r14, ρ 15 = r15, ρ 16 = r16, ρ 17 = r17, ρ 18 = r18, ρ 19 = r19, ρ 20 = r20, ρ 21 = r21, ρ 22 = r22, ρ 23 = r23, α 1 = a1, α 2 = a2, α 9 = a9, α 10 = a10, α 11 = a11, α 12 = a12, α 13 = a13, α 14 = a14, α 15 = a15, α 16 = a16, α 26 = a26, α 27 = a27, α 28 = a28, α 35 = a35, α 36 = a36, α 37 = a37, α 38 = a38, α 39 = a39, α 40 = a40, α 41 = a41, α 42 = a42, α 43 = a43, α 44 = a44, α 45 = a45, α 49 = a49, α 50 = a50, α 51 = a51, α 52 = a52, α 53 = a53, α 54 = a54, α 55 = a55, α 56 = a56 at *
  subst f0
  subst f4
  obtain ⟨h1, h2⟩ := f2
  have e1 : r19 = r18 := by omega
  have e2 : r20 = 0 := by omega
  have e3 : r21 = 0 := by omega
  have e4 : r4 = r4 := by omega
  rw [e1, e2, e3, e4] at h1 h2
  obtain ⟨a, b', sz, i1, i2, i3, i4, i5, i6⟩ := f7
  have hs := f3
  first
    | exact ⟨a, b', sz, i1, i2, fun q hq => by rw [updI_ne hq]; exact i3 q hq, updI_at _ _ _, i4, obB_s i5 (by omega) ⟨_, fun q hq => by rw [updI_ne hq]; exact i3 q hq, updI_at _ _ _, _, _, _, _, _, _, ⟨_, _, _, h1, h2⟩, hs⟩ (by rw [if_pos (by omega)]), i6, ⟨_, _, _, _, _, _, _, _, h1, h2⟩, fun e e1 e2 => by exfalso; omega⟩
    | exact ⟨a, b', sz, i1, i2, fun q hq => by rw [updI_ne hq]; exact i3 q hq, updI_at _ _ _, i4, obB_s i5 (by omega) ⟨_, fun q hq => by rw [updI_ne hq]; exact i3 q hq, updI_at _ _ _, _, _, _, _, _, _, ⟨_, _, _, h1, h2⟩, hs⟩ (by rw [if_neg (by omega)]; exact mOr_0 (by omega) (by omega)), i6, ⟨_, _, _, _, _, _, _, _, h1, h2⟩, fun e e1 e2 => by exfalso; omega⟩)
def w_sizesBy_1_2 : VC := ((bY ++ [(0, 7), (0, 9), ((-2147483648), 2147483647), (0, 9), (0, 8), (0, 10), (0, 11), ((-2147483648), 2147483647), ((-2147483648), 2147483647), (0, 0), ((-2147483648), 2147483647)]), [(11, [(some 23, 0), (some 15, 0), (none, 0)], []), (0, [(some 22, 0), (none, 0)], []), (104, [(none, 24), (some 17, 0), (some 19, 0), (some 18, 0), (some 4, 0), (some 5, 0), (some 6, 0), (some 20, 0), (some 21, 0)], [35, 50, 37, 38, 39, 40, 41, 42, 11, 12, 13, 14, 15, 16, 43, 44, 45, 51, 52, 53, 54, 55, 56]), (200, [(some 22, 0), (some 7, 0), (some 17, 0)], [26, 27, 28, 54]), (21, [(some 13, 0), (some 16, 0)], [50, 36]), (2, [(some 16, 0), (none, 10)], []), (105, [(some 4, 0)], [9, 10, 41, 42]), (206, [(some 16, 0), (some 15, 0), (some 13, 0), (some 14, 0), (some 7, 0), (some 17, 0), (some 18, 0), (some 4, 0), (some 5, 0), (some 6, 0)], [1, 2, 35, 36, 37, 38, 39, 40, 41, 42, 11, 12, 13, 14, 15, 16, 26, 27, 28, 49]), (0, [(some 19, 0), (some 18, 0)], []), (0, [(some 20, 0), (none, 0)], []), (0, [(some 21, 0), (none, 0)], []), (0, [(some 4, 0), (some 4, 0)], []), (3, [(none, 10), (some 16, 0)], []), (78, [], [1])], (3, [(none, 9), (some 16, 0)], []))
set_option maxRecDepth 20000 in
theorem v_sizesBy_1_2 {PT : PTy} (hp : HP17 PT) : vcOk PT w_sizesBy_1_2 := vc_of (fun ρ α hB hF => by
  obtain ⟨f0, f1, f2, f3, f4, -, f6, f7, f8, f9, f10, f11, -, f13, -⟩ := hF
  have e78 : PT 78 = P_ly := hp.1.1.1.1.1.1.1.1.1.1.1.1.1.1.1.2.2.2.2.2.2.2.1
  have e104 : PT 104 = P_ru := hp.1.1.1.1.1.1.1.1.1.1.1.1.2.2.2.2.2.2.2.2.2.2.1
  have e105 : PT 105 = P_cp2 := hp.1.1.1.1.1.1.1.1.1.1.1.1.2.2.2.2.2.2.2.2.2.2.2.1
  have e200 : PT 200 = P_sy := hp.1.1.2.2.2.2.2.2.2.1
  have e206 : PT 206 = P_wyS := hp.2.1
  simp only [hF0, hF3, hF11, hF21, hFp_78, hFp_104, hFp_105, hFp_200, hFp_206, e78, e104, e105, e200, e206, P_ly, P_ru, P_cp2, P_sy, P_wyS, den_s, den_c, Int.add_zero, List.map_cons, List.map_nil] at f0 f1 f2 f3 f4 f6 f7 f8 f9 f10 f11 f13 ⊢
  have b4 : (0 : Int) ≤ ρ 4 ∧ ρ 4 ≤ 8 := hB 4 (0, 8) rfl
  have b5 : (0 : Int) ≤ ρ 5 ∧ ρ 5 ≤ 6 := hB 5 (0, 6) rfl
  have b6 : (0 : Int) ≤ ρ 6 ∧ ρ 6 ≤ 6 := hB 6 (0, 6) rfl
  have b7 : (0 : Int) ≤ ρ 7 ∧ ρ 7 ≤ 8 := hB 7 (0, 8) rfl
  have b13 : (0 : Int) ≤ ρ 13 ∧ ρ 13 ≤ 7 := hB 13 (0, 7) rfl
  have b14 : (0 : Int) ≤ ρ 14 ∧ ρ 14 ≤ 9 := hB 14 (0, 9) rfl
  have b15 : ((-2147483648) : Int) ≤ ρ 15 ∧ ρ 15 ≤ 2147483647 := hB 15 ((-2147483648), 2147483647) rfl
  have b16 : (0 : Int) ≤ ρ 16 ∧ ρ 16 ≤ 9 := hB 16 (0, 9) rfl
  have b17 : (0 : Int) ≤ ρ 17 ∧ ρ 17 ≤ 8 := hB 17 (0, 8) rfl
  have b18 : (0 : Int) ≤ ρ 18 ∧ ρ 18 ≤ 10 := hB 18 (0, 10) rfl
  have b19 : (0 : Int) ≤ ρ 19 ∧ ρ 19 ≤ 11 := hB 19 (0, 11) rfl
  have b20 : ((-2147483648) : Int) ≤ ρ 20 ∧ ρ 20 ≤ 2147483647 := hB 20 ((-2147483648), 2147483647) rfl
  have b21 : ((-2147483648) : Int) ≤ ρ 21 ∧ ρ 21 ≤ 2147483647 := hB 21 ((-2147483648), 2147483647) rfl
  have b22 : (0 : Int) ≤ ρ 22 ∧ ρ 22 ≤ 0 := hB 22 (0, 0) rfl
  have b23 : ((-2147483648) : Int) ≤ ρ 23 ∧ ρ 23 ≤ 2147483647 := hB 23 ((-2147483648), 2147483647) rfl
  clear hB
  generalize ρ 4 = r4, ρ 5 = r5, ρ 6 = r6, ρ 7 = r7, ρ 13 = r13, ρ 14 = r14, ρ 15 = r15, ρ 16 = r16, ρ 17 = r17, ρ 18 = r18, ρ 19 = r19, ρ 20 = r20, ρ 21 = r21, ρ 22 = r22, ρ 23 = r23, α 1 = a1, α 2 = a2, α 9 = a9, α 10 = a10, α 11 = a11, α 12 = a12, α 13 = a13, α 14 = a14, α 15 = a15, α 16 = a16, α 26 = a26, α 27 = a27, α 28 = a28, α 35 = a35, α 36 = a36, α 37 = a37, α 38 = a38, α 39 = a39, α 40 = a40, α 41 = a41, α 42 = a42, α 43 = a43, α 44 = a44, α 45 = a45, α 49 = a49, α 50 = a50, α 51 = a51, α 52 = a52, α 53 = a53, α 54 = a54, α 55 = a55, α 56 = a56 at *
  subst f0
  subst f4
  omega)
def w_sizesBy_1_3 : VC := ((bY ++ [(0, 7), (0, 9), ((-2147483648), 2147483647), (0, 9), (0, 8), (0, 10), (0, 11), ((-2147483648), 2147483647), ((-2147483648), 2147483647), (0, 0), ((-2147483648), 2147483647)]), [(11, [(some 23, 0), (some 15, 0), (none, 0)], []), (0, [(some 22, 0), (none, 0)], []), (104, [(none, 24), (some 17, 0), (some 19, 0), (some 18, 0), (some 4, 0), (some 5, 0), (some 6, 0), (some 20, 0), (some 21, 0)], [35, 50, 37, 38, 39, 40, 41, 42, 11, 12, 13, 14, 15, 16, 43, 44, 45, 51, 52, 53, 54, 55, 56]), (200, [(some 22, 0), (some 7, 0), (some 17, 0)], [26, 27, 28, 54]), (21, [(some 13, 0), (some 16, 0)], [50, 36]), (2, [(some 16, 0), (none, 10)], []), (105, [(some 4, 0)], [9, 10, 41, 42]), (206, [(some 16, 0), (some 15, 0), (some 13, 0), (some 14, 0), (some 7, 0), (some 17, 0), (some 18, 0), (some 4, 0), (some 5, 0), (some 6, 0)], [1, 2, 35, 36, 37, 38, 39, 40, 41, 42, 11, 12, 13, 14, 15, 16, 26, 27, 28, 49]), (0, [(some 19, 0), (some 18, 0)], []), (0, [(some 20, 0), (none, 0)], []), (0, [(some 21, 0), (none, 0)], []), (0, [(some 4, 0), (some 4, 0)], []), (3, [(none, 10), (some 16, 0)], []), (78, [], [1])], (3, [(none, 24), (none, 0)], []))
theorem v_sizesBy_1_3 {PT : PTy} (_ : HP17 PT) : vcOk PT w_sizesBy_1_3 := vc_of (fun ρ α _ _ => by simp only [hF3, den_c] <;> omega)
def w_sizesBy_1_4 : VC := ((bY ++ [(0, 7), (0, 9), ((-2147483648), 2147483647), (0, 9), (0, 8), (0, 10), (0, 11), ((-2147483648), 2147483647), ((-2147483648), 2147483647), (1, 1), (1, 512), ((-2147483648), 2147483647)]), [(11, [(some 24, 0), (some 15, 0), (some 23, 0)], []), (13, [(some 23, 0), (none, 1), (some 16, 0)], []), (1, [(some 22, 0), (none, 0)], []), (104, [(none, 24), (some 17, 0), (some 19, 0), (some 18, 0), (some 4, 0), (some 5, 0), (some 6, 0), (some 20, 0), (some 21, 0)], [35, 50, 37, 38, 39, 40, 41, 42, 11, 12, 13, 14, 15, 16, 43, 44, 45, 51, 52, 53, 54, 55, 56]), (200, [(some 22, 0), (some 7, 0), (some 17, 0)], [26, 27, 28, 54]), (21, [(some 13, 0), (some 16, 0)], [50, 36]), (2, [(some 16, 0), (none, 10)], []), (105, [(some 4, 0)], [9, 10, 41, 42]), (206, [(some 16, 0), (some 15, 0), (some 13, 0), (some 14, 0), (some 7, 0), (some 17, 0), (some 18, 0), (some 4, 0), (some 5, 0), (some 6, 0)], [1, 2, 35, 36, 37, 38, 39, 40, 41, 42, 11, 12, 13, 14, 15, 16, 26, 27, 28, 49]), (0, [(some 19, 0), (some 18, 0)], []), (0, [(some 20, 0), (none, 0)], []), (0, [(some 21, 0), (none, 0)], []), (0, [(some 4, 0), (some 4, 0)], []), (3, [(none, 10), (some 16, 0)], []), (78, [], [1])], (207, [(some 16, 0), (none, 0), (some 24, 0), (some 13, 0), (some 14, 0), (some 7, 0), (some 17, 0), (some 18, 0), (some 4, 0), (some 5, 0), (some 6, 0)], [1, 2, 35, 50, 37, 38, 39, 40, 41, 42, 11, 12, 13, 14, 15, 16, 26, 27, 28, 49, 54]))
set_option maxRecDepth 20000 in
theorem v_sizesBy_1_4 {PT : PTy} (hp : HP17 PT) : vcOk PT w_sizesBy_1_4 := vc_of (fun ρ α hB hF => by
  obtain ⟨f0, f1, -, f3, f4, f5, -, f7, f8, f9, f10, f11, f12, -, f14, -⟩ := hF
  have e78 : PT 78 = P_ly := hp.1.1.1.1.1.1.1.1.1.1.1.1.1.1.1.2.2.2.2.2.2.2.1
  have e104 : PT 104 = P_ru := hp.1.1.1.1.1.1.1.1.1.1.1.1.2.2.2.2.2.2.2.2.2.2.1
  have e105 : PT 105 = P_cp2 := hp.1.1.1.1.1.1.1.1.1.1.1.1.2.2.2.2.2.2.2.2.2.2.2.1
  have e200 : PT 200 = P_sy := hp.1.1.2.2.2.2.2.2.2.1
  have e206 : PT 206 = P_wyS := hp.2.1
  have e207 : PT 207 = P_wyT := hp.2.2.1
  simp only [hF0, hF11, hF13, hF21, hFp_78, hFp_104, hFp_105, hFp_200, hFp_206, hFp_207, e78, e104, e105, e200, e206, e207, P_ly, P_ru, P_cp2, P_sy, P_wyS, P_wyT, den_s, den_c, Int.add_zero, List.map_cons, List.map_nil] at f0 f1 f3 f4 f5 f7 f8 f9 f10 f11 f12 f14 ⊢
  have b4 : (0 : Int) ≤ ρ 4 ∧ ρ 4 ≤ 8 := hB 4 (0, 8) rfl
  have b5 : (0 : Int) ≤ ρ 5 ∧ ρ 5 ≤ 6 := hB 5 (0, 6) rfl
  have b6 : (0 : Int) ≤ ρ 6 ∧ ρ 6 ≤ 6 := hB 6 (0, 6) rfl
  have b7 : (0 : Int) ≤ ρ 7 ∧ ρ 7 ≤ 8 := hB 7 (0, 8) rfl
  have b13 : (0 : Int) ≤ ρ 13 ∧ ρ 13 ≤ 7 := hB 13 (0, 7) rfl
  have b14 : (0 : Int) ≤ ρ 14 ∧ ρ 14 ≤ 9 := hB 14 (0, 9) rfl
  have b15 : ((-2147483648) : Int) ≤ ρ 15 ∧ ρ 15 ≤ 2147483647 := hB 15 ((-2147483648), 2147483647) rfl
  have b16 : (0 : Int) ≤ ρ 16 ∧ ρ 16 ≤ 9 := hB 16 (0, 9) rfl
  have b17 : (0 : Int) ≤ ρ 17 ∧ ρ 17 ≤ 8 := hB 17 (0, 8) rfl
  have b18 : (0 : Int) ≤ ρ 18 ∧ ρ 18 ≤ 10 := hB 18 (0, 10) rfl
  have b19 : (0 : Int) ≤ ρ 19 ∧ ρ 19 ≤ 11 := hB 19 (0, 11) rfl
  have b20 : ((-2147483648) : Int) ≤ ρ 20 ∧ ρ 20 ≤ 2147483647 := hB 20 ((-2147483648), 2147483647) rfl
  have b21 : ((-2147483648) : Int) ≤ ρ 21 ∧ ρ 21 ≤ 2147483647 := hB 21 ((-2147483648), 2147483647) rfl
  have b22 : (1 : Int) ≤ ρ 22 ∧ ρ 22 ≤ 1 := hB 22 (1, 1) rfl
  have b23 : (1 : Int) ≤ ρ 23 ∧ ρ 23 ≤ 512 := hB 23 (1, 512) rfl
  have b24 : ((-2147483648) : Int) ≤ ρ 24 ∧ ρ 24 ≤ 2147483647 := hB 24 ((-2147483648), 2147483647) rfl
  clear hB
  generalize ρ 4 = r4, ρ 5 = r5, ρ 6 = r6, ρ 7 = r7, ρ 13 = r13, ρ 14 = r14, ρ 15 = r15, ρ 16 = r16, ρ 17 = r17, ρ 18 = r18, ρ 19 = r19, ρ 20 = r20, ρ 21 = r21, ρ 22 = r22, ρ 23 = r23, ρ 24 = r24, α 1 = a1, α 2 = a2, α 9 = a9, α 10 = a10, α 11 = a11, α 12 = a12, α 13 = a13, α 14 = a14, α 15 = a15, α 16 = a16, α 26 = a26, α 27 = a27, α 28 = a28, α 35 = a35, α 36 = a36, α 37 = a37, α 38 = a38, α 39 = a39, α 40 = a40, α 41 = a41, α 42 = a42, α 43 = a43, α 44 = a44, α 45 = a45, α 49 = a49, α 50 = a50, α 51 = a51, α 52 = a52, α 53 = a53, α 54 = a54, α 55 = a55, α 56 = a56 at *
  subst f0
  subst f1
  subst f5
  obtain ⟨h1, h2⟩ := f3
  have e1 : r19 = r18 := by omega
  have e2 : r20 = 0 := by omega
  have e3 : r21 = 0 := by omega
  have e4 : r4 = r4 := by omega
  rw [e1, e2, e3, e4] at h1 h2
  obtain ⟨a, b', sz, i1, i2, i3, i4, i5, i6⟩ := f8
  have hs := f4
  first
    | exact ⟨a, b', sz, i1, i2, fun q hq => by rw [updI_ne hq]; exact i3 q hq, updI_at _ _ _, i4, obB_s i5 (by omega) ⟨_, fun q hq => by rw [updI_ne hq]; exact i3 q hq, updI_at _ _ _, _, _, _, _, _, _, ⟨_, _, _, h1, h2⟩, hs⟩ (by rw [if_pos (by omega)]), i6, ⟨_, _, _, _, _, _, _, _, h1, h2⟩, fun e e1 e2 => by exfalso; omega⟩
    | exact ⟨a, b', sz, i1, i2, fun q hq => by rw [updI_ne hq]; exact i3 q hq, updI_at _ _ _, i4, obB_s i5 (by omega) ⟨_, fun q hq => by rw [updI_ne hq]; exact i3 q hq, updI_at _ _ _, _, _, _, _, _, _, ⟨_, _, _, h1, h2⟩, hs⟩ (by rw [if_neg (by omega)]; exact mOr_0 (by omega) (by omega)), i6, ⟨_, _, _, _, _, _, _, _, h1, h2⟩, fun e e1 e2 => by exfalso; omega⟩)
def w_sizesBy_1_5 : VC := ((bY ++ [(0, 7), (0, 9), ((-2147483648), 2147483647), (0, 9), (0, 8), (0, 10), (0, 11), ((-2147483648), 2147483647), ((-2147483648), 2147483647), (1, 1), (1, 512), ((-2147483648), 2147483647)]), [(11, [(some 24, 0), (some 15, 0), (some 23, 0)], []), (13, [(some 23, 0), (none, 1), (some 16, 0)], []), (1, [(some 22, 0), (none, 0)], []), (104, [(none, 24), (some 17, 0), (some 19, 0), (some 18, 0), (some 4, 0), (some 5, 0), (some 6, 0), (some 20, 0), (some 21, 0)], [35, 50, 37, 38, 39, 40, 41, 42, 11, 12, 13, 14, 15, 16, 43, 44, 45, 51, 52, 53, 54, 55, 56]), (200, [(some 22, 0), (some 7, 0), (some 17, 0)], [26, 27, 28, 54]), (21, [(some 13, 0), (some 16, 0)], [50, 36]), (2, [(some 16, 0), (none, 10)], []), (105, [(some 4, 0)], [9, 10, 41, 42]), (206, [(some 16, 0), (some 15, 0), (some 13, 0), (some 14, 0), (some 7, 0), (some 17, 0), (some 18, 0), (some 4, 0), (some 5, 0), (some 6, 0)], [1, 2, 35, 36, 37, 38, 39, 40, 41, 42, 11, 12, 13, 14, 15, 16, 26, 27, 28, 49]), (0, [(some 19, 0), (some 18, 0)], []), (0, [(some 20, 0), (none, 0)], []), (0, [(some 21, 0), (none, 0)], []), (0, [(some 4, 0), (some 4, 0)], []), (3, [(none, 10), (some 16, 0)], []), (78, [], [1])], (3, [(none, 9), (some 16, 0)], []))
set_option maxRecDepth 20000 in
theorem v_sizesBy_1_5 {PT : PTy} (hp : HP17 PT) : vcOk PT w_sizesBy_1_5 := vc_of (fun ρ α hB hF => by
  obtain ⟨f0, f1, -, f3, f4, f5, -, f7, f8, f9, f10, f11, f12, -, f14, -⟩ := hF
  have e78 : PT 78 = P_ly := hp.1.1.1.1.1.1.1.1.1.1.1.1.1.1.1.2.2.2.2.2.2.2.1
  have e104 : PT 104 = P_ru := hp.1.1.1.1.1.1.1.1.1.1.1.1.2.2.2.2.2.2.2.2.2.2.1
  have e105 : PT 105 = P_cp2 := hp.1.1.1.1.1.1.1.1.1.1.1.1.2.2.2.2.2.2.2.2.2.2.2.1
  have e200 : PT 200 = P_sy := hp.1.1.2.2.2.2.2.2.2.1
  have e206 : PT 206 = P_wyS := hp.2.1
  simp only [hF0, hF3, hF11, hF13, hF21, hFp_78, hFp_104, hFp_105, hFp_200, hFp_206, e78, e104, e105, e200, e206, P_ly, P_ru, P_cp2, P_sy, P_wyS, den_s, den_c, Int.add_zero, List.map_cons, List.map_nil] at f0 f1 f3 f4 f5 f7 f8 f9 f10 f11 f12 f14 ⊢
  have b4 : (0 : Int) ≤ ρ 4 ∧ ρ 4 ≤ 8 := hB 4 (0, 8) rfl
  have b5 : (0 : Int) ≤ ρ 5 ∧ ρ 5 ≤ 6 := hB 5 (0, 6) rfl
  have b6 : (0 : Int) ≤ ρ 6 ∧ ρ 6 ≤ 6 := hB 6 (0, 6) rfl
  have b7 : (0 : Int) ≤ ρ 7 ∧ ρ 7 ≤ 8 := hB 7 (0, 8) rfl
  have b13 : (0 : Int) ≤ ρ 13 ∧ ρ 13 ≤ 7 := hB 13 (0, 7) rfl
  have b14 : (0 : Int) ≤ ρ 14 ∧ ρ 14 ≤ 9 := hB 14 (0, 9) rfl
  have b15 : ((-2147483648) : Int) ≤ ρ 15 ∧ ρ 15 ≤ 2147483647 := hB 15 ((-2147483648), 2147483647) rfl
  have b16 : (0 : Int) ≤ ρ 16 ∧ ρ 16 ≤ 9 := hB 16 (0, 9) rfl
  have b17 : (0 : Int) ≤ ρ 17 ∧ ρ 17 ≤ 8 := hB 17 (0, 8) rfl
  have b18 : (0 : Int) ≤ ρ 18 ∧ ρ 18 ≤ 10 := hB 18 (0, 10) rfl
  have b19 : (0 : Int) ≤ ρ 19 ∧ ρ 19 ≤ 11 := hB 19 (0, 11) rfl
  have b20 : ((-2147483648) : Int) ≤ ρ 20 ∧ ρ 20 ≤ 2147483647 := hB 20 ((-2147483648), 2147483647) rfl
  have b21 : ((-2147483648) : Int) ≤ ρ 21 ∧ ρ 21 ≤ 2147483647 := hB 21 ((-2147483648), 2147483647) rfl
  have b22 : (1 : Int) ≤ ρ 22 ∧ ρ 22 ≤ 1 := hB 22 (1, 1) rfl
  have b23 : (1 : Int) ≤ ρ 23 ∧ ρ 23 ≤ 512 := hB 23 (1, 512) rfl
  have b24 : ((-2147483648) : Int) ≤ ρ 24 ∧ ρ 24 ≤ 2147483647 := hB 24 ((-2147483648), 2147483647) rfl
  clear hB
  generalize ρ 4 = r4, ρ 5 = r5, ρ 6 = r6, ρ 7 = r7, ρ 13 = r13, ρ 14 = r14, ρ 15 = r15, ρ 16 = r16, ρ 17 = r17, ρ 18 = r18, ρ 19 = r19, ρ 20 = r20, ρ 21 = r21, ρ 22 = r22, ρ 23 = r23, ρ 24 = r24, α 1 = a1, α 2 = a2, α 9 = a9, α 10 = a10, α 11 = a11, α 12 = a12, α 13 = a13, α 14 = a14, α 15 = a15, α 16 = a16, α 26 = a26, α 27 = a27, α 28 = a28, α 35 = a35, α 36 = a36, α 37 = a37, α 38 = a38, α 39 = a39, α 40 = a40, α 41 = a41, α 42 = a42, α 43 = a43, α 44 = a44, α 45 = a45, α 49 = a49, α 50 = a50, α 51 = a51, α 52 = a52, α 53 = a53, α 54 = a54, α 55 = a55, α 56 = a56 at *
  subst f0
  subst f1
  subst f5
  omega)
def w_sizesBy_1_6 : VC := ((bY ++ [(0, 7), (0, 9), ((-2147483648), 2147483647), (0, 9), (0, 8), (0, 10), (0, 11), ((-2147483648), 2147483647), ((-2147483648), 2147483647), (1, 1), (1, 512), ((-2147483648), 2147483647)]), [(11, [(some 24, 0), (some 15, 0), (some 23, 0)], []), (13, [(some 23, 0), (none, 1), (some 16, 0)], []), (1, [(some 22, 0), (none, 0)], []), (104, [(none, 24), (some 17, 0), (some 19, 0), (some 18, 0), (some 4, 0), (some 5, 0), (some 6, 0), (some 20, 0), (some 21, 0)], [35, 50, 37, 38, 39, 40, 41, 42, 11, 12, 13, 14, 15, 16, 43, 44, 45, 51, 52, 53, 54, 55, 56]), (200, [(some 22, 0), (some 7, 0), (some 17, 0)], [26, 27, 28, 54]), (21, [(some 13, 0), (some 16, 0)], [50, 36]), (2, [(some 16, 0), (none, 10)], []), (105, [(some 4, 0)], [9, 10, 41, 42]), (206, [(some 16, 0), (some 15, 0), (some 13, 0), (some 14, 0), (some 7, 0), (some 17, 0), (some 18, 0), (some 4, 0), (some 5, 0), (some 6, 0)], [1, 2, 35, 36, 37, 38, 39, 40, 41, 42, 11, 12, 13, 14, 15, 16, 26, 27, 28, 49]), (0, [(some 19, 0), (some 18, 0)], []), (0, [(some 20, 0), (none, 0)], []), (0, [(some 21, 0), (none, 0)], []), (0, [(some 4, 0), (some 4, 0)], []), (3, [(none, 10), (some 16, 0)], []), (78, [], [1])], (3, [(none, 24), (none, 0)], []))
theorem v_sizesBy_1_6 {PT : PTy} (_ : HP17 PT) : vcOk PT w_sizesBy_1_6 := vc_of (fun ρ α _ _ => by simp only [hF3, den_c] <;> omega)
def w_sizesBy_2_0 : VC := ((bY ++ [(0, 7), (0, 9), ((-2147483648), 2147483647), (0, 9), (24, 24), (0, 8), (0, 10), (0, 11), ((-2147483648), 2147483647), ((-2147483648), 2147483647)]), [(3, [(some 17, 0), (none, 24)], []), (105, [(some 4, 0)], [9, 10, 41, 42]), (207, [(some 16, 0), (some 17, 0), (some 15, 0), (some 13, 0), (some 14, 0), (some 7, 0), (some 18, 0), (some 19, 0), (some 4, 0), (some 5, 0), (some 6, 0)], [1, 2, 35, 36, 37, 38, 39, 40, 41, 42, 11, 12, 13, 14, 15, 16, 26, 27, 28, 49, 46]), (0, [(some 20, 0), (some 19, 0)], []), (0, [(some 21, 0), (none, 0)], []), (0, [(some 22, 0), (none, 0)], []), (0, [(some 4, 0), (some 4, 0)], []), (3, [(none, 9), (some 16, 0)], []), (3, [(none, 24), (some 17, 0)], []), (78, [], [1])], (206, [(some 16, 1), (some 15, 0), (some 13, 0), (some 14, 0), (some 7, 0), (some 18, 0), (some 19, 0), (some 4, 0), (some 5, 0), (some 6, 0)], [1, 2, 35, 36, 37, 38, 39, 40, 41, 42, 11, 12, 13, 14, 15, 16, 26, 27, 28, 49]))
set_option maxRecDepth 20000 in
theorem v_sizesBy_2_0 {PT : PTy} (hp : HP17 PT) : vcOk PT w_sizesBy_2_0 := vc_of (fun ρ α hB hF => by
  obtain ⟨-, f1, f2, f3, f4, f5, f6, -, -, f9, -⟩ := hF
  have e78 : PT 78 = P_ly := hp.1.1.1.1.1.1.1.1.1.1.1.1.1.1.1.2.2.2.2.2.2.2.1
  have e105 : PT 105 = P_cp2 := hp.1.1.1.1.1.1.1.1.1.1.1.1.2.2.2.2.2.2.2.2.2.2.2.1
  have e206 : PT 206 = P_wyS := hp.2.1
  have e207 : PT 207 = P_wyT := hp.2.2.1
  simp only [hF0, hFp_78, hFp_105, hFp_206, hFp_207, e78, e105, e206, e207, P_ly, P_cp2, P_wyS, P_wyT, den_s, den_c, Int.add_zero, List.map_cons, List.map_nil] at f1 f2 f3 f4 f5 f6 f9 ⊢
  have b4 : (0 : Int) ≤ ρ 4 ∧ ρ 4 ≤ 8 := hB 4 (0, 8) rfl
  have b5 : (0 : Int) ≤ ρ 5 ∧ ρ 5 ≤ 6 := hB 5 (0, 6) rfl
  have b6 : (0 : Int) ≤ ρ 6 ∧ ρ 6 ≤ 6 := hB 6 (0, 6) rfl
  have b7 : (0 : Int) ≤ ρ 7 ∧ ρ 7 ≤ 8 := hB 7 (0, 8) rfl
  have b13 : (0 : Int) ≤ ρ 13 ∧ ρ 13 ≤ 7 := hB 13 (0, 7) rfl
  have b14 : (0 : Int) ≤ ρ 14 ∧ ρ 14 ≤ 9 := hB 14 (0, 9) rfl
  have b15 : ((-2147483648) : Int) ≤ ρ 15 ∧ ρ 15 ≤ 2147483647 := hB 15 ((-2147483648), 2147483647) rfl
  have b16 : (0 : Int) ≤ ρ 16 ∧ ρ 16 ≤ 9 := hB 16 (0, 9) rfl
  have b17 : (24 : Int) ≤ ρ 17 ∧ ρ 17 ≤ 24 := hB 17 (24, 24) rfl
  have b18 : (0 : Int) ≤ ρ 18 ∧ ρ 18 ≤ 8 := hB 18 (0, 8) rfl
  have b19 : (0 : Int) ≤ ρ 19 ∧ ρ 19 ≤ 10 := hB 19 (0, 10) rfl
  have b20 : (0 : Int) ≤ ρ 20 ∧ ρ 20 ≤ 11 := hB 20 (0, 11) rfl
  have b21 : ((-2147483648) : Int) ≤ ρ 21 ∧ ρ 21 ≤ 2147483647 := hB 21 ((-2147483648), 2147483647) rfl
  have b22 : ((-2147483648) : Int) ≤ ρ 22 ∧ ρ 22 ≤ 2147483647 := hB 22 ((-2147483648), 2147483647) rfl
  clear hB
  generalize ρ 4 = r4, ρ 5 = r5, ρ 6 = r6, ρ 7 = r7, ρ 13 = r13, ρ 14 = r14, ρ 15 = r15, ρ 16 = r16, ρ 17 = r17, ρ 18 = r18, ρ 19 = r19, ρ 20 = r20, ρ 21 = r21, ρ 22 = r22, α 1 = a1, α 2 = a2, α 9 = a9, α 10 = a10, α 11 = a11, α 12 = a12, α 13 = a13, α 14 = a14, α 15 = a15, α 16 = a16, α 26 = a26, α 27 = a27, α 28 = a28, α 35 = a35, α 36 = a36, α 37 = a37, α 38 = a38, α 39 = a39, α 40 = a40, α 41 = a41, α 42 = a42, α 46 = a46, α 49 = a49 at *
  exact wyT_e f2 (by omega) (by omega))
def w_sizesBy_2_1 : VC := ((bY ++ [(0, 7), (0, 9), ((-2147483648), 2147483647), (0, 9), (24, 24), (0, 8), (0, 10), (0, 11), ((-2147483648), 2147483647), ((-2147483648), 2147483647)]), [(3, [(some 17, 0), (none, 24)], []), (105, [(some 4, 0)], [9, 10, 41, 42]), (207, [(some 16, 0), (some 17, 0), (some 15, 0), (some 13, 0), (some 14, 0), (some 7, 0), (some 18, 0), (some 19, 0), (some 4, 0), (some 5, 0), (some 6, 0)], [1, 2, 35, 36, 37, 38, 39, 40, 41, 42, 11, 12, 13, 14, 15, 16, 26, 27, 28, 49, 46]), (0, [(some 20, 0), (some 19, 0)], []), (0, [(some 21, 0), (none, 0)], []), (0, [(some 22, 0), (none, 0)], []), (0, [(some 4, 0), (some 4, 0)], []), (3, [(none, 9), (some 16, 0)], []), (3, [(none, 24), (some 17, 0)], []), (78, [], [1])], (3, [(none, 10), (some 16, 1)], []))
set_option maxRecDepth 20000 in
theorem v_sizesBy_2_1 {PT : PTy} (hp : HP17 PT) : vcOk PT w_sizesBy_2_1 := vc_of (fun ρ α hB hF => by
  obtain ⟨-, f1, f2, f3, f4, f5, f6, -, -, f9, -⟩ := hF
  have e78 : PT 78 = P_ly := hp.1.1.1.1.1.1.1.1.1.1.1.1.1.1.1.2.2.2.2.2.2.2.1
  have e105 : PT 105 = P_cp2 := hp.1.1.1.1.1.1.1.1.1.1.1.1.2.2.2.2.2.2.2.2.2.2.2.1
  have e207 : PT 207 = P_wyT := hp.2.2.1
  simp only [hF0, hF3, hFp_78, hFp_105, hFp_207, e78, e105, e207, P_ly, P_cp2, P_wyT, den_s, den_c, Int.add_zero, List.map_cons, List.map_nil] at f1 f2 f3 f4 f5 f6 f9 ⊢
  have b4 : (0 : Int) ≤ ρ 4 ∧ ρ 4 ≤ 8 := hB 4 (0, 8) rfl
  have b5 : (0 : Int) ≤ ρ 5 ∧ ρ 5 ≤ 6 := hB 5 (0, 6) rfl
  have b6 : (0 : Int) ≤ ρ 6 ∧ ρ 6 ≤ 6 := hB 6 (0, 6) rfl
  have b7 : (0 : Int) ≤ ρ 7 ∧ ρ 7 ≤ 8 := hB 7 (0, 8) rfl
  have b13 : (0 : Int) ≤ ρ 13 ∧ ρ 13 ≤ 7 := hB 13 (0, 7) rfl
  have b14 : (0 : Int) ≤ ρ 14 ∧ ρ 14 ≤ 9 := hB 14 (0, 9) rfl
  have b15 : ((-2147483648) : Int) ≤ ρ 15 ∧ ρ 15 ≤ 2147483647 := hB 15 ((-2147483648), 2147483647) rfl
  have b16 : (0 : Int) ≤ ρ 16 ∧ ρ 16 ≤ 9 := hB 16 (0, 9) rfl
  have b17 : (24 : Int) ≤ ρ 17 ∧ ρ 17 ≤ 24 := hB 17 (24, 24) rfl
  have b18 : (0 : Int) ≤ ρ 18 ∧ ρ 18 ≤ 8 := hB 18 (0, 8) rfl
  have b19 : (0 : Int) ≤ ρ 19 ∧ ρ 19 ≤ 10 := hB 19 (0, 10) rfl
  have b20 : (0 : Int) ≤ ρ 20 ∧ ρ 20 ≤ 11 := hB 20 (0, 11) rfl
  have b21 : ((-2147483648) : Int) ≤ ρ 21 ∧ ρ 21 ≤ 2147483647 := hB 21 ((-2147483648), 2147483647) rfl
  have b22 : ((-2147483648) : Int) ≤ ρ 22 ∧ ρ 22 ≤ 2147483647 := hB 22 ((-2147483648), 2147483647) rfl
  clear hB
  generalize ρ 4 = r4, ρ 5 = r5, ρ 6 = r6, ρ 7 = r7, ρ 13 = r13, ρ 14 = r14, ρ 15 = r15, ρ 16 = r16, ρ 17 = r17, ρ 18 = r18, ρ 19 = r19, ρ 20 = r20, ρ 21 = r21, ρ 22 = r22, α 1 = a1, α 2 = a2, α 9 = a9, α 10 = a10, α 11 = a11, α 12 = a12, α 13 = a13, α 14 = a14, α 15 = a15, α 16 = a16, α 26 = a26, α 27 = a27, α 28 = a28, α 35 = a35, α 36 = a36, α 37 = a37, α 38 = a38, α 39 = a39, α 40 = a40, α 41 = a41, α 42 = a42, α 46 = a46, α 49 = a49 at *
  omega)
def w_sizesBy_2_2 : VC := ((bY ++ [(0, 7), (0, 9), ((-2147483648), 2147483647), (0, 9), (0, 23), (0, 8), (0, 10), (0, 11), ((-2147483648), 2147483647), ((-2147483648), 2147483647), (0, 216), (0, 239), (0, 184), (0, 191), (0, 99)]), [(21, [(some 24, 0), (some 27, 0)], [50, 49]), (20, [(some 27, 0), (some 26, 0)], [46]), (4, [(some 26, 0), (some 25, 0), (some 13, 0)], []), (6, [(some 25, 0), (none, 8), (some 17, 0)], []), (4, [(some 24, 0), (some 23, 0), (some 17, 0)], []), (6, [(some 23, 0), (none, 24), (some 16, 0)], []), (2, [(some 17, 0), (none, 24)], []), (105, [(some 4, 0)], [9, 10, 41, 42]), (207, [(some 16, 0), (some 17, 0), (some 15, 0), (some 13, 0), (some 14, 0), (some 7, 0), (some 18, 0), (some 19, 0), (some 4, 0), (some 5, 0), (some 6, 0)], [1, 2, 35, 36, 37, 38, 39, 40, 41, 42, 11, 12, 13, 14, 15, 16, 26, 27, 28, 49, 46]), (0, [(some 20, 0), (some 19, 0)], []), (0, [(some 21, 0), (none, 0)], []), (0, [(some 22, 0), (none, 0)], []), (0, [(some 4, 0), (some 4, 0)], []), (3, [(none, 9), (some 16, 0)], []), (3, [(none, 24), (some 17, 0)], []), (78, [], [1])], (207, [(some 16, 0), (some 17, 1), (some 15, 0), (some 13, 0), (some 14, 0), (some 7, 0), (some 18, 0), (some 19, 0), (some 4, 0), (some 5, 0), (some 6, 0)], [1, 2, 35, 36, 37, 38, 39, 40, 41, 42, 11, 12, 13, 14, 15, 16, 26, 27, 28, 50, 46]))
set_option maxRecDepth 20000 in
theorem v_sizesBy_2_2 {PT : PTy} (hp : HP17 PT) : vcOk PT w_sizesBy_2_2 := vc_of (fun ρ α hB hF => by
  obtain ⟨f0, f1, f2, f3, f4, f5, -, f7, f8, f9, f10, f11, f12, -, -, f15, -⟩ := hF
  have e78 : PT 78 = P_ly := hp.1.1.1.1.1.1.1.1.1.1.1.1.1.1.1.2.2.2.2.2.2.2.1
  have e105 : PT 105 = P_cp2 := hp.1.1.1.1.1.1.1.1.1.1.1.1.2.2.2.2.2.2.2.2.2.2.2.1
  have e207 : PT 207 = P_wyT := hp.2.2.1
  simp only [hF0, hF4, hF6, hF20, hF21, hFp_78, hFp_105, hFp_207, e78, e105, e207, P_ly, P_cp2, P_wyT, den_s, den_c, Int.add_zero, List.map_cons, List.map_nil] at f0 f1 f2 f3 f4 f5 f7 f8 f9 f10 f11 f12 f15 ⊢
  have b4 : (0 : Int) ≤ ρ 4 ∧ ρ 4 ≤ 8 := hB 4 (0, 8) rfl
  have b5 : (0 : Int) ≤ ρ 5 ∧ ρ 5 ≤ 6 := hB 5 (0, 6) rfl
  have b6 : (0 : Int) ≤ ρ 6 ∧ ρ 6 ≤ 6 := hB 6 (0, 6) rfl
  have b7 : (0 : Int) ≤ ρ 7 ∧ ρ 7 ≤ 8 := hB 7 (0, 8) rfl
  have b13 : (0 : Int) ≤ ρ 13 ∧ ρ 13 ≤ 7 := hB 13 (0, 7) rfl
  have b14 : (0 : Int) ≤ ρ 14 ∧ ρ 14 ≤ 9 := hB 14 (0, 9) rfl
  have b15 : ((-2147483648) : Int) ≤ ρ 15 ∧ ρ 15 ≤ 2147483647 := hB 15 ((-2147483648), 2147483647) rfl
  have b16 : (0 : Int) ≤ ρ 16 ∧ ρ 16 ≤ 9 := hB 16 (0, 9) rfl
  have b17 : (0 : Int) ≤ ρ 17 ∧ ρ 17 ≤ 23 := hB 17 (0, 23) rfl
  have b18 : (0 : Int) ≤ ρ 18 ∧ ρ 18 ≤ 8 := hB 18 (0, 8) rfl
  have b19 : (0 : Int) ≤ ρ 19 ∧ ρ 19 ≤ 10 := hB 19 (0, 10) rfl
  have b20 : (0 : Int) ≤ ρ 20 ∧ ρ 20 ≤ 11 := hB 20 (0, 11) rfl
  have b21 : ((-2147483648) : Int) ≤ ρ 21 ∧ ρ 21 ≤ 2147483647 := hB 21 ((-2147483648), 2147483647) rfl
  have b22 : ((-2147483648) : Int) ≤ ρ 22 ∧ ρ 22 ≤ 2147483647 := hB 22 ((-2147483648), 2147483647) rfl
  have b23 : (0 : Int) ≤ ρ 23 ∧ ρ 23 ≤ 216 := hB 23 (0, 216) rfl
  have b24 : (0 : Int) ≤ ρ 24 ∧ ρ 24 ≤ 239 := hB 24 (0, 239) rfl
  have b25 : (0 : Int) ≤ ρ 25 ∧ ρ 25 ≤ 184 := hB 25 (0, 184) rfl
  have b26 : (0 : Int) ≤ ρ 26 ∧ ρ 26 ≤ 191 := hB 26 (0, 191) rfl
  have b27 : (0 : Int) ≤ ρ 27 ∧ ρ 27 ≤ 99 := hB 27 (0, 99) rfl
  clear hB
  generalize ρ 4 = r4, ρ 5 = r5, ρ 6 = r6, ρ 7 = r7, ρ 13 = r13, ρ 14 = r14, ρ 15 = r15, ρ 16 = r16, ρ 17 = r17, ρ 18 = r18, ρ 19 = r19, ρ 20 = r20, ρ 21 = r21, ρ 22 = r22, ρ 23 = r23, ρ 24 = r24, ρ 25 = r25, ρ 26 = r26, ρ 27 = r27, α 1 = a1, α 2 = a2, α 9 = a9, α 10 = a10, α 11 = a11, α 12 = a12, α 13 = a13, α 14 = a14, α 15 = a15, α 16 = a16, α 26 = a26, α 27 = a27, α 28 = a28, α 35 = a35, α 36 = a36, α 37 = a37, α 38 = a38, α 39 = a39, α 40 = a40, α 41 = a41, α 42 = a42, α 46 = a46, α 49 = a49, α 50 = a50 at *
  subst f0
  subst f1
  subst f2
  subst f3
  subst f4
  subst f5
  exact wyT_s f8 (by omega) (by omega))
def w_sizesBy_2_3 : VC := ((bY ++ [(0, 7), (0, 9), ((-2147483648), 2147483647), (0, 9), (0, 23), (0, 8), (0, 10), (0, 11), ((-2147483648), 2147483647), ((-2147483648), 2147483647), (0, 216), (0, 239), (0, 184), (0, 191), (0, 99)]), [(21, [(some 24, 0), (some 27, 0)], [50, 49]), (20, [(some 27, 0), (some 26, 0)], [46]), (4, [(some 26, 0), (some 25, 0), (some 13, 0)], []), (6, [(some 25, 0), (none, 8), (some 17, 0)], []), (4, [(some 24, 0), (some 23, 0), (some 17, 0)], []), (6, [(some 23, 0), (none, 24), (some 16, 0)], []), (2, [(some 17, 0), (none, 24)], []), (105, [(some 4, 0)], [9, 10, 41, 42]), (207, [(some 16, 0), (some 17, 0), (some 15, 0), (some 13, 0), (some 14, 0), (some 7, 0), (some 18, 0), (some 19, 0), (some 4, 0), (some 5, 0), (some 6, 0)], [1, 2, 35, 36, 37, 38, 39, 40, 41, 42, 11, 12, 13, 14, 15, 16, 26, 27, 28, 49, 46]), (0, [(some 20, 0), (some 19, 0)], []), (0, [(some 21, 0), (none, 0)], []), (0, [(some 22, 0), (none, 0)], []), (0, [(some 4, 0), (some 4, 0)], []), (3, [(none, 9), (some 16, 0)], []), (3, [(none, 24), (some 17, 0)], []), (78, [], [1])], (3, [(none, 24), (some 17, 1)], []))
set_option maxRecDepth 20000 in
theorem v_sizesBy_2_3 {PT : PTy} (hp : HP17 PT) : vcOk PT w_sizesBy_2_3 := vc_of (fun ρ α hB hF => by
  obtain ⟨f0, f1, f2, f3, f4, f5, -, f7, f8, f9, f10, f11, f12, -, -, f15, -⟩ := hF
  have e78 : PT 78 = P_ly := hp.1.1.1.1.1.1.1.1.1.1.1.1.1.1.1.2.2.2.2.2.2.2.1
  have e105 : PT 105 = P_cp2 := hp.1.1.1.1.1.1.1.1.1.1.1.1.2.2.2.2.2.2.2.2.2.2.2.1
  have e207 : PT 207 = P_wyT := hp.2.2.1
  simp only [hF0, hF3, hF4, hF6, hF20, hF21, hFp_78, hFp_105, hFp_207, e78, e105, e207, P_ly, P_cp2, P_wyT, den_s, den_c, Int.add_zero, List.map_cons, List.map_nil] at f0 f1 f2 f3 f4 f5 f7 f8 f9 f10 f11 f12 f15 ⊢
  have b4 : (0 : Int) ≤ ρ 4 ∧ ρ 4 ≤ 8 := hB 4 (0, 8) rfl
  have b5 : (0 : Int) ≤ ρ 5 ∧ ρ 5 ≤ 6 := hB 5 (0, 6) rfl
  have b6 : (0 : Int) ≤ ρ 6 ∧ ρ 6 ≤ 6 := hB 6 (0, 6) rfl
  have b7 : (0 : Int) ≤ ρ 7 ∧ ρ 7 ≤ 8 := hB 7 (0, 8) rfl
  have b13 : (0 : Int) ≤ ρ 13 ∧ ρ 13 ≤ 7 := hB 13 (0, 7) rfl
  have b14 : (0 : Int) ≤ ρ 14 ∧ ρ 14 ≤ 9 := hB 14 (0, 9) rfl
  have b15 : ((-2147483648) : Int) ≤ ρ 15 ∧ ρ 15 ≤ 2147483647 := hB 15 ((-2147483648), 2147483647) rfl
  have b16 : (0 : Int) ≤ ρ 16 ∧ ρ 16 ≤ 9 := hB 16 (0, 9) rfl
  have b17 : (0 : Int) ≤ ρ 17 ∧ ρ 17 ≤ 23 := hB 17 (0, 23) rfl
  have b18 : (0 : Int) ≤ ρ 18 ∧ ρ 18 ≤ 8 := hB 18 (0, 8) rfl
  have b19 : (0 : Int) ≤ ρ 19 ∧ ρ 19 ≤ 10 := hB 19 (0, 10) rfl
  have b20 : (0 : Int) ≤ ρ 20 ∧ ρ 20 ≤ 11 := hB 20 (0, 11) rfl
  have b21 : ((-2147483648) : Int) ≤ ρ 21 ∧ ρ 21 ≤ 2147483647 := hB 21 ((-2147483648), 2147483647) rfl
  have b22 : ((-2147483648) : Int) ≤ ρ 22 ∧ ρ 22 ≤ 2147483647 := hB 22 ((-2147483648), 2147483647) rfl
  have b23 : (0 : Int) ≤ ρ 23 ∧ ρ 23 ≤ 216 := hB 23 (0, 216) rfl
  have b24 : (0 : Int) ≤ ρ 24 ∧ ρ 24 ≤ 239 := hB 24 (0, 239) rfl
  have b25 : (0 : Int) ≤ ρ 25 ∧ ρ 25 ≤ 184 := hB 25 (0, 184) rfl
  have b26 : (0 : Int) ≤ ρ 26 ∧ ρ 26 ≤ 191 := hB 26 (0, 191) rfl
  have b27 : (0 : Int) ≤ ρ 27 ∧ ρ 27 ≤ 99 := hB 27 (0, 99) rfl
  clear hB
  generalize ρ 4 = r4, ρ 5 = r5, ρ 6 = r6, ρ 7 = r7, ρ 13 = r13, ρ 14 = r14, ρ 15 = r15, ρ 16 = r16, ρ 17 = r17, ρ 18 = r18, ρ 19 = r19, ρ 20 = r20, ρ 21 = r21, ρ 22 = r22, ρ 23 = r23, ρ 24 = r24, ρ 25 = r25, ρ 26 = r26, ρ 27 = r27, α 1 = a1, α 2 = a2, α 9 = a9, α 10 = a10, α 11 = a11, α 12 = a12, α 13 = a13, α 14 = a14, α 15 = a15, α 16 = a16, α 26 = a26, α 27 = a27, α 28 = a28, α 35 = a35, α 36 = a36, α 37 = a37, α 38 = a38, α 39 = a39, α 40 = a40, α 41 = a41, α 42 = a42, α 46 = a46, α 49 = a49, α 50 = a50 at *
  subst f0
  subst f1
  subst f2
  subst f3
  subst f4
  subst f5
  omega)
set_option maxRecDepth 1000000 in
theorem k_sizesBy {PT : PTy} (hp : HP17 PT) : wfX c_sizesBy = true ∧ xcOk PT c_sizesBy := xctr (xl (k_asTold hp.1.1.1.1.1.1.1.1.1.1.1.1) (xl (k_isSeen hp.1.1) (xl0))) c_sizesBy 42 mX7_sizesBy rfl h_sizesBy (by decide +kernel) (by decide +kernel) (by decide) (vcs_by [w_sizesBy_0_0, w_sizesBy_0_1] (by decide +kernel) (vc (v_sizesBy_0_0 hp) (vc (v_sizesBy_0_1 hp) vn))) (fmc (vcs_by [w_sizesBy_1_0, w_sizesBy_1_1, w_sizesBy_1_2, w_sizesBy_1_3, w_sizesBy_1_4, w_sizesBy_1_5, w_sizesBy_1_6] (by decide +kernel) (vc (v_sizesBy_1_0 hp) (vc (v_sizesBy_1_1 hp) (vc (v_sizesBy_1_2 hp) (vc (v_sizesBy_1_3 hp) (vc (v_sizesBy_1_4 hp) (vc (v_sizesBy_1_5 hp) (vc (v_sizesBy_1_6 hp) vn)))))))) (fmc (vcs_by [w_sizesBy_2_0, w_sizesBy_2_1, w_sizesBy_2_2, w_sizesBy_2_3] (by decide +kernel) (vc (v_sizesBy_2_0 hp) (vc (v_sizesBy_2_1 hp) (vc (v_sizesBy_2_2 hp) (vc (v_sizesBy_2_3 hp) vn))))) fmn))
def c_sortsBy : XC := (176, 6, (bY ++ [(0, 7)]), [.inr (.inl 0), .inl (some 13, 0)], gY2, [(78, [], [1])], [((bY ++ [(0, 7), ((-2147483648), 2147483647), (0, 8), (0, 10), (0, 11), ((-2147483648), 2147483647), ((-2147483648), 2147483647)]), some (.inl (some 14, 0)), (hst gY2 [(0, .inr (.inr (.inr (7, [.inr (.inl 1), .inr (.inl 2), .inl (some 15, 0), .inr (.inl 3), .inr (.inl 4), .inl (some 16, 0), .inr (.inl 5), .inr (.inl 6), .inr (.inl 7), .inr (.inl 8), .inl (some 4, 0), .inr (.inl 9), .inr (.inl 10), .inl (some 5, 0), .inr (.inl 11), .inr (.inl 12), .inr (.inl 13), .inl (some 6, 0), .inr (.inl 14), .inr (.inl 15), .inr (.inl 16), .inl (some 17, 0), .inl (some 4, 0), .inr (.inl 17), .inr (.inl 18), .inl (some 18, 0), .inl (some 19, 0), .inr (.inl 19), .inr (.inl 20), .inr (.inl 21), .inr (.inl 22), .inr (.inl 23), .inr (.inl 24), .inr (.inl 25), .inl (some 7, 0), .inr (.inl 26), .inr (.inl 27), .inr (.inl 28), .inr (.inl 29), .inr (.inl 30), .inr (.inl 31), .inr (.inl 32), .inr (.inl 33), .inr (.inl 34), .inl (some 12, 0)]))))]), [0, 1, 2, 35, 36, 37, 38, 39, 40, 9, 10, 11, 12, 13, 14, 15, 16, 41, 42, 43, 44, 45, 46, 47, 48, 25, 26, 27, 28, 29, 30, 31, 32, 33, 34], 49, [(210, [(some 14, 0), (some 13, 0), (some 7, 0), (some 15, 0), (some 16, 0), (some 4, 0), (some 5, 0), (some 6, 0)], [1, 2, 35, 36, 37, 38, 39, 40, 41, 42, 9, 10, 11, 12, 13, 14, 15, 16, 26, 27, 28])])])
def h_sortsBy : List XH := [(16, (bY ++ [(0, 7), (0, 2), ((-2147483648), 2147483647), (0, 3), (0, 8), (0, 10), (0, 11), ((-2147483648), 2147483647), ((-2147483648), 2147483647)]), [some (.inr (.inl 0)), some (.inl (some 13, 0)), some (.inl (some 14, 0)), some (.inl (some 15, 0)), some (.inl (some 16, 0))], (hst gY2 [(0, .inr (.inr (.inr (7, [.inr (.inl 1), .inr (.inl 2), .inl (some 17, 0), .inr (.inl 3), .inr (.inl 4), .inl (some 18, 0), .inr (.inl 5), .inr (.inl 6), .inr (.inl 7), .inr (.inl 8), .inl (some 4, 0), .inr (.inl 9), .inr (.inl 10), .inl (some 5, 0), .inr (.inl 11), .inr (.inl 12), .inr (.inl 13), .inl (some 6, 0), .inr (.inl 14), .inr (.inl 15), .inr (.inl 16), .inl (some 19, 0), .inl (some 4, 0), .inr (.inl 17), .inr (.inl 18), .inl (some 20, 0), .inl (some 21, 0), .inr (.inl 19), .inr (.inl 20), .inr (.inl 21), .inr (.inl 22), .inr (.inl 23), .inr (.inl 24), .inr (.inl 25), .inl (some 7, 0), .inr (.inl 26), .inr (.inl 27), .inr (.inl 28), .inr (.inl 29), .inr (.inl 30), .inr (.inl 31), .inr (.inl 32), .inr (.inl 33), .inr (.inl 34), .inl (some 12, 0)]))))]), [0, 1, 2, 35, 36, 37, 38, 39, 40, 9, 10, 11, 12, 13, 14, 15, 16, 41, 42, 43, 44, 45, 46, 47, 48, 25, 26, 27, 28, 29, 30, 31, 32, 33, 34], 49, [(105, [(some 4, 0)], [9, 10, 41, 42]), (209, [(some 16, 0), (some 15, 0), (some 13, 0), (some 14, 0), (some 7, 0), (some 17, 0), (some 18, 0), (some 4, 0), (some 5, 0), (some 6, 0)], [1, 2, 35, 36, 37, 38, 39, 40, 41, 42, 11, 12, 13, 14, 15, 16, 26, 27, 28]), (0, [(some 19, 0), (some 18, 0)], []), (0, [(some 20, 0), (none, 0)], []), (0, [(some 21, 0), (none, 0)], []), (0, [(some 4, 0), (some 4, 0)], []), (3, [(none, 3), (some 16, 0)], [])], [(true, (none, 1)), (true, (some 16, 0))])]
def w_sortsBy_0_0 : VC := ((bY ++ [(0, 7), (0, 8), (0, 10), (0, 11), ((-2147483648), 2147483647), ((-2147483648), 2147483647), (0, 2)]), [(20, [(some 19, 0), (some 13, 0)], [35]), (106, [(some 14, 0), (some 15, 0)], [1, 2, 35, 36, 37, 38, 39, 40]), (105, [(some 4, 0)], [9, 10, 41, 42]), (0, [(some 16, 0), (some 15, 0)], []), (0, [(some 4, 0), (some 4, 0)], []), (0, [(some 17, 0), (none, 0)], []), (0, [(some 18, 0), (none, 0)], []), (78, [], [1])], (209, [(none, 0), (none, 0), (some 13, 0), (some 19, 0), (some 7, 0), (some 14, 0), (some 15, 0), (some 4, 0), (some 5, 0), (some 6, 0)], [1, 2, 35, 36, 37, 38, 39, 40, 41, 42, 11, 12, 13, 14, 15, 16, 26, 27, 28]))
set_option maxRecDepth 20000 in
theorem v_sortsBy_0_0 {PT : PTy} (hp : HP17 PT) : vcOk PT w_sortsBy_0_0 := vc_of (fun ρ α hB hF => by
  obtain ⟨f0, f1, f2, f3, f4, f5, f6, f7, -⟩ := hF
  have e78 : PT 78 = P_ly := hp.1.1.1.1.1.1.1.1.1.1.1.1.1.1.1.2.2.2.2.2.2.2.1
  have e105 : PT 105 = P_cp2 := hp.1.1.1.1.1.1.1.1.1.1.1.1.2.2.2.2.2.2.2.2.2.2.2.1
  have e106 : PT 106 = P_rd := hp.1.1.1.1.1.1.1.1.1.1.1.1.2.2.2.2.2.2.2.2.2.2.2.2.1
  have e209 : PT 209 = P_woS := hp.2.2.2.2.1
  simp only [hF0, hF20, hFp_78, hFp_105, hFp_106, hFp_209, e78, e105, e106, e209, P_ly, P_cp2, P_rd, P_woS, den_s, den_c, Int.add_zero, List.map_cons, List.map_nil] at f0 f1 f2 f3 f4 f5 f6 f7 ⊢
  have b4 : (0 : Int) ≤ ρ 4 ∧ ρ 4 ≤ 8 := hB 4 (0, 8) rfl
  have b5 : (0 : Int) ≤ ρ 5 ∧ ρ 5 ≤ 6 := hB 5 (0, 6) rfl
  have b6 : (0 : Int) ≤ ρ 6 ∧ ρ 6 ≤ 6 := hB 6 (0, 6) rfl
  have b7 : (0 : Int) ≤ ρ 7 ∧ ρ 7 ≤ 8 := hB 7 (0, 8) rfl
  have b13 : (0 : Int) ≤ ρ 13 ∧ ρ 13 ≤ 7 := hB 13 (0, 7) rfl
  have b14 : (0 : Int) ≤ ρ 14 ∧ ρ 14 ≤ 8 := hB 14 (0, 8) rfl
  have b15 : (0 : Int) ≤ ρ 15 ∧ ρ 15 ≤ 10 := hB 15 (0, 10) rfl
  have b16 : (0 : Int) ≤ ρ 16 ∧ ρ 16 ≤ 11 := hB 16 (0, 11) rfl
  have b17 : ((-2147483648) : Int) ≤ ρ 17 ∧ ρ 17 ≤ 2147483647 := hB 17 ((-2147483648), 2147483647) rfl
  have b18 : ((-2147483648) : Int) ≤ ρ 18 ∧ ρ 18 ≤ 2147483647 := hB 18 ((-2147483648), 2147483647) rfl
  have b19 : (0 : Int) ≤ ρ 19 ∧ ρ 19 ≤ 2 := hB 19 (0, 2) rfl
  clear hB
  generalize ρ 4 = r4, ρ 5 = r5, ρ 6 = r6, ρ 7 = r7, ρ 13 = r13, ρ 14 = r14, ρ 15 = r15, ρ 16 = r16, ρ 17 = r17, ρ 18 = r18, ρ 19 = r19, α 1 = a1, α 2 = a2, α 9 = a9, α 10 = a10, α 11 = a11, α 12 = a12, α 13 = a13, α 14 = a14, α 15 = a15, α 16 = a16, α 26 = a26, α 27 = a27, α 28 = a28, α 35 = a35, α 36 = a36, α 37 = a37, α 38 = a38, α 39 = a39, α 40 = a40, α 41 = a41, α 42 = a42 at *
  subst f0
  obtain ⟨a, b, h1, h2⟩ := f1
  exact ⟨a, b, _, h1, h2, fun q _ => rfl, rfl, obB_z⟩)
def w_sortsBy_0_1 : VC := ((bY ++ [(0, 7), (0, 8), (0, 10), (0, 11), ((-2147483648), 2147483647), ((-2147483648), 2147483647), (0, 2)]), [(20, [(some 19, 0), (some 13, 0)], [35]), (106, [(some 14, 0), (some 15, 0)], [1, 2, 35, 36, 37, 38, 39, 40]), (105, [(some 4, 0)], [9, 10, 41, 42]), (0, [(some 16, 0), (some 15, 0)], []), (0, [(some 4, 0), (some 4, 0)], []), (0, [(some 17, 0), (none, 0)], []), (0, [(some 18, 0), (none, 0)], []), (78, [], [1])], (3, [(none, 3), (none, 0)], []))
theorem v_sortsBy_0_1 {PT : PTy} (_ : HP17 PT) : vcOk PT w_sortsBy_0_1 := vc_of (fun ρ α _ _ => by simp only [hF3, den_c] <;> omega)
def w_sortsBy_1_0 : VC := ((bY ++ [(0, 7), (0, 2), ((-2147483648), 2147483647), (3, 3), (0, 8), (0, 10), (0, 11), ((-2147483648), 2147483647), ((-2147483648), 2147483647)]), [(21, [(some 13, 0), (some 14, 0)], [49, 35]), (3, [(some 16, 0), (none, 3)], []), (105, [(some 4, 0)], [9, 10, 41, 42]), (209, [(some 16, 0), (some 15, 0), (some 13, 0), (some 14, 0), (some 7, 0), (some 17, 0), (some 18, 0), (some 4, 0), (some 5, 0), (some 6, 0)], [1, 2, 35, 36, 37, 38, 39, 40, 41, 42, 11, 12, 13, 14, 15, 16, 26, 27, 28]), (0, [(some 19, 0), (some 18, 0)], []), (0, [(some 20, 0), (none, 0)], []), (0, [(some 21, 0), (none, 0)], []), (0, [(some 4, 0), (some 4, 0)], []), (3, [(none, 3), (some 16, 0)], []), (78, [], [1])], (210, [(some 15, 0), (some 13, 0), (some 7, 0), (some 17, 0), (some 18, 0), (some 4, 0), (some 5, 0), (some 6, 0)], [1, 2, 49, 36, 37, 38, 39, 40, 41, 42, 9, 10, 11, 12, 13, 14, 15, 16, 26, 27, 28]))
set_option maxRecDepth 20000 in
theorem v_sortsBy_1_0 {PT : PTy} (hp : HP17 PT) : vcOk PT w_sortsBy_1_0 := vc_of (fun ρ α hB hF => by
  obtain ⟨f0, -, f2, f3, f4, f5, f6, f7, -, f9, -⟩ := hF
  have e78 : PT 78 = P_ly := hp.1.1.1.1.1.1.1.1.1.1.1.1.1.1.1.2.2.2.2.2.2.2.1
  have e105 : PT 105 = P_cp2 := hp.1.1.1.1.1.1.1.1.1.1.1.1.2.2.2.2.2.2.2.2.2.2.2.1
  have e209 : PT 209 = P_woS := hp.2.2.2.2.1
  have e210 : PT 210 = P_soP2 := hp.2.2.2.2.2.1
  simp only [hF0, hF21, hFp_78, hFp_105, hFp_209, hFp_210, e78, e105, e209, e210, P_ly, P_cp2, P_woS, P_soP2, den_s, den_c, Int.add_zero, List.map_cons, List.map_nil] at f0 f2 f3 f4 f5 f6 f7 f9 ⊢
  have b4 : (0 : Int) ≤ ρ 4 ∧ ρ 4 ≤ 8 := hB 4 (0, 8) rfl
  have b5 : (0 : Int) ≤ ρ 5 ∧ ρ 5 ≤ 6 := hB 5 (0, 6) rfl
  have b6 : (0 : Int) ≤ ρ 6 ∧ ρ 6 ≤ 6 := hB 6 (0, 6) rfl
  have b7 : (0 : Int) ≤ ρ 7 ∧ ρ 7 ≤ 8 := hB 7 (0, 8) rfl
  have b13 : (0 : Int) ≤ ρ 13 ∧ ρ 13 ≤ 7 := hB 13 (0, 7) rfl
  have b14 : (0 : Int) ≤ ρ 14 ∧ ρ 14 ≤ 2 := hB 14 (0, 2) rfl
  have b15 : ((-2147483648) : Int) ≤ ρ 15 ∧ ρ 15 ≤ 2147483647 := hB 15 ((-2147483648), 2147483647) rfl
  have b16 : (3 : Int) ≤ ρ 16 ∧ ρ 16 ≤ 3 := hB 16 (3, 3) rfl
  have b17 : (0 : Int) ≤ ρ 17 ∧ ρ 17 ≤ 8 := hB 17 (0, 8) rfl
  have b18 : (0 : Int) ≤ ρ 18 ∧ ρ 18 ≤ 10 := hB 18 (0, 10) rfl
  have b19 : (0 : Int) ≤ ρ 19 ∧ ρ 19 ≤ 11 := hB 19 (0, 11) rfl
  have b20 : ((-2147483648) : Int) ≤ ρ 20 ∧ ρ 20 ≤ 2147483647 := hB 20 ((-2147483648), 2147483647) rfl
  have b21 : ((-2147483648) : Int) ≤ ρ 21 ∧ ρ 21 ≤ 2147483647 := hB 21 ((-2147483648), 2147483647) rfl
  clear hB
  generalize ρ 4 = r4, ρ 5 = r5, ρ 6 = r6, ρ 7 = r7, ρ 13 = r13, ρ 14 = r14, ρ 15 = r15, ρ 16 = r16, ρ 17 = r17, ρ 18 = r18, ρ 19 = r19, ρ 20 = r20, ρ 21 = r21, α 1 = a1, α 2 = a2, α 9 = a9, α 10 = a10, α 11 = a11, α 12 = a12, α 13 = a13, α 14 = a14, α 15 = a15, α 16 = a16, α 26 = a26, α 27 = a27, α 28 = a28, α 35 = a35, α 36 = a36, α 37 = a37, α 38 = a38, α 39 = a39, α 40 = a40, α 41 = a41, α 42 = a42, α 49 = a49 at *
  subst f0
  obtain ⟨a, b', so, i1, i2, i3, i4, i5⟩ := f3
  rw [show r16 = 3 by omega] at i5
  have eb : updI a35 r13 r14 = so := by rw [i4]; exact upd_bk i3
  rw [eb]
  exact ⟨⟨⟨a, b', i1, i2⟩, f2⟩, i5⟩)
def w_sortsBy_1_1 : VC := ((bY ++ [(0, 7), (0, 2), ((-2147483648), 2147483647), (0, 2), (0, 8), (0, 10), (0, 11), ((-2147483648), 2147483647), ((-2147483648), 2147483647), (0, 0), ((-2147483648), 2147483647)]), [(11, [(some 23, 0), (some 15, 0), (none, 0)], []), (0, [(some 22, 0), (none, 0)], []), (104, [(none, 24), (some 17, 0), (some 19, 0), (some 18, 0), (some 4, 0), (some 5, 0), (some 6, 0), (some 20, 0), (some 21, 0)], [49, 36, 37, 38, 39, 40, 41, 42, 11, 12, 13, 14, 15, 16, 43, 44, 45, 50, 51, 52, 53, 54, 55]), (200, [(some 22, 0), (some 7, 0), (some 17, 0)], [26, 27, 28, 53]), (21, [(some 13, 0), (some 16, 0)], [49, 35]), (2, [(some 16, 0), (none, 3)], []), (105, [(some 4, 0)], [9, 10, 41, 42]), (209, [(some 16, 0), (some 15, 0), (some 13, 0), (some 14, 0), (some 7, 0), (some 17, 0), (some 18, 0), (some 4, 0), (some 5, 0), (some 6, 0)], [1, 2, 35, 36, 37, 38, 39, 40, 41, 42, 11, 12, 13, 14, 15, 16, 26, 27, 28]), (0, [(some 19, 0), (some 18, 0)], []), (0, [(some 20, 0), (none, 0)], []), (0, [(some 21, 0), (none, 0)], []), (0, [(some 4, 0), (some 4, 0)], []), (3, [(none, 3), (some 16, 0)], []), (78, [], [1])], (209, [(some 16, 1), (some 23, 0), (some 13, 0), (some 14, 0), (some 7, 0), (some 17, 0), (some 18, 0), (some 4, 0), (some 5, 0), (some 6, 0)], [1, 2, 49, 36, 37, 38, 39, 40, 41, 42, 11, 12, 13, 14, 15, 16, 26, 27, 28]))
set_option maxRecDepth 20000 in
theorem v_sortsBy_1_1 {PT : PTy} (hp : HP17 PT) : vcOk PT w_sortsBy_1_1 := vc_of (fun ρ α hB hF => by
  obtain ⟨f0, f1, f2, f3, f4, -, f6, f7, f8, f9, f10, f11, -, f13, -⟩ := hF
  have e78 : PT 78 = P_ly := hp.1.1.1.1.1.1.1.1.1.1.1.1.1.1.1.2.2.2.2.2.2.2.1
  have e104 : PT 104 = P_ru := hp.1.1.1.1.1.1.1.1.1.1.1.1.2.2.2.2.2.2.2.2.2.2.1
  have e105 : PT 105 = P_cp2 := hp.1.1.1.1.1.1.1.1.1.1.1.1.2.2.2.2.2.2.2.2.2.2.2.1
  have e200 : PT 200 = P_sy := hp.1.1.2.2.2.2.2.2.2.1
  have e209 : PT 209 = P_woS := hp.2.2.2.2.1
  simp only [hF0, hF11, hF21, hFp_78, hFp_104, hFp_105, hFp_200, hFp_209, e78, e104, e105, e200, e209, P_ly, P_ru, P_cp2, P_sy, P_woS, den_s, den_c, Int.add_zero, List.map_cons, List.map_nil] at f0 f1 f2 f3 f4 f6 f7 f8 f9 f10 f11 f13 ⊢
  have b4 : (0 : Int) ≤ ρ 4 ∧ ρ 4 ≤ 8 := hB 4 (0, 8) rfl
  have b5 : (0 : Int) ≤ ρ 5 ∧ ρ 5 ≤ 6 := hB 5 (0, 6) rfl
  have b6 : (0 : Int) ≤ ρ 6 ∧ ρ 6 ≤ 6 := hB 6 (0, 6) rfl
  have b7 : (0 : Int) ≤ ρ 7 ∧ ρ 7 ≤ 8 := hB 7 (0, 8) rfl
  have b13 : (0 : Int) ≤ ρ 13 ∧ ρ 13 ≤ 7 := hB 13 (0, 7) rfl
  have b14 : (0 : Int) ≤ ρ 14 ∧ ρ 14 ≤ 2 := hB 14 (0, 2) rfl
  have b15 : ((-2147483648) : Int) ≤ ρ 15 ∧ ρ 15 ≤ 2147483647 := hB 15 ((-2147483648), 2147483647) rfl
  have b16 : (0 : Int) ≤ ρ 16 ∧ ρ 16 ≤ 2 := hB 16 (0, 2) rfl
  have b17 : (0 : Int) ≤ ρ 17 ∧ ρ 17 ≤ 8 := hB 17 (0, 8) rfl
  have b18 : (0 : Int) ≤ ρ 18 ∧ ρ 18 ≤ 10 := hB 18 (0, 10) rfl
  have b19 : (0 : Int) ≤ ρ 19 ∧ ρ 19 ≤ 11 := hB 19 (0, 11) rfl
  have b20 : ((-2147483648) : Int) ≤ ρ 20 ∧ ρ 20 ≤ 2147483647 := hB 20 ((-2147483648), 2147483647) rfl
  have b21 : ((-2147483648) : Int) ≤ ρ 21 ∧ ρ 21 ≤ 2147483647 := hB 21 ((-2147483648), 2147483647) rfl
  have b22 : (0 : Int) ≤ ρ 22 ∧ ρ 22 ≤ 0 := hB 22 (0, 0) rfl
  have b23 : ((-2147483648) : Int) ≤ ρ 23 ∧ ρ 23 ≤ 2147483647 := hB 23 ((-2147483648), 2147483647) rfl
  clear hB
  generalize ρ 4 = r4, ρ 5 = r5, ρ 6 = r6, ρ 7 = r7, ρ 13 = r13, ρ 14 = r14, ρ 15 = r15, ρ 16 = r16, ρ 17 = r17, ρ 18 = r18, ρ 19 = r19, ρ 20 = r20, ρ 21 = r21, ρ 22 = r22, ρ 23 = r23, α 1 = a1, α 2 = a2, α 9 = a9, α 10 = a10, α 11 = a11, α 12 = a12, α 13 = a13, α 14 = a14, α 15 = a15, α 16 = a16, α 26 = a26, α 27 = a27, α 28 = a28, α 35 = a35, α 36 = a36, α 37 = a37, α 38 = a38, α 39 = a39, α 40 = a40, α 41 = a41, α 42 = a42, α 43 = a43, α 44 = a44, α 45 = a45, α 49 = a49, α 50 = a50, α 51 = a51, α 52 = a52, α 53 = a53, α 54 = a54, α 55 = a55 at *
  subst f0
  subst f4
  obtain ⟨h1, h2⟩ := f2
  have e1 : r19 = r18 := by omega
  have e2 : r20 = 0 := by omega
  have e3 : r21 = 0 := by omega
  have e4 : r4 = r4 := by omega
  rw [e1, e2, e3, e4] at h1 h2
  obtain ⟨a, b', so, i1, i2, i3, i4, i5⟩ := f7
  have hs := f3
  first
    | exact ⟨a, b', so, i1, i2, fun q hq => by rw [updI_ne hq]; exact i3 q hq, i4, obB_s i5 (by omega) ⟨_, fun q hq => by rw [updI_ne hq]; exact i3 q hq, updI_at _ _ _, _, _, _, _, _, _, ⟨_, _, _, h1, h2⟩, hs⟩ (by rw [if_pos (by omega)])⟩
    | exact ⟨a, b', so, i1, i2, fun q hq => by rw [updI_ne hq]; exact i3 q hq, i4, obB_s i5 (by omega) ⟨_, fun q hq => by rw [updI_ne hq]; exact i3 q hq, updI_at _ _ _, _, _, _, _, _, _, ⟨_, _, _, h1, h2⟩, hs⟩ (by rw [if_neg (by omega)]; exact mOr_0 (by omega) (by omega))⟩)
def w_sortsBy_1_2 : VC := ((bY ++ [(0, 7), (0, 2), ((-2147483648), 2147483647), (0, 2), (0, 8), (0, 10), (0, 11), ((-2147483648), 2147483647), ((-2147483648), 2147483647), (0, 0), ((-2147483648), 2147483647)]), [(11, [(some 23, 0), (some 15, 0), (none, 0)], []), (0, [(some 22, 0), (none, 0)], []), (104, [(none, 24), (some 17, 0), (some 19, 0), (some 18, 0), (some 4, 0), (some 5, 0), (some 6, 0), (some 20, 0), (some 21, 0)], [49, 36, 37, 38, 39, 40, 41, 42, 11, 12, 13, 14, 15, 16, 43, 44, 45, 50, 51, 52, 53, 54, 55]), (200, [(some 22, 0), (some 7, 0), (some 17, 0)], [26, 27, 28, 53]), (21, [(some 13, 0), (some 16, 0)], [49, 35]), (2, [(some 16, 0), (none, 3)], []), (105, [(some 4, 0)], [9, 10, 41, 42]), (209, [(some 16, 0), (some 15, 0), (some 13, 0), (some 14, 0), (some 7, 0), (some 17, 0), (some 18, 0), (some 4, 0), (some 5, 0), (some 6, 0)], [1, 2, 35, 36, 37, 38, 39, 40, 41, 42, 11, 12, 13, 14, 15, 16, 26, 27, 28]), (0, [(some 19, 0), (some 18, 0)], []), (0, [(some 20, 0), (none, 0)], []), (0, [(some 21, 0), (none, 0)], []), (0, [(some 4, 0), (some 4, 0)], []), (3, [(none, 3), (some 16, 0)], []), (78, [], [1])], (3, [(none, 3), (some 16, 1)], []))
set_option maxRecDepth 20000 in
theorem v_sortsBy_1_2 {PT : PTy} (hp : HP17 PT) : vcOk PT w_sortsBy_1_2 := vc_of (fun ρ α hB hF => by
  obtain ⟨f0, f1, f2, f3, f4, -, f6, f7, f8, f9, f10, f11, -, f13, -⟩ := hF
  have e78 : PT 78 = P_ly := hp.1.1.1.1.1.1.1.1.1.1.1.1.1.1.1.2.2.2.2.2.2.2.1
  have e104 : PT 104 = P_ru := hp.1.1.1.1.1.1.1.1.1.1.1.1.2.2.2.2.2.2.2.2.2.2.1
  have e105 : PT 105 = P_cp2 := hp.1.1.1.1.1.1.1.1.1.1.1.1.2.2.2.2.2.2.2.2.2.2.2.1
  have e200 : PT 200 = P_sy := hp.1.1.2.2.2.2.2.2.2.1
  have e209 : PT 209 = P_woS := hp.2.2.2.2.1
  simp only [hF0, hF3, hF11, hF21, hFp_78, hFp_104, hFp_105, hFp_200, hFp_209, e78, e104, e105, e200, e209, P_ly, P_ru, P_cp2, P_sy, P_woS, den_s, den_c, Int.add_zero, List.map_cons, List.map_nil] at f0 f1 f2 f3 f4 f6 f7 f8 f9 f10 f11 f13 ⊢
  have b4 : (0 : Int) ≤ ρ 4 ∧ ρ 4 ≤ 8 := hB 4 (0, 8) rfl
  have b5 : (0 : Int) ≤ ρ 5 ∧ ρ 5 ≤ 6 := hB 5 (0, 6) rfl
  have b6 : (0 : Int) ≤ ρ 6 ∧ ρ 6 ≤ 6 := hB 6 (0, 6) rfl
  have b7 : (0 : Int) ≤ ρ 7 ∧ ρ 7 ≤ 8 := hB 7 (0, 8) rfl
  have b13 : (0 : Int) ≤ ρ 13 ∧ ρ 13 ≤ 7 := hB 13 (0, 7) rfl
  have b14 : (0 : Int) ≤ ρ 14 ∧ ρ 14 ≤ 2 := hB 14 (0, 2) rfl
  have b15 : ((-2147483648) : Int) ≤ ρ 15 ∧ ρ 15 ≤ 2147483647 := hB 15 ((-2147483648), 2147483647) rfl
  have b16 : (0 : Int) ≤ ρ 16 ∧ ρ 16 ≤ 2 := hB 16 (0, 2) rfl
  have b17 : (0 : Int) ≤ ρ 17 ∧ ρ 17 ≤ 8 := hB 17 (0, 8) rfl
  have b18 : (0 : Int) ≤ ρ 18 ∧ ρ 18 ≤ 10 := hB 18 (0, 10) rfl
  have b19 : (0 : Int) ≤ ρ 19 ∧ ρ 19 ≤ 11 := hB 19 (0, 11) rfl
  have b20 : ((-2147483648) : Int) ≤ ρ 20 ∧ ρ 20 ≤ 2147483647 := hB 20 ((-2147483648), 2147483647) rfl
  have b21 : ((-2147483648) : Int) ≤ ρ 21 ∧ ρ 21 ≤ 2147483647 := hB 21 ((-2147483648), 2147483647) rfl
  have b22 : (0 : Int) ≤ ρ 22 ∧ ρ 22 ≤ 0 := hB 22 (0, 0) rfl
  have b23 : ((-2147483648) : Int) ≤ ρ 23 ∧ ρ 23 ≤ 2147483647 := hB 23 ((-2147483648), 2147483647) rfl
  clear hB
  generalize ρ 4 = r4, ρ 5 = r5, ρ 6 = r6, ρ 7 = r7, ρ 13 = r13, ρ 14 = r14, ρ 15 = r15, ρ 16 = r16, ρ 17 = r17, ρ 18 = r18, ρ 19 = r19, ρ 20 = r20, ρ 21 = r21, ρ 22 = r22, ρ 23 = r23, α 1 = a1, α 2 = a2, α 9 = a9, α 10 = a10, α 11 = a11, α 12 = a12, α 13 = a13, α 14 = a14, α 15 = a15, α 16 = a16, α 26 = a26, α 27 = a27, α 28 = a28, α 35 = a35, α 36 = a36, α 37 = a37, α 38 = a38, α 39 = a39, α 40 = a40, α 41 = a41, α 42 = a42, α 43 = a43, α 44 = a44, α 45 = a45, α 49 = a49, α 50 = a50, α 51 = a51, α 52 = a52, α 53 = a53, α 54 = a54, α 55 = a55 at *
  subst f0
  subst f4
  omega)
def w_sortsBy_1_3 : VC := ((bY ++ [(0, 7), (0, 2), ((-2147483648), 2147483647), (0, 2), (0, 8), (0, 10), (0, 11), ((-2147483648), 2147483647), ((-2147483648), 2147483647), (1, 1), (1, 4), ((-2147483648), 2147483647)]), [(11, [(some 24, 0), (some 15, 0), (some 23, 0)], []), (13, [(some 23, 0), (none, 1), (some 16, 0)], []), (1, [(some 22, 0), (none, 0)], []), (104, [(none, 24), (some 17, 0), (some 19, 0), (some 18, 0), (some 4, 0), (some 5, 0), (some 6, 0), (some 20, 0), (some 21, 0)], [49, 36, 37, 38, 39, 40, 41, 42, 11, 12, 13, 14, 15, 16, 43, 44, 45, 50, 51, 52, 53, 54, 55]), (200, [(some 22, 0), (some 7, 0), (some 17, 0)], [26, 27, 28, 53]), (21, [(some 13, 0), (some 16, 0)], [49, 35]), (2, [(some 16, 0), (none, 3)], []), (105, [(some 4, 0)], [9, 10, 41, 42]), (209, [(some 16, 0), (some 15, 0), (some 13, 0), (some 14, 0), (some 7, 0), (some 17, 0), (some 18, 0), (some 4, 0), (some 5, 0), (some 6, 0)], [1, 2, 35, 36, 37, 38, 39, 40, 41, 42, 11, 12, 13, 14, 15, 16, 26, 27, 28]), (0, [(some 19, 0), (some 18, 0)], []), (0, [(some 20, 0), (none, 0)], []), (0, [(some 21, 0), (none, 0)], []), (0, [(some 4, 0), (some 4, 0)], []), (3, [(none, 3), (some 16, 0)], []), (78, [], [1])], (209, [(some 16, 1), (some 24, 0), (some 13, 0), (some 14, 0), (some 7, 0), (some 17, 0), (some 18, 0), (some 4, 0), (some 5, 0), (some 6, 0)], [1, 2, 49, 36, 37, 38, 39, 40, 41, 42, 11, 12, 13, 14, 15, 16, 26, 27, 28]))
set_option maxRecDepth 20000 in
theorem v_sortsBy_1_3 {PT : PTy} (hp : HP17 PT) : vcOk PT w_sortsBy_1_3 := vc_of (fun ρ α hB hF => by
  obtain ⟨f0, f1, -, f3, f4, f5, -, f7, f8, f9, f10, f11, f12, -, f14, -⟩ := hF
  have e78 : PT 78 = P_ly := hp.1.1.1.1.1.1.1.1.1.1.1.1.1.1.1.2.2.2.2.2.2.2.1
  have e104 : PT 104 = P_ru := hp.1.1.1.1.1.1.1.1.1.1.1.1.2.2.2.2.2.2.2.2.2.2.1
  have e105 : PT 105 = P_cp2 := hp.1.1.1.1.1.1.1.1.1.1.1.1.2.2.2.2.2.2.2.2.2.2.2.1
  have e200 : PT 200 = P_sy := hp.1.1.2.2.2.2.2.2.2.1
  have e209 : PT 209 = P_woS := hp.2.2.2.2.1
  simp only [hF0, hF11, hF13, hF21, hFp_78, hFp_104, hFp_105, hFp_200, hFp_209, e78, e104, e105, e200, e209, P_ly, P_ru, P_cp2, P_sy, P_woS, den_s, den_c, Int.add_zero, List.map_cons, List.map_nil] at f0 f1 f3 f4 f5 f7 f8 f9 f10 f11 f12 f14 ⊢
  have b4 : (0 : Int) ≤ ρ 4 ∧ ρ 4 ≤ 8 := hB 4 (0, 8) rfl
  have b5 : (0 : Int) ≤ ρ 5 ∧ ρ 5 ≤ 6 := hB 5 (0, 6) rfl
  have b6 : (0 : Int) ≤ ρ 6 ∧ ρ 6 ≤ 6 := hB 6 (0, 6) rfl
  have b7 : (0 : Int) ≤ ρ 7 ∧ ρ 7 ≤ 8 := hB 7 (0, 8) rfl
  have b13 : (0 : Int) ≤ ρ 13 ∧ ρ 13 ≤ 7 := hB 13 (0, 7) rfl
  have b14 : (0 : Int) ≤ ρ 14 ∧ ρ 14 ≤ 2 := hB 14 (0, 2) rfl
  have b15 : ((-2147483648) : Int) ≤ ρ 15 ∧ ρ 15 ≤ 2147483647 := hB 15 ((-2147483648), 2147483647) rfl
  have b16 : (0 : Int) ≤ ρ 16 ∧ ρ 16 ≤ 2 := hB 16 (0, 2) rfl
  have b17 : (0 : Int) ≤ ρ 17 ∧ ρ 17 ≤ 8 := hB 17 (0, 8) rfl
  have b18 : (0 : Int) ≤ ρ 18 ∧ ρ 18 ≤ 10 := hB 18 (0, 10) rfl
  have b19 : (0 : Int) ≤ ρ 19 ∧ ρ 19 ≤ 11 := hB 19 (0, 11) rfl
  have b20 : ((-2147483648) : Int) ≤ ρ 20 ∧ ρ 20 ≤ 2147483647 := hB 20 ((-2147483648), 2147483647) rfl
  have b21 : ((-2147483648) : Int) ≤ ρ 21 ∧ ρ 21 ≤ 2147483647 := hB 21 ((-2147483648), 2147483647) rfl
  have b22 : (1 : Int) ≤ ρ 22 ∧ ρ 22 ≤ 1 := hB 22 (1, 1) rfl
  have b23 : (1 : Int) ≤ ρ 23 ∧ ρ 23 ≤ 4 := hB 23 (1, 4) rfl
  have b24 : ((-2147483648) : Int) ≤ ρ 24 ∧ ρ 24 ≤ 2147483647 := hB 24 ((-2147483648), 2147483647) rfl
  clear hB
  generalize ρ 4 = r4, ρ 5 = r5, ρ 6 = r6, ρ 7 = r7, ρ 13 = r13, ρ 14 = r14, ρ 15 = r15, ρ 16 = r16, ρ 17 = r17, ρ 18 = r18, ρ 19 = r19, ρ 20 = r20, ρ 21 = r21, ρ 22 = r22, ρ 23 = r23, ρ 24 = r24, α 1 = a1, α 2 = a2, α 9 = a9, α 10 = a10, α 11 = a11, α 12 = a12, α 13 = a13, α 14 = a14, α 15 = a15, α 16 = a16, α 26 = a26, α 27 = a27, α 28 = a28, α 35 = a35, α 36 = a36, α 37 = a37, α 38 = a38, α 39 = a39, α 40 = a40, α 41 = a41, α 42 = a42, α 43 = a43, α 44 = a44, α 45 = a45, α 49 = a49, α 50 = a50, α 51 = a51, α 52 = a52, α 53 = a53, α 54 = a54, α 55 = a55 at *
  subst f0
  subst f1
  subst f5
  obtain ⟨h1, h2⟩ := f3
  have e1 : r19 = r18 := by omega
  have e2 : r20 = 0 := by omega
  have e3 : r21 = 0 := by omega
  have e4 : r4 = r4 := by omega
  rw [e1, e2, e3, e4] at h1 h2
  obtain ⟨a, b', so, i1, i2, i3, i4, i5⟩ := f8
  have hs := f4
  first
    | exact ⟨a, b', so, i1, i2, fun q hq => by rw [updI_ne hq]; exact i3 q hq, i4, obB_s i5 (by omega) ⟨_, fun q hq => by rw [updI_ne hq]; exact i3 q hq, updI_at _ _ _, _, _, _, _, _, _, ⟨_, _, _, h1, h2⟩, hs⟩ (by rw [if_pos (by omega)])⟩
    | exact ⟨a, b', so, i1, i2, fun q hq => by rw [updI_ne hq]; exact i3 q hq, i4, obB_s i5 (by omega) ⟨_, fun q hq => by rw [updI_ne hq]; exact i3 q hq, updI_at _ _ _, _, _, _, _, _, _, ⟨_, _, _, h1, h2⟩, hs⟩ (by rw [if_neg (by omega)]; exact mOr_0 (by omega) (by omega))⟩)
def w_sortsBy_1_4 : VC := ((bY ++ [(0, 7), (0, 2), ((-2147483648), 2147483647), (0, 2), (0, 8), (0, 10), (0, 11), ((-2147483648), 2147483647), ((-2147483648), 2147483647), (1, 1), (1, 4), ((-2147483648), 2147483647)]), [(11, [(some 24, 0), (some 15, 0), (some 23, 0)], []), (13, [(some 23, 0), (none, 1), (some 16, 0)], []), (1, [(some 22, 0), (none, 0)], []), (104, [(none, 24), (some 17, 0), (some 19, 0), (some 18, 0), (some 4, 0), (some 5, 0), (some 6, 0), (some 20, 0), (some 21, 0)], [49, 36, 37, 38, 39, 40, 41, 42, 11, 12, 13, 14, 15, 16, 43, 44, 45, 50, 51, 52, 53, 54, 55]), (200, [(some 22, 0), (some 7, 0), (some 17, 0)], [26, 27, 28, 53]), (21, [(some 13, 0), (some 16, 0)], [49, 35]), (2, [(some 16, 0), (none, 3)], []), (105, [(some 4, 0)], [9, 10, 41, 42]), (209, [(some 16, 0), (some 15, 0), (some 13, 0), (some 14, 0), (some 7, 0), (some 17, 0), (some 18, 0), (some 4, 0), (some 5, 0), (some 6, 0)], [1, 2, 35, 36, 37, 38, 39, 40, 41, 42, 11, 12, 13, 14, 15, 16, 26, 27, 28]), (0, [(some 19, 0), (some 18, 0)], []), (0, [(some 20, 0), (none, 0)], []), (0, [(some 21, 0), (none, 0)], []), (0, [(some 4, 0), (some 4, 0)], []), (3, [(none, 3), (some 16, 0)], []), (78, [], [1])], (3, [(none, 3), (some 16, 1)], []))
set_option maxRecDepth 20000 in
theorem v_sortsBy_1_4 {PT : PTy} (hp : HP17 PT) : vcOk PT w_sortsBy_1_4 := vc_of (fun ρ α hB hF => by
  obtain ⟨f0, f1, -, f3, f4, f5, -, f7, f8, f9, f10, f11, f12, -, f14, -⟩ := hF
  have e78 : PT 78 = P_ly := hp.1.1.1.1.1.1.1.1.1.1.1.1.1.1.1.2.2.2.2.2.2.2.1
  have e104 : PT 104 = P_ru := hp.1.1.1.1.1.1.1.1.1.1.1.1.2.2.2.2.2.2.2.2.2.2.1
  have e105 : PT 105 = P_cp2 := hp.1.1.1.1.1.1.1.1.1.1.1.1.2.2.2.2.2.2.2.2.2.2.2.1
  have e200 : PT 200 = P_sy := hp.1.1.2.2.2.2.2.2.2.1
  have e209 : PT 209 = P_woS := hp.2.2.2.2.1
  simp only [hF0, hF3, hF11, hF13, hF21, hFp_78, hFp_104, hFp_105, hFp_200, hFp_209, e78, e104, e105, e200, e209, P_ly, P_ru, P_cp2, P_sy, P_woS, den_s, den_c, Int.add_zero, List.map_cons, List.map_nil] at f0 f1 f3 f4 f5 f7 f8 f9 f10 f11 f12 f14 ⊢
  have b4 : (0 : Int) ≤ ρ 4 ∧ ρ 4 ≤ 8 := hB 4 (0, 8) rfl
  have b5 : (0 : Int) ≤ ρ 5 ∧ ρ 5 ≤ 6 := hB 5 (0, 6) rfl
  have b6 : (0 : Int) ≤ ρ 6 ∧ ρ 6 ≤ 6 := hB 6 (0, 6) rfl
  have b7 : (0 : Int) ≤ ρ 7 ∧ ρ 7 ≤ 8 := hB 7 (0, 8) rfl
  have b13 : (0 : Int) ≤ ρ 13 ∧ ρ 13 ≤ 7 := hB 13 (0, 7) rfl
  have b14 : (0 : Int) ≤ ρ 14 ∧ ρ 14 ≤ 2 := hB 14 (0, 2) rfl
  have b15 : ((-2147483648) : Int) ≤ ρ 15 ∧ ρ 15 ≤ 2147483647 := hB 15 ((-2147483648), 2147483647) rfl
  have b16 : (0 : Int) ≤ ρ 16 ∧ ρ 16 ≤ 2 := hB 16 (0, 2) rfl
  have b17 : (0 : Int) ≤ ρ 17 ∧ ρ 17 ≤ 8 := hB 17 (0, 8) rfl
  have b18 : (0 : Int) ≤ ρ 18 ∧ ρ 18 ≤ 10 := hB 18 (0, 10) rfl
  have b19 : (0 : Int) ≤ ρ 19 ∧ ρ 19 ≤ 11 := hB 19 (0, 11) rfl
  have b20 : ((-2147483648) : Int) ≤ ρ 20 ∧ ρ 20 ≤ 2147483647 := hB 20 ((-2147483648), 2147483647) rfl
  have b21 : ((-2147483648) : Int) ≤ ρ 21 ∧ ρ 21 ≤ 2147483647 := hB 21 ((-2147483648), 2147483647) rfl
  have b22 : (1 : Int) ≤ ρ 22 ∧ ρ 22 ≤ 1 := hB 22 (1, 1) rfl
  have b23 : (1 : Int) ≤ ρ 23 ∧ ρ 23 ≤ 4 := hB 23 (1, 4) rfl
  have b24 : ((-2147483648) : Int) ≤ ρ 24 ∧ ρ 24 ≤ 2147483647 := hB 24 ((-2147483648), 2147483647) rfl
  clear hB
  generalize ρ 4 = r4, ρ 5 = r5, ρ 6 = r6, ρ 7 = r7, ρ 13 = r13, ρ 14 = r14, ρ 15 = r15, ρ 16 = r16, ρ 17 = r17, ρ 18 = r18, ρ 19 = r19, ρ 20 = r20, ρ 21 = r21, ρ 22 = r22, ρ 23 = r23, ρ 24 = r24, α 1 = a1, α 2 = a2, α 9 = a9, α 10 = a10, α 11 = a11, α 12 = a12, α 13 = a13, α 14 = a14, α 15 = a15, α 16 = a16, α 26 = a26, α 27 = a27, α 28 = a28, α 35 = a35, α 36 = a36, α 37 = a37, α 38 = a38, α 39 = a39, α 40 = a40, α 41 = a41, α 42 = a42, α 43 = a43, α 44 = a44, α 45 = a45, α 49 = a49, α 50 = a50, α 51 = a51, α 52 = a52, α 53 = a53, α 54 = a54, α 55 = a55 at *
  subst f0
  subst f1
  subst f5
  omega)
set_option maxRecDepth 1000000 in
theorem k_sortsBy {PT : PTy} (hp : HP17 PT) : wfX c_sortsBy = true ∧ xcOk PT c_sortsBy := xctr (xl (k_asTold hp.1.1.1.1.1.1.1.1.1.1.1.1) (xl (k_isSeen hp.1.1) (xl0))) c_sortsBy 41 mX7_sortsBy rfl h_sortsBy (by decide +kernel) (by decide +kernel) (by decide) (vcs_by [w_sortsBy_0_0, w_sortsBy_0_1] (by decide +kernel) (vc (v_sortsBy_0_0 hp) (vc (v_sortsBy_0_1 hp) vn))) (fmc (vcs_by [w_sortsBy_1_0, w_sortsBy_1_1, w_sortsBy_1_2, w_sortsBy_1_3, w_sortsBy_1_4] (by decide +kernel) (vc (v_sortsBy_1_0 hp) (vc (v_sortsBy_1_1 hp) (vc (v_sortsBy_1_2 hp) (vc (v_sortsBy_1_3 hp) (vc (v_sortsBy_1_4 hp) vn)))))) fmn)
