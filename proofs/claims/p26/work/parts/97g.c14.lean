/-! ===== the reference: what runs a year; printed by wip/gen/x ===== -/
def P_rt (l : List Int) (a : List (Int → Int)) : Prop := match l, a with
  | [n, m, nk, nl, nt], [L, T, so, sz, wh, gr, md, du, KD, KO, kd, ko, ld, lw, lm, td, tw, tm, CA, TA, SA, C, U, S] => toY n m nk L T so sz wh gr md du KD KO kd ko ∧ yY n m nk nl nt 0 0 so sz wh gr md du KD KO ld lw lm td tw tm CA TA SA C U S
  | _, _ => False
theorem hFp_163 {PT : PTy} {ρ : Nat → Int} {α : Nat → Int → Int} (l : List AN) (a : List Nat) : hF PT ρ α (163, l, a) = PT 163 (l.map (den ρ)) (a.map α) := rfl
def P_ocY (l : List Int) (a : List (Int → Int)) : Prop := match l, a with
  | [r, d, k, w, n, m, nk, nl, nt], [L, T, so, sz, wh, gr, md, du, KD, KO, kd, ko, ld, lw, lm, td, tw, tm, CA, TA, SA, C, U, S] => ∃ n0, nP n0 (L 0) T ∧ (¬ (0 ≤ d ∧ d ≤ 23 ∧ 0 ≤ k ∧ k < n0 ∧ 0 ≤ w ∧ w ≤ 2) → r = -2) ∧ (0 ≤ d ∧ d ≤ 23 ∧ 0 ≤ k ∧ k < n0 ∧ 0 ≤ w ∧ w ≤ 2 → n = n0 ∧ (toY n m nk L T so sz wh gr md du KD KO kd ko ∧ yY n m nk nl nt 0 0 so sz wh gr md du KD KO ld lw lm td tw tm CA TA SA C U S) ∧ (w = 0 → r = CA (8 * d + k)) ∧ (w = 1 → (CA (8 * d + k) - sz k = 0 ∨ CA (8 * d + k) - sz k = 1) → r = 1) ∧ (w = 1 → ¬ (CA (8 * d + k) - sz k = 0 ∨ CA (8 * d + k) - sz k = 1) → r = 0) ∧ (w = 2 → r = TA (8 * d + k)))
  | _, _ => False
theorem hFp_164 {PT : PTy} {ρ : Nat → Int} {α : Nat → Int → Int} (l : List AN) (a : List Nat) : hF PT ρ α (164, l, a) = PT 164 (l.map (den ρ)) (a.map α) := rfl
def P_osY (l : List Int) (a : List (Int → Int)) : Prop := match l, a with
  | [r, d, k, n, m, nk, nl, nt], [L, T, so, sz, wh, gr, md, du, KD, KO, kd, ko, ld, lw, lm, td, tw, tm, CA, TA, SA, C, U, S] => ∃ n0, nV n0 (L 1) (sh T) ∧ (¬ (0 ≤ d ∧ d ≤ 23 ∧ 0 ≤ k ∧ k < n0) → r = -2) ∧ (0 ≤ d ∧ d ≤ 23 ∧ 0 ≤ k ∧ k < n0 → m = n0 ∧ (toY n m nk L T so sz wh gr md du KD KO kd ko ∧ yY n m nk nl nt 0 0 so sz wh gr md du KD KO ld lw lm td tw tm CA TA SA C U S) ∧ r = SA (12 * d + k))
  | _, _ => False
theorem hFp_165 {PT : PTy} {ρ : Nat → Int} {α : Nat → Int → Int} (l : List AN) (a : List Nat) : hF PT ρ α (165, l, a) = PT 165 (l.map (den ρ)) (a.map α) := rfl
def P_onY (l : List Int) (a : List (Int → Int)) : Prop := match l, a with
  | [r, d, n, m, nk, nl, nt], [L, T, so, sz, wh, gr, md, du, KD, KO, kd, ko, ld, lw, lm, td, tw, tm, CA, TA, SA, C, U, S] => (¬ (0 ≤ d ∧ d ≤ 23) → r = -2) ∧ (0 ≤ d ∧ d ≤ 23 → (toY n m nk L T so sz wh gr md du KD KO kd ko ∧ yY n m nk nl nt 0 0 so sz wh gr md du KD KO ld lw lm td tw tm CA TA SA C U S) ∧ r = bitF (atD d CA) sz n)
  | _, _ => False
theorem hFp_166 {PT : PTy} {ρ : Nat → Int} {α : Nat → Int → Int} (l : List AN) (a : List Nat) : hF PT ρ α (166, l, a) = PT 166 (l.map (den ρ)) (a.map α) := rfl
def P_okY (l : List Int) (a : List (Int → Int)) : Prop := match l, a with
  | [r, d, n, m, nk, nl, nt], [L, T, so, sz, wh, gr, md, du, KD, KO, kd, ko, ld, lw, lm, td, tw, tm, CA, TA, SA, C, U, S] => (¬ (0 ≤ d ∧ d ≤ 23) → r = -2) ∧ (0 ≤ d ∧ d ≤ 23 → (toY n m nk L T so sz wh gr md du KD KO kd ko ∧ yY n m nk nl nt 0 0 so sz wh gr md du KD KO ld lw lm td tw tm CA TA SA C U S) ∧ r = nkdF (atD d CA) n)
  | _, _ => False
theorem hFp_167 {PT : PTy} {ρ : Nat → Int} {α : Nat → Int → Int} (l : List AN) (a : List Nat) : hF PT ρ α (167, l, a) = PT 167 (l.map (den ρ)) (a.map α) := rfl
def P_olY (l : List Int) (a : List (Int → Int)) : Prop := match l, a with
  | [r, d, n, m, nk, nl, nt], [L, T, so, sz, wh, gr, md, du, KD, KO, kd, ko, ld, lw, lm, td, tw, tm, CA, TA, SA, C, U, S] => (¬ (0 ≤ d ∧ d ≤ 23) → r = -2) ∧ (0 ≤ d ∧ d ≤ 23 → (toY n m nk L T so sz wh gr md du KD KO kd ko ∧ yY n m nk nl nt 0 0 so sz wh gr md du KD KO ld lw lm td tw tm CA TA SA C U S) ∧ lgS n r (atD d CA))
  | _, _ => False
theorem hFp_168 {PT : PTy} {ρ : Nat → Int} {α : Nat → Int → Int} (l : List AN) (a : List Nat) : hF PT ρ α (168, l, a) = PT 168 (l.map (den ρ)) (a.map α) := rfl
def P_opY (l : List Int) (a : List (Int → Int)) : Prop := match l, a with
  | [r, n, m, nk, nl, nt], [L, T, so, sz, wh, gr, md, du, KD, KO, kd, ko, ld, lw, lm, td, tw, tm, CA, TA, SA, C, U, S] => (toY n m nk L T so sz wh gr md du KD KO kd ko ∧ yY n m nk nl nt 0 0 so sz wh gr md du KD KO ld lw lm td tw tm CA TA SA C U S) ∧ r = rpsF U n
  | _, _ => False
theorem hFp_169 {PT : PTy} {ρ : Nat → Int} {α : Nat → Int → Int} (l : List AN) (a : List Nat) : hF PT ρ α (169, l, a) = PT 169 (l.map (den ρ)) (a.map α) := rfl
def P_obY (l : List Int) (a : List (Int → Int)) : Prop := match l, a with
  | [r, n, m, nk, nl, nt], [L, T, so, sz, wh, gr, md, du, KD, KO, kd, ko, ld, lw, lm, td, tw, tm, CA, TA, SA, C, U, S] => (toY n m nk L T so sz wh gr md du KD KO kd ko ∧ yY n m nk nl nt 0 0 so sz wh gr md du KD KO ld lw lm td tw tm CA TA SA C U S) ∧ (n = 0 → r = -1) ∧ (0 < n → lgS 24 r (fun d => cntF (atD d CA) sz n))
  | _, _ => False
theorem hFp_170 {PT : PTy} {ρ : Nat → Int} {α : Nat → Int → Int} (l : List AN) (a : List Nat) : hF PT ρ α (170, l, a) = PT 170 (l.map (den ρ)) (a.map α) := rfl
def P_bitY (l : List Int) (a : List (Int → Int)) : Prop := match l, a with
  | [b, k, d], [CA, sz] => b = bitF (atD d CA) sz k
  | _, _ => False
theorem hFp_171 {PT : PTy} {ρ : Nat → Int} {α : Nat → Int → Int} (l : List AN) (a : List Nat) : hF PT ρ α (171, l, a) = PT 171 (l.map (den ρ)) (a.map α) := rfl
def P_nkY (l : List Int) (a : List (Int → Int)) : Prop := match l, a with
  | [b, k, d], [CA] => b = nkdF (atD d CA) k
  | _, _ => False
theorem hFp_172 {PT : PTy} {ρ : Nat → Int} {α : Nat → Int → Int} (l : List AN) (a : List Nat) : hF PT ρ α (172, l, a) = PT 172 (l.map (den ρ)) (a.map α) := rfl
def P_lgY (l : List Int) (a : List (Int → Int)) : Prop := match l, a with
  | [k, w, d], [CA] => lgS k w (atD d CA)
  | _, _ => False
theorem hFp_173 {PT : PTy} {ρ : Nat → Int} {α : Nat → Int → Int} (l : List AN) (a : List Nat) : hF PT ρ α (173, l, a) = PT 173 (l.map (den ρ)) (a.map α) := rfl
def P_cnY (l : List Int) (a : List (Int → Int)) : Prop := match l, a with
  | [c, k, d], [CA, sz] => c = cntF (atD d CA) sz k ∧ c ≤ k
  | _, _ => False
theorem hFp_174 {PT : PTy} {ρ : Nat → Int} {α : Nat → Int → Int} (l : List AN) (a : List Nat) : hF PT ρ α (174, l, a) = PT 174 (l.map (den ρ)) (a.map α) := rfl
def P_rpY (l : List Int) (a : List (Int → Int)) : Prop := match l, a with
  | [b, k], [U] => b = rpsF U k
  | _, _ => False
theorem hFp_175 {PT : PTy} {ρ : Nat → Int} {α : Nat → Int → Int} (l : List AN) (a : List Nat) : hF PT ρ α (175, l, a) = PT 175 (l.map (den ρ)) (a.map α) := rfl
def P_beY (l : List Int) (a : List (Int → Int)) : Prop := match l, a with
  | [d, w, n], [CA, sz] => lgS d w (fun d => cntF (atD d CA) sz n)
  | _, _ => False
theorem hFp_176 {PT : PTy} {ρ : Nat → Int} {α : Nat → Int → Int} (l : List AN) (a : List Nat) : hF PT ρ α (176, l, a) = PT 176 (l.map (den ρ)) (a.map α) := rfl
def P_wcY (l : List Int) (a : List (Int → Int)) : Prop := match l, a with
  | [i, k, s], [M, T, T2, CA] => T2 = upF T (60 * s) (fun i => cutF (M s) (CA (8 * i + k))) i.toNat
  | _, _ => False
theorem hFp_177 {PT : PTy} {ρ : Nat → Int} {α : Nat → Int → Int} (l : List AN) (a : List Nat) : hF PT ρ α (177, l, a) = PT 177 (l.map (den ρ)) (a.map α) := rfl
def P_owY (l : List Int) (a : List (Int → Int)) : Prop := match l, a with
  | [r, k, s, g, G, n, m, nk, nl, nt], [L, T, so, sz, wh, gr, md, du, KD, KO, kd, ko, ld, lw, lm, td, tw, tm, CA, TA, SA, C, U, S, I, M, N, V, V2] => ∃ n0, nP n0 (L 0) T ∧ (¬ (0 ≤ k ∧ k < n0 ∧ 0 ≤ s ∧ s ≤ 3) → r = -2 ∧ G = g ∧ V2 = V) ∧ (0 ≤ k ∧ k < n0 ∧ 0 ≤ s ∧ s ≤ 3 → I s = 0 → r = -11 ∧ G = 1 ∧ V2 = V) ∧ (0 ≤ k ∧ k < n0 ∧ 0 ≤ s ∧ s ≤ 3 → ¬ I s = 0 → n = n0 ∧ (toY n m nk L T so sz wh gr md du KD KO kd ko ∧ yY n m nk nl nt 0 0 so sz wh gr md du KD KO ld lw lm td tw tm CA TA SA C U S) ∧ (N s ≤ 24 → r = N s) ∧ (24 ≤ N s → r = 24) ∧ G = g ∧ V2 = upF V (60 * s) (fun i => cutF (M s) (CA (8 * i + k))) r.toNat)
  | _, _ => False
theorem hFp_178 {PT : PTy} {ρ : Nat → Int} {α : Nat → Int → Int} (l : List AN) (a : List Nat) : hF PT ρ α (178, l, a) = PT 178 (l.map (den ρ)) (a.map α) := rfl
def P_owI (l : List Int) (a : List (Int → Int)) : Prop := match l, a with
  | [i, k, s, n], [L, T, I, N] => nP n (L 0) T ∧ 0 ≤ k ∧ k < n ∧ 0 ≤ s ∧ s ≤ 3 ∧ ¬ I s = 0 ∧ (0 < i → i ≤ N s)
  | _, _ => False
theorem hFp_179 {PT : PTy} {ρ : Nat → Int} {α : Nat → Int → Int} (l : List AN) (a : List Nat) : hF PT ρ α (179, l, a) = PT 179 (l.map (den ρ)) (a.map α) := rfl
def HP12 (PT : PTy) : Prop := HP11 PT ∧ (PT 163 = P_rt ∧ PT 164 = P_ocY ∧ PT 165 = P_osY ∧ PT 166 = P_onY ∧ PT 167 = P_okY ∧ PT 168 = P_olY ∧ PT 169 = P_opY ∧ PT 170 = P_obY ∧ PT 171 = P_bitY ∧ PT 172 = P_nkY ∧ PT 173 = P_lgY ∧ PT 174 = P_cnY ∧ PT 175 = P_rpY ∧ PT 176 = P_beY ∧ PT 177 = P_wcY ∧ PT 178 = P_owY ∧ PT 179 = P_owI ∧ True)
def c_rtY : XC := (141, 6, (bY), [.inr (.inl 0)], gY2, [(78, [], [1])], [((bY ++ [(0, 8), (0, 10), (0, 11), ((-2147483648), 2147483647), ((-2147483648), 2147483647)]), none, (hst gY2 [(0, .inr (.inr (.inr (7, [.inr (.inl 1), .inr (.inl 2), .inl (some 13, 0), .inr (.inl 3), .inr (.inl 4), .inl (some 14, 0), .inr (.inl 5), .inr (.inl 6), .inr (.inl 7), .inr (.inl 8), .inl (some 4, 0), .inr (.inl 9), .inr (.inl 10), .inl (some 5, 0), .inr (.inl 11), .inr (.inl 12), .inr (.inl 13), .inl (some 6, 0), .inr (.inl 14), .inr (.inl 15), .inr (.inl 16), .inl (some 15, 0), .inl (some 4, 0), .inr (.inl 17), .inr (.inl 18), .inl (some 16, 0), .inl (some 17, 0), .inr (.inl 19), .inr (.inl 20), .inr (.inl 21), .inr (.inl 22), .inr (.inl 23), .inr (.inl 24), .inr (.inl 25), .inl (some 7, 0), .inr (.inl 26), .inr (.inl 27), .inr (.inl 28), .inr (.inl 29), .inr (.inl 30), .inr (.inl 31), .inr (.inl 32), .inr (.inl 33), .inr (.inl 34), .inl (some 12, 0)]))))]), [0, 1, 2, 35, 36, 37, 38, 39, 40, 9, 10, 11, 12, 13, 14, 15, 16, 41, 42, 43, 44, 45, 46, 47, 48, 25, 26, 27, 28, 29, 30, 31, 32, 33, 34], 49, [(163, [(some 13, 0), (some 14, 0), (some 4, 0), (some 5, 0), (some 6, 0)], [1, 2, 35, 36, 37, 38, 39, 40, 41, 42, 9, 10, 11, 12, 13, 14, 15, 16, 46, 47, 48, 43, 44, 45])])])
def h_rtY : List XH := []
def w_rtY_0_0 : VC := ((bY ++ [(0, 8), (0, 10), (0, 11), ((-2147483648), 2147483647), ((-2147483648), 2147483647)]), [(104, [(none, 24), (some 13, 0), (some 15, 0), (some 14, 0), (some 4, 0), (some 5, 0), (some 6, 0), (some 16, 0), (some 17, 0)], [35, 36, 37, 38, 39, 40, 41, 42, 11, 12, 13, 14, 15, 16, 19, 20, 21, 43, 44, 45, 46, 47, 48]), (106, [(some 13, 0), (some 14, 0)], [1, 2, 35, 36, 37, 38, 39, 40]), (105, [(some 4, 0)], [9, 10, 41, 42]), (0, [(some 15, 0), (some 14, 0)], []), (0, [(some 4, 0), (some 4, 0)], []), (0, [(some 16, 0), (none, 0)], []), (0, [(some 17, 0), (none, 0)], []), (78, [], [1])], (163, [(some 13, 0), (some 14, 0), (some 4, 0), (some 5, 0), (some 6, 0)], [1, 2, 35, 36, 37, 38, 39, 40, 41, 42, 9, 10, 11, 12, 13, 14, 15, 16, 46, 47, 48, 43, 44, 45]))
theorem pe78_12 {PT : PTy} (hp : HP12 PT) : PT 78 = P_ly := hp.1.1.1.1.1.1.1.1.1.1.2.2.2.2.2.2.2.1
theorem pe104_12 {PT : PTy} (hp : HP12 PT) : PT 104 = P_ru := hp.1.1.1.1.1.1.1.2.2.2.2.2.2.2.2.2.2.1
theorem pe105_12 {PT : PTy} (hp : HP12 PT) : PT 105 = P_cp2 := hp.1.1.1.1.1.1.1.2.2.2.2.2.2.2.2.2.2.2.1
theorem pe106_12 {PT : PTy} (hp : HP12 PT) : PT 106 = P_rd := hp.1.1.1.1.1.1.1.2.2.2.2.2.2.2.2.2.2.2.2.1
theorem pe163_12 {PT : PTy} (hp : HP12 PT) : PT 163 = P_rt := hp.2.1
set_option maxRecDepth 20000 in
theorem v_rtY_0_0 {PT : PTy} (hp : HP12 PT) : vcOk PT w_rtY_0_0 := vc_iv [(4, 0, 8), (5, 0, 6), (6, 0, 6), (13, 0, 8), (14, 0, 10), (15, 0, 11), (16, (-2147483648), 2147483647), (17, (-2147483648), 2147483647)] [1, 2, 9, 10, 11, 12, 13, 14, 15, 16, 19, 20, 21, 35, 36, 37, 38, 39, 40, 41, 42, 43, 44, 45, 46, 47, 48] (by decide +kernel) (fun ρ α => by
  intro r4 g4 b4 r5 g5 b5 r6 g6 b6 r13 g13 b13 r14 g14 b14 r15 g15 b15 r16 g16 b16 r17 g17 b17 a1 h1 a2 h2 a9 h9 a10 h10 a11 h11 a12 h12 a13 h13 a14 h14 a15 h15 a16 h16 a19 h19 a20 h20 a21 h21 a35 h35 a36 h36 a37 h37 a38 h38 a39 h39 a40 h40 a41 h41 a42 h42 a43 h43 a44 h44 a45 h45 a46 h46 a47 h47 a48 h48 f0 f1 f2 f3 f4 f5 f6 f7 tt
  have e78 : PT 78 = P_ly := pe78_12 hp
  have e104 : PT 104 = P_ru := pe104_12 hp
  have e105 : PT 105 = P_cp2 := pe105_12 hp
  have e106 : PT 106 = P_rd := pe106_12 hp
  have e163 : PT 163 = P_rt := pe163_12 hp
  simp only [hF0, hFp_78, hFp_104, hFp_105, hFp_106, hFp_163, e78, e104, e105, e106, e163, P_ly, P_ru, P_cp2, P_rd, P_rt, den_s, den_c, Int.add_zero, List.map_cons, List.map_nil, g4.eq, g5.eq, g6.eq, g13.eq, g14.eq, g15.eq, g16.eq, g17.eq, h1, h2, h9, h10, h11, h12, h13, h14, h15, h16, h19, h20, h21, h35, h36, h37, h38, h39, h40, h41, h42, h43, h44, h45, h46, h47, h48] at f0 f1 f2 f3 f4 f5 f6 f7 ⊢
  obtain ⟨h1, h2⟩ := f0
  have hr := f1
  have e1 : r15 = r14 := by omega
  have e2 : r16 = 0 := by omega
  have e3 : r17 = 0 := by omega
  rw [e1, e2, e3] at h1 h2
  exact ⟨⟨hr, f2⟩, _, _, _, h1, h2⟩)
set_option maxRecDepth 1000000 in
theorem k_rtY {PT : PTy} (hp : HP12 PT) : wfX c_rtY = true ∧ xcOk PT c_rtY := xctr (xl (k_runs hp.1.1.1.1.1.1.1) (xl (k_asTold hp.1.1.1.1.1.1.1) (xl0))) c_rtY 25 mX7_runsTold rfl h_rtY (by decide +kernel) (by decide +kernel) (by decide) (vcs_by [w_rtY_0_0] (by decide +kernel) (vc (v_rtY_0_0 hp) vn)) fmn
def c_nakedNow : XC := (150, 0, (bY ++ [(0, 23)]), [.inr (.inl 0), .inl (some 13, 0)], gY2, [], [((bY ++ [(0, 23), ((-2147483648), 2147483647)]), some (.inl (some 14, 0)), gY2, (List.range 35), 35, [(172, [(some 14, 0), (some 2, 0), (some 13, 0)], [22])])])
def h_nakedNow : List XH := [(4, (bY ++ [(0, 23), ((-2147483648), 2147483647), (0, 8)]), [some (.inr (.inl 0)), some (.inl (some 13, 0)), some (.inl (some 14, 0)), some (.inl (some 15, 0))], gY2, (List.range 35), 35, [(172, [(some 14, 0), (some 15, 0), (some 13, 0)], [22]), (3, [(some 2, 0), (some 15, 0)], [])], [(true, (none, 1)), (true, (some 15, 0))])]
def w_nakedNow_0_0 : VC := ((bY ++ [(0, 23)]), [], (172, [(none, 0), (none, 0), (some 13, 0)], [22]))
theorem pe172_12 {PT : PTy} (hp : HP12 PT) : PT 172 = P_nkY := hp.2.2.2.2.2.2.2.2.2.2.1
set_option maxRecDepth 20000 in
theorem v_nakedNow_0_0 {PT : PTy} (hp : HP12 PT) : vcOk PT w_nakedNow_0_0 := vc_iv [(13, 0, 23)] [22] (by decide +kernel) (fun ρ α => by
  intro r13 g13 b13 a22 h22 tt
  have e172 : PT 172 = P_nkY := pe172_12 hp
  simp only [hFp_172, e172, P_nkY, den_s, den_c, Int.add_zero, List.map_cons, List.map_nil, g13.eq, h22] at ⊢
  first
    | omega
    | rfl)
def w_nakedNow_0_1 : VC := ((bY ++ [(0, 23)]), [], (3, [(some 2, 0), (none, 0)], []))
set_option maxRecDepth 20000 in
theorem v_nakedNow_0_1 {PT : PTy} (hp : HP12 PT) : vcOk PT w_nakedNow_0_1 := vc_iv [(2, 0, 8)] [] (by decide +kernel) (fun ρ α => by
  intro r2 g2 b2 tt
  simp only [hF3, den_s, den_c, Int.add_zero, List.map_cons, List.map_nil, g2.eq] at ⊢
  first
    | omega
    | rfl)
def w_nakedNow_1_0 : VC := ((bY ++ [(0, 23), ((-2147483648), 2147483647), (0, 8)]), [(3, [(some 15, 0), (some 2, 0)], []), (172, [(some 14, 0), (some 15, 0), (some 13, 0)], [22]), (3, [(some 2, 0), (some 15, 0)], [])], (172, [(some 14, 0), (some 2, 0), (some 13, 0)], [22]))
set_option maxRecDepth 20000 in
theorem v_nakedNow_1_0 {PT : PTy} (hp : HP12 PT) : vcOk PT w_nakedNow_1_0 := vc_iv [(2, 0, 8), (13, 0, 23), (14, (-2147483648), 2147483647), (15, 0, 8)] [22] (by decide +kernel) (fun ρ α => by
  intro r2 g2 b2 r13 g13 b13 r14 g14 b14 r15 g15 b15 a22 h22 f0 f1 f2 tt
  have e172 : PT 172 = P_nkY := pe172_12 hp
  simp only [hF3, hFp_172, e172, P_nkY, den_s, den_c, Int.add_zero, List.map_cons, List.map_nil, g2.eq, g13.eq, g14.eq, g15.eq, h22] at f0 f1 f2 ⊢
  first
    | omega
    | (have hi := f1; unfold nkdF at hi ⊢; rw [foldI_s (by omega), ← hi]; unfold atD; first | (rw [if_pos (by omega)]) | (rw [if_neg (by omega)]; exact mOr_0 (by omega) (by omega)))
    | (rw [show r2 = r15 by omega]; exact f1))
def w_nakedNow_1_1 : VC := (([(0, 23), (0, 49), (1, 8), (0, 10), (0, 8), (0, 6), (0, 6), (0, 8), (0, 11), (0, 9), ((-2147483648), 2147483647), ((-2147483648), 2147483647), (0, 5), (0, 23), ((-2147483648), 2147483647), (0, 7), (0, 184), (0, 191), (1, 99), ((-2147483648), 2147483647)]), [(11, [(some 19, 0), (some 14, 0), (none, 0)], []), (1, [(some 18, 0), (none, 0)], []), (20, [(some 18, 0), (some 17, 0)], [22]), (4, [(some 17, 0), (some 16, 0), (some 15, 0)], []), (6, [(some 16, 0), (none, 8), (some 13, 0)], []), (2, [(some 15, 0), (some 2, 0)], []), (172, [(some 14, 0), (some 15, 0), (some 13, 0)], [22]), (3, [(some 2, 0), (some 15, 0)], [])], (172, [(some 19, 0), (some 15, 1), (some 13, 0)], [22]))
set_option maxRecDepth 20000 in
theorem v_nakedNow_1_1 {PT : PTy} (hp : HP12 PT) : vcOk PT w_nakedNow_1_1 := vc_iv [(2, 1, 8), (13, 0, 23), (14, (-2147483648), 2147483647), (15, 0, 7), (16, 0, 184), (17, 0, 191), (18, 1, 99), (19, (-2147483648), 2147483647)] [22] (by decide +kernel) (fun ρ α => by
  intro r2 g2 b2 r13 g13 b13 r14 g14 b14 r15 g15 b15 r16 g16 b16 r17 g17 b17 r18 g18 b18 r19 g19 b19 a22 h22 f0 f1 f2 f3 f4 f5 f6 f7 tt
  clear f1
  have e172 : PT 172 = P_nkY := pe172_12 hp
  simp only [hF2, hF3, hF4, hF6, hF11, hF20, hFp_172, e172, P_nkY, den_s, den_c, Int.add_zero, List.map_cons, List.map_nil, g2.eq, g13.eq, g14.eq, g15.eq, g16.eq, g17.eq, g18.eq, g19.eq, h22] at f0 f2 f3 f4 f5 f6 f7 ⊢
  subst f0
  subst f2
  subst f3
  subst f4
  first
    | omega
    | (have hi := f6; unfold nkdF at hi ⊢; rw [foldI_s (by omega), ← hi]; unfold atD; first | (rw [if_pos (by omega)]) | (rw [if_neg (by omega)]; exact mOr_0 (by omega) (by omega)))
    | (rw [show (r15 + 1) = r15 by omega]; exact f6))
def w_nakedNow_1_2 : VC := (([(0, 23), (0, 49), (1, 8), (0, 10), (0, 8), (0, 6), (0, 6), (0, 8), (0, 11), (0, 9), ((-2147483648), 2147483647), ((-2147483648), 2147483647), (0, 5), (0, 23), ((-2147483648), 2147483647), (0, 7), (0, 184), (0, 191), (1, 99), ((-2147483648), 2147483647)]), [(11, [(some 19, 0), (some 14, 0), (none, 0)], []), (1, [(some 18, 0), (none, 0)], []), (20, [(some 18, 0), (some 17, 0)], [22]), (4, [(some 17, 0), (some 16, 0), (some 15, 0)], []), (6, [(some 16, 0), (none, 8), (some 13, 0)], []), (2, [(some 15, 0), (some 2, 0)], []), (172, [(some 14, 0), (some 15, 0), (some 13, 0)], [22]), (3, [(some 2, 0), (some 15, 0)], [])], (3, [(some 2, 0), (some 15, 1)], []))
set_option maxRecDepth 20000 in
theorem v_nakedNow_1_2 {PT : PTy} (hp : HP12 PT) : vcOk PT w_nakedNow_1_2 := vc_iv [(2, 1, 8), (13, 0, 23), (14, (-2147483648), 2147483647), (15, 0, 7), (16, 0, 184), (17, 0, 191), (18, 1, 99), (19, (-2147483648), 2147483647)] [22] (by decide +kernel) (fun ρ α => by
  intro r2 g2 b2 r13 g13 b13 r14 g14 b14 r15 g15 b15 r16 g16 b16 r17 g17 b17 r18 g18 b18 r19 g19 b19 a22 h22 f0 f1 f2 f3 f4 f5 f6 f7 tt
  clear f1
  have e172 : PT 172 = P_nkY := pe172_12 hp
  simp only [hF2, hF3, hF4, hF6, hF11, hF20, hFp_172, e172, P_nkY, den_s, den_c, Int.add_zero, List.map_cons, List.map_nil, g2.eq, g13.eq, g14.eq, g15.eq, g16.eq, g17.eq, g18.eq, g19.eq, h22] at f0 f2 f3 f4 f5 f6 f7 ⊢
  subst f0
  subst f2
  subst f3
  subst f4
  first
    | omega
    | (have hi := f6; unfold nkdF at hi ⊢; rw [foldI_s (by omega), ← hi]; unfold atD; first | (rw [if_pos (by omega)]) | (rw [if_neg (by omega)]; exact mOr_0 (by omega) (by omega)))
    | (rw [show (r15 + 1) = r15 by omega]; exact f6))
def w_nakedNow_1_3 : VC := (([(0, 23), (0, 49), (1, 8), (0, 10), (0, 8), (0, 6), (0, 6), (0, 8), (0, 11), (0, 9), ((-2147483648), 2147483647), ((-2147483648), 2147483647), (0, 5), (0, 23), ((-2147483648), 2147483647), (0, 7), (0, 184), (0, 191), (0, 0), (1, 128), ((-2147483648), 2147483647)]), [(11, [(some 20, 0), (some 14, 0), (some 19, 0)], []), (13, [(some 19, 0), (none, 1), (some 15, 0)], []), (0, [(some 18, 0), (none, 0)], []), (20, [(some 18, 0), (some 17, 0)], [22]), (4, [(some 17, 0), (some 16, 0), (some 15, 0)], []), (6, [(some 16, 0), (none, 8), (some 13, 0)], []), (2, [(some 15, 0), (some 2, 0)], []), (172, [(some 14, 0), (some 15, 0), (some 13, 0)], [22]), (3, [(some 2, 0), (some 15, 0)], [])], (172, [(some 20, 0), (some 15, 1), (some 13, 0)], [22]))
set_option maxRecDepth 20000 in
theorem v_nakedNow_1_3 {PT : PTy} (hp : HP12 PT) : vcOk PT w_nakedNow_1_3 := vc_iv [(2, 1, 8), (13, 0, 23), (14, (-2147483648), 2147483647), (15, 0, 7), (16, 0, 184), (17, 0, 191), (18, 0, 0), (19, 1, 128), (20, (-2147483648), 2147483647)] [22] (by decide +kernel) (fun ρ α => by
  intro r2 g2 b2 r13 g13 b13 r14 g14 b14 r15 g15 b15 r16 g16 b16 r17 g17 b17 r18 g18 b18 r19 g19 b19 r20 g20 b20 a22 h22 f0 f1 f2 f3 f4 f5 f6 f7 f8 tt
  have e172 : PT 172 = P_nkY := pe172_12 hp
  simp only [hF0, hF2, hF3, hF4, hF6, hF11, hF13, hF20, hFp_172, e172, P_nkY, den_s, den_c, Int.add_zero, List.map_cons, List.map_nil, g2.eq, g13.eq, g14.eq, g15.eq, g16.eq, g17.eq, g18.eq, g19.eq, g20.eq, h22] at f0 f1 f2 f3 f4 f5 f6 f7 f8 ⊢
  subst f0
  subst f1
  subst f3
  subst f4
  subst f5
  first
    | omega
    | (have hi := f7; unfold nkdF at hi ⊢; rw [foldI_s (by omega), ← hi]; unfold atD; first | (rw [if_pos (by omega)]) | (rw [if_neg (by omega)]; exact mOr_0 (by omega) (by omega)))
    | (rw [show (r15 + 1) = r15 by omega]; exact f7))
def w_nakedNow_1_4 : VC := (([(0, 23), (0, 49), (1, 8), (0, 10), (0, 8), (0, 6), (0, 6), (0, 8), (0, 11), (0, 9), ((-2147483648), 2147483647), ((-2147483648), 2147483647), (0, 5), (0, 23), ((-2147483648), 2147483647), (0, 7), (0, 184), (0, 191), (0, 0), (1, 128), ((-2147483648), 2147483647)]), [(11, [(some 20, 0), (some 14, 0), (some 19, 0)], []), (13, [(some 19, 0), (none, 1), (some 15, 0)], []), (0, [(some 18, 0), (none, 0)], []), (20, [(some 18, 0), (some 17, 0)], [22]), (4, [(some 17, 0), (some 16, 0), (some 15, 0)], []), (6, [(some 16, 0), (none, 8), (some 13, 0)], []), (2, [(some 15, 0), (some 2, 0)], []), (172, [(some 14, 0), (some 15, 0), (some 13, 0)], [22]), (3, [(some 2, 0), (some 15, 0)], [])], (3, [(some 2, 0), (some 15, 1)], []))
set_option maxRecDepth 20000 in
theorem v_nakedNow_1_4 {PT : PTy} (hp : HP12 PT) : vcOk PT w_nakedNow_1_4 := vc_iv [(2, 1, 8), (13, 0, 23), (14, (-2147483648), 2147483647), (15, 0, 7), (16, 0, 184), (17, 0, 191), (18, 0, 0), (19, 1, 128), (20, (-2147483648), 2147483647)] [22] (by decide +kernel) (fun ρ α => by
  intro r2 g2 b2 r13 g13 b13 r14 g14 b14 r15 g15 b15 r16 g16 b16 r17 g17 b17 r18 g18 b18 r19 g19 b19 r20 g20 b20 a22 h22 f0 f1 f2 f3 f4 f5 f6 f7 f8 tt
  have e172 : PT 172 = P_nkY := pe172_12 hp
  simp only [hF0, hF2, hF3, hF4, hF6, hF11, hF13, hF20, hFp_172, e172, P_nkY, den_s, den_c, Int.add_zero, List.map_cons, List.map_nil, g2.eq, g13.eq, g14.eq, g15.eq, g16.eq, g17.eq, g18.eq, g19.eq, g20.eq, h22] at f0 f1 f2 f3 f4 f5 f6 f7 f8 ⊢
  subst f0
  subst f1
  subst f3
  subst f4
  subst f5
  first
    | omega
    | (have hi := f7; unfold nkdF at hi ⊢; rw [foldI_s (by omega), ← hi]; unfold atD; first | (rw [if_pos (by omega)]) | (rw [if_neg (by omega)]; exact mOr_0 (by omega) (by omega)))
    | (rw [show (r15 + 1) = r15 by omega]; exact f7))
set_option maxRecDepth 1000000 in
theorem k_nakedNow {PT : PTy} (hp : HP12 PT) : wfX c_nakedNow = true ∧ xcOk PT c_nakedNow := xctr (xl0) c_nakedNow 43 mX7_nakedNow rfl h_nakedNow (by decide +kernel) (by decide +kernel) (by decide) (vcs_by [w_nakedNow_0_0, w_nakedNow_0_1] (by decide +kernel) (vc (v_nakedNow_0_0 hp) (vc (v_nakedNow_0_1 hp) vn))) (fmc (vcs_by [w_nakedNow_1_0, w_nakedNow_1_1, w_nakedNow_1_2, w_nakedNow_1_3, w_nakedNow_1_4] (by decide +kernel) (vc (v_nakedNow_1_0 hp) (vc (v_nakedNow_1_1 hp) (vc (v_nakedNow_1_2 hp) (vc (v_nakedNow_1_3 hp) (vc (v_nakedNow_1_4 hp) vn)))))) fmn)
def c_fitMany : XC := (143, 2, (bY ++ [(0, 23)]), [.inr (.inl 0), .inl (some 13, 0)], gY2, [], [((bY ++ [(0, 23), (0, 8)]), some (.inl (some 14, 0)), gY2, (List.range 35), 35, [(174, [(some 14, 0), (some 2, 0), (some 13, 0)], [22, 4])])])
def h_fitMany : List XH := [(4, (bY ++ [(0, 23), (0, 8), (0, 8)]), [some (.inr (.inl 0)), some (.inl (some 13, 0)), some (.inl (some 14, 0)), some (.inl (some 15, 0))], gY2, (List.range 35), 35, [(174, [(some 14, 0), (some 15, 0), (some 13, 0)], [22, 4]), (3, [(some 2, 0), (some 15, 0)], [])], [(true, (none, 1)), (true, (some 15, 0))])]
def w_fitMany_0_0 : VC := ((bY ++ [(0, 23)]), [], (174, [(none, 0), (none, 0), (some 13, 0)], [22, 4]))
theorem pe174_12 {PT : PTy} (hp : HP12 PT) : PT 174 = P_cnY := hp.2.2.2.2.2.2.2.2.2.2.2.2.1
set_option maxRecDepth 20000 in
theorem v_fitMany_0_0 {PT : PTy} (hp : HP12 PT) : vcOk PT w_fitMany_0_0 := vc_iv [(13, 0, 23)] [4, 22] (by decide +kernel) (fun ρ α => by
  intro r13 g13 b13 a4 h4 a22 h22 tt
  have e174 : PT 174 = P_cnY := pe174_12 hp
  simp only [hFp_174, e174, P_cnY, den_s, den_c, Int.add_zero, List.map_cons, List.map_nil, g13.eq, h4, h22] at ⊢
  first
    | omega
    | exact ⟨rfl, by omega⟩)
def w_fitMany_0_1 : VC := ((bY ++ [(0, 23)]), [], (3, [(some 2, 0), (none, 0)], []))
set_option maxRecDepth 20000 in
theorem v_fitMany_0_1 {PT : PTy} (hp : HP12 PT) : vcOk PT w_fitMany_0_1 := vc_iv [(2, 0, 8)] [] (by decide +kernel) (fun ρ α => by
  intro r2 g2 b2 tt
  simp only [hF3, den_s, den_c, Int.add_zero, List.map_cons, List.map_nil, g2.eq] at ⊢
  first
    | omega
    | exact ⟨rfl, by omega⟩)
def w_fitMany_1_0 : VC := ((bY ++ [(0, 23), (0, 8), (0, 8)]), [(3, [(some 15, 0), (some 2, 0)], []), (174, [(some 14, 0), (some 15, 0), (some 13, 0)], [22, 4]), (3, [(some 2, 0), (some 15, 0)], [])], (174, [(some 14, 0), (some 2, 0), (some 13, 0)], [22, 4]))
set_option maxRecDepth 20000 in
theorem v_fitMany_1_0 {PT : PTy} (hp : HP12 PT) : vcOk PT w_fitMany_1_0 := vc_iv [(2, 0, 8), (13, 0, 23), (14, 0, 8), (15, 0, 8)] [4, 22] (by decide +kernel) (fun ρ α => by
  intro r2 g2 b2 r13 g13 b13 r14 g14 b14 r15 g15 b15 a4 h4 a22 h22 f0 f1 f2 tt
  have e174 : PT 174 = P_cnY := pe174_12 hp
  simp only [hF3, hFp_174, e174, P_cnY, den_s, den_c, Int.add_zero, List.map_cons, List.map_nil, g2.eq, g13.eq, g14.eq, g15.eq, h4, h22] at f0 f1 f2 ⊢
  first
    | omega
    | (obtain ⟨hi, hl⟩ := f1; omega)
    | (obtain ⟨hi, hl⟩ := f1; refine ⟨?_, by omega⟩; unfold cntF at hi ⊢; rw [foldI_s (by omega), ← hi]; unfold atD; first | (rw [if_pos (by omega)]) | (rw [if_neg (by omega)] <;> first | rfl | omega))
    | (rw [show r2 = r15 by omega]; exact f1))
def w_fitMany_1_1 : VC := (([(0, 23), (0, 49), (1, 8), (0, 10), (0, 8), (0, 6), (0, 6), (0, 8), (0, 11), (0, 9), ((-2147483648), 2147483647), ((-2147483648), 2147483647), (0, 5), (0, 23), (0, 8), (0, 7), (0, 184), (0, 191), (0, 99), (0, 9), ((-9), (-1))]), [(0, [(none, 0), (none, 0)], []), (2, [(some 20, 0), (none, 0)], []), (5, [(some 20, 0), (some 18, 0), (some 19, 0)], []), (20, [(some 19, 0), (some 15, 0)], [4]), (20, [(some 18, 0), (some 17, 0)], [22]), (4, [(some 17, 0), (some 16, 0), (some 15, 0)], []), (6, [(some 16, 0), (none, 8), (some 13, 0)], []), (2, [(some 15, 0), (some 2, 0)], []), (174, [(some 14, 0), (some 15, 0), (some 13, 0)], [22, 4]), (3, [(some 2, 0), (some 15, 0)], [])], (174, [(some 14, 0), (some 15, 1), (some 13, 0)], [22, 4]))
set_option maxRecDepth 20000 in
theorem v_fitMany_1_1 {PT : PTy} (hp : HP12 PT) : vcOk PT w_fitMany_1_1 := vc_iv [(2, 1, 8), (13, 0, 23), (14, 0, 8), (15, 0, 7), (16, 0, 184), (17, 0, 191), (18, 0, 99), (19, 0, 9), (20, (-9), (-1))] [4, 22] (by decide +kernel) (fun ρ α => by
  intro r2 g2 b2 r13 g13 b13 r14 g14 b14 r15 g15 b15 r16 g16 b16 r17 g17 b17 r18 g18 b18 r19 g19 b19 r20 g20 b20 a4 h4 a22 h22 f0 f1 f2 f3 f4 f5 f6 f7 f8 f9 tt
  clear f0 f1
  have e174 : PT 174 = P_cnY := pe174_12 hp
  simp only [hF2, hF3, hF4, hF5, hF6, hF20, hFp_174, e174, P_cnY, den_s, den_c, Int.add_zero, List.map_cons, List.map_nil, g2.eq, g13.eq, g14.eq, g15.eq, g16.eq, g17.eq, g18.eq, g19.eq, g20.eq, h4, h22] at f2 f3 f4 f5 f6 f7 f8 f9 ⊢
  subst f2
  subst f3
  subst f4
  subst f5
  subst f6
  first
    | omega
    | (obtain ⟨hi, hl⟩ := f8; omega)
    | (obtain ⟨hi, hl⟩ := f8; refine ⟨?_, by omega⟩; unfold cntF at hi ⊢; rw [foldI_s (by omega), ← hi]; unfold atD; first | (rw [if_pos (by omega)]) | (rw [if_neg (by omega)] <;> first | rfl | omega))
    | (rw [show (r15 + 1) = r15 by omega]; exact f8))
def w_fitMany_1_2 : VC := (([(0, 23), (0, 49), (1, 8), (0, 10), (0, 8), (0, 6), (0, 6), (0, 8), (0, 11), (0, 9), ((-2147483648), 2147483647), ((-2147483648), 2147483647), (0, 5), (0, 23), (0, 8), (0, 7), (0, 184), (0, 191), (0, 99), (0, 9), ((-9), (-1))]), [(0, [(none, 0), (none, 0)], []), (2, [(some 20, 0), (none, 0)], []), (5, [(some 20, 0), (some 18, 0), (some 19, 0)], []), (20, [(some 19, 0), (some 15, 0)], [4]), (20, [(some 18, 0), (some 17, 0)], [22]), (4, [(some 17, 0), (some 16, 0), (some 15, 0)], []), (6, [(some 16, 0), (none, 8), (some 13, 0)], []), (2, [(some 15, 0), (some 2, 0)], []), (174, [(some 14, 0), (some 15, 0), (some 13, 0)], [22, 4]), (3, [(some 2, 0), (some 15, 0)], [])], (3, [(some 2, 0), (some 15, 1)], []))
set_option maxRecDepth 20000 in
theorem v_fitMany_1_2 {PT : PTy} (hp : HP12 PT) : vcOk PT w_fitMany_1_2 := vc_iv [(2, 1, 8), (13, 0, 23), (14, 0, 8), (15, 0, 7), (16, 0, 184), (17, 0, 191), (18, 0, 99), (19, 0, 9), (20, (-9), (-1))] [4, 22] (by decide +kernel) (fun ρ α => by
  intro r2 g2 b2 r13 g13 b13 r14 g14 b14 r15 g15 b15 r16 g16 b16 r17 g17 b17 r18 g18 b18 r19 g19 b19 r20 g20 b20 a4 h4 a22 h22 f0 f1 f2 f3 f4 f5 f6 f7 f8 f9 tt
  clear f0 f1
  have e174 : PT 174 = P_cnY := pe174_12 hp
  simp only [hF2, hF3, hF4, hF5, hF6, hF20, hFp_174, e174, P_cnY, den_s, den_c, Int.add_zero, List.map_cons, List.map_nil, g2.eq, g13.eq, g14.eq, g15.eq, g16.eq, g17.eq, g18.eq, g19.eq, g20.eq, h4, h22] at f2 f3 f4 f5 f6 f7 f8 f9 ⊢
  subst f2
  subst f3
  subst f4
  subst f5
  subst f6
  first
    | omega
    | (obtain ⟨hi, hl⟩ := f8; omega)
    | (obtain ⟨hi, hl⟩ := f8; refine ⟨?_, by omega⟩; unfold cntF at hi ⊢; rw [foldI_s (by omega), ← hi]; unfold atD; first | (rw [if_pos (by omega)]) | (rw [if_neg (by omega)] <;> first | rfl | omega))
    | (rw [show (r15 + 1) = r15 by omega]; exact f8))
def w_fitMany_1_3 : VC := (([(0, 23), (0, 49), (1, 8), (0, 10), (0, 8), (0, 6), (0, 6), (0, 8), (0, 11), (0, 9), ((-2147483648), 2147483647), ((-2147483648), 2147483647), (0, 5), (0, 23), (0, 8), (0, 7), (0, 184), (0, 191), (0, 99), (0, 9), (2, 99)]), [(0, [(none, 0), (none, 0)], []), (2, [(none, 1), (some 20, 0)], []), (3, [(some 20, 0), (none, 0)], []), (5, [(some 20, 0), (some 18, 0), (some 19, 0)], []), (20, [(some 19, 0), (some 15, 0)], [4]), (20, [(some 18, 0), (some 17, 0)], [22]), (4, [(some 17, 0), (some 16, 0), (some 15, 0)], []), (6, [(some 16, 0), (none, 8), (some 13, 0)], []), (2, [(some 15, 0), (some 2, 0)], []), (174, [(some 14, 0), (some 15, 0), (some 13, 0)], [22, 4]), (3, [(some 2, 0), (some 15, 0)], [])], (174, [(some 14, 0), (some 15, 1), (some 13, 0)], [22, 4]))
set_option maxRecDepth 20000 in
theorem v_fitMany_1_3 {PT : PTy} (hp : HP12 PT) : vcOk PT w_fitMany_1_3 := vc_iv [(2, 1, 8), (13, 0, 23), (14, 0, 8), (15, 0, 7), (16, 0, 184), (17, 0, 191), (18, 0, 99), (19, 0, 9), (20, 2, 99)] [4, 22] (by decide +kernel) (fun ρ α => by
  intro r2 g2 b2 r13 g13 b13 r14 g14 b14 r15 g15 b15 r16 g16 b16 r17 g17 b17 r18 g18 b18 r19 g19 b19 r20 g20 b20 a4 h4 a22 h22 f0 f1 f2 f3 f4 f5 f6 f7 f8 f9 f10 tt
  clear f0 f1 f2
  have e174 : PT 174 = P_cnY := pe174_12 hp
  simp only [hF2, hF3, hF4, hF5, hF6, hF20, hFp_174, e174, P_cnY, den_s, den_c, Int.add_zero, List.map_cons, List.map_nil, g2.eq, g13.eq, g14.eq, g15.eq, g16.eq, g17.eq, g18.eq, g19.eq, g20.eq, h4, h22] at f3 f4 f5 f6 f7 f8 f9 f10 ⊢
  subst f3
  subst f4
  subst f5
  subst f6
  subst f7
  first
    | omega
    | (obtain ⟨hi, hl⟩ := f9; omega)
    | (obtain ⟨hi, hl⟩ := f9; refine ⟨?_, by omega⟩; unfold cntF at hi ⊢; rw [foldI_s (by omega), ← hi]; unfold atD; first | (rw [if_pos (by omega)]) | (rw [if_neg (by omega)] <;> first | rfl | omega))
    | (rw [show (r15 + 1) = r15 by omega]; exact f9))
def w_fitMany_1_4 : VC := (([(0, 23), (0, 49), (1, 8), (0, 10), (0, 8), (0, 6), (0, 6), (0, 8), (0, 11), (0, 9), ((-2147483648), 2147483647), ((-2147483648), 2147483647), (0, 5), (0, 23), (0, 8), (0, 7), (0, 184), (0, 191), (0, 99), (0, 9), (2, 99)]), [(0, [(none, 0), (none, 0)], []), (2, [(none, 1), (some 20, 0)], []), (3, [(some 20, 0), (none, 0)], []), (5, [(some 20, 0), (some 18, 0), (some 19, 0)], []), (20, [(some 19, 0), (some 15, 0)], [4]), (20, [(some 18, 0), (some 17, 0)], [22]), (4, [(some 17, 0), (some 16, 0), (some 15, 0)], []), (6, [(some 16, 0), (none, 8), (some 13, 0)], []), (2, [(some 15, 0), (some 2, 0)], []), (174, [(some 14, 0), (some 15, 0), (some 13, 0)], [22, 4]), (3, [(some 2, 0), (some 15, 0)], [])], (3, [(some 2, 0), (some 15, 1)], []))
set_option maxRecDepth 20000 in
theorem v_fitMany_1_4 {PT : PTy} (hp : HP12 PT) : vcOk PT w_fitMany_1_4 := vc_iv [(2, 1, 8), (13, 0, 23), (14, 0, 8), (15, 0, 7), (16, 0, 184), (17, 0, 191), (18, 0, 99), (19, 0, 9), (20, 2, 99)] [4, 22] (by decide +kernel) (fun ρ α => by
  intro r2 g2 b2 r13 g13 b13 r14 g14 b14 r15 g15 b15 r16 g16 b16 r17 g17 b17 r18 g18 b18 r19 g19 b19 r20 g20 b20 a4 h4 a22 h22 f0 f1 f2 f3 f4 f5 f6 f7 f8 f9 f10 tt
  clear f0 f1 f2
  have e174 : PT 174 = P_cnY := pe174_12 hp
  simp only [hF2, hF3, hF4, hF5, hF6, hF20, hFp_174, e174, P_cnY, den_s, den_c, Int.add_zero, List.map_cons, List.map_nil, g2.eq, g13.eq, g14.eq, g15.eq, g16.eq, g17.eq, g18.eq, g19.eq, g20.eq, h4, h22] at f3 f4 f5 f6 f7 f8 f9 f10 ⊢
  subst f3
  subst f4
  subst f5
  subst f6
  subst f7
  first
    | omega
    | (obtain ⟨hi, hl⟩ := f9; omega)
    | (obtain ⟨hi, hl⟩ := f9; refine ⟨?_, by omega⟩; unfold cntF at hi ⊢; rw [foldI_s (by omega), ← hi]; unfold atD; first | (rw [if_pos (by omega)]) | (rw [if_neg (by omega)] <;> first | rfl | omega))
    | (rw [show (r15 + 1) = r15 by omega]; exact f9))
def w_fitMany_1_5 : VC := (([(0, 23), (0, 49), (1, 8), (0, 10), (0, 8), (0, 6), (0, 6), (0, 8), (0, 11), (0, 9), ((-2147483648), 2147483647), ((-2147483648), 2147483647), (0, 5), (0, 23), (0, 8), (0, 7), (0, 184), (0, 191), (0, 99), (0, 9), (0, 1)]), [(1, [(none, 1), (none, 0)], []), (3, [(none, 1), (some 20, 0)], []), (3, [(some 20, 0), (none, 0)], []), (5, [(some 20, 0), (some 18, 0), (some 19, 0)], []), (20, [(some 19, 0), (some 15, 0)], [4]), (20, [(some 18, 0), (some 17, 0)], [22]), (4, [(some 17, 0), (some 16, 0), (some 15, 0)], []), (6, [(some 16, 0), (none, 8), (some 13, 0)], []), (2, [(some 15, 0), (some 2, 0)], []), (174, [(some 14, 0), (some 15, 0), (some 13, 0)], [22, 4]), (3, [(some 2, 0), (some 15, 0)], [])], (3, [(some 14, 1), (none, 0)], []))
set_option maxRecDepth 20000 in
theorem v_fitMany_1_5 {PT : PTy} (hp : HP12 PT) : vcOk PT w_fitMany_1_5 := vc_iv [(2, 1, 8), (13, 0, 23), (14, 0, 8), (15, 0, 7), (16, 0, 184), (17, 0, 191), (18, 0, 99), (19, 0, 9), (20, 0, 1)] [4, 22] (by decide +kernel) (fun ρ α => by
  intro r2 g2 b2 r13 g13 b13 r14 g14 b14 r15 g15 b15 r16 g16 b16 r17 g17 b17 r18 g18 b18 r19 g19 b19 r20 g20 b20 a4 h4 a22 h22 f0 f1 f2 f3 f4 f5 f6 f7 f8 f9 f10 tt
  clear f0 f1 f2
  have e174 : PT 174 = P_cnY := pe174_12 hp
  simp only [hF2, hF3, hF4, hF5, hF6, hF20, hFp_174, e174, P_cnY, den_s, den_c, Int.add_zero, List.map_cons, List.map_nil, g2.eq, g13.eq, g14.eq, g15.eq, g16.eq, g17.eq, g18.eq, g19.eq, g20.eq, h4, h22] at f3 f4 f5 f6 f7 f8 f9 f10 ⊢
  subst f3
  subst f4
  subst f5
  subst f6
  subst f7
  first
    | omega
    | (obtain ⟨hi, hl⟩ := f9; omega)
    | (obtain ⟨hi, hl⟩ := f9; refine ⟨?_, by omega⟩; unfold cntF at hi ⊢; rw [foldI_s (by omega), ← hi]; unfold atD; first | (rw [if_pos (by omega)]) | (rw [if_neg (by omega)] <;> first | rfl | omega))
    | (rw [show 0 = r15 by omega]; exact f9))
def w_fitMany_1_6 : VC := (([(0, 23), (0, 49), (1, 8), (0, 10), (0, 8), (0, 6), (0, 6), (0, 8), (0, 11), (0, 9), ((-2147483648), 2147483647), ((-2147483648), 2147483647), (0, 5), (0, 23), (0, 8), (0, 7), (0, 184), (0, 191), (0, 99), (0, 9), (0, 1)]), [(1, [(none, 1), (none, 0)], []), (3, [(none, 1), (some 20, 0)], []), (3, [(some 20, 0), (none, 0)], []), (5, [(some 20, 0), (some 18, 0), (some 19, 0)], []), (20, [(some 19, 0), (some 15, 0)], [4]), (20, [(some 18, 0), (some 17, 0)], [22]), (4, [(some 17, 0), (some 16, 0), (some 15, 0)], []), (6, [(some 16, 0), (none, 8), (some 13, 0)], []), (2, [(some 15, 0), (some 2, 0)], []), (174, [(some 14, 0), (some 15, 0), (some 13, 0)], [22, 4]), (3, [(some 2, 0), (some 15, 0)], [])], (3, [(none, 8), (some 14, 1)], []))
set_option maxRecDepth 20000 in
theorem v_fitMany_1_6 {PT : PTy} (hp : HP12 PT) : vcOk PT w_fitMany_1_6 := vc_iv [(2, 1, 8), (13, 0, 23), (14, 0, 8), (15, 0, 7), (16, 0, 184), (17, 0, 191), (18, 0, 99), (19, 0, 9), (20, 0, 1)] [4, 22] (by decide +kernel) (fun ρ α => by
  intro r2 g2 b2 r13 g13 b13 r14 g14 b14 r15 g15 b15 r16 g16 b16 r17 g17 b17 r18 g18 b18 r19 g19 b19 r20 g20 b20 a4 h4 a22 h22 f0 f1 f2 f3 f4 f5 f6 f7 f8 f9 f10 tt
  clear f0 f1 f2
  have e174 : PT 174 = P_cnY := pe174_12 hp
  simp only [hF2, hF3, hF4, hF5, hF6, hF20, hFp_174, e174, P_cnY, den_s, den_c, Int.add_zero, List.map_cons, List.map_nil, g2.eq, g13.eq, g14.eq, g15.eq, g16.eq, g17.eq, g18.eq, g19.eq, g20.eq, h4, h22] at f3 f4 f5 f6 f7 f8 f9 f10 ⊢
  subst f3
  subst f4
  subst f5
  subst f6
  subst f7
  first
    | omega
    | (obtain ⟨hi, hl⟩ := f9; omega)
    | (obtain ⟨hi, hl⟩ := f9; refine ⟨?_, by omega⟩; unfold cntF at hi ⊢; rw [foldI_s (by omega), ← hi]; unfold atD; first | (rw [if_pos (by omega)]) | (rw [if_neg (by omega)] <;> first | rfl | omega))
    | (rw [show (r14 + 1) = r15 by omega]; exact f9))
def w_fitMany_1_7 : VC := (([(0, 23), (0, 49), (1, 8), (0, 10), (0, 8), (0, 6), (0, 6), (0, 8), (0, 11), (0, 9), ((-2147483648), 2147483647), ((-2147483648), 2147483647), (0, 5), (0, 23), (0, 8), (0, 7), (0, 184), (0, 191), (0, 99), (0, 9), (0, 1)]), [(1, [(none, 1), (none, 0)], []), (3, [(none, 1), (some 20, 0)], []), (3, [(some 20, 0), (none, 0)], []), (5, [(some 20, 0), (some 18, 0), (some 19, 0)], []), (20, [(some 19, 0), (some 15, 0)], [4]), (20, [(some 18, 0), (some 17, 0)], [22]), (4, [(some 17, 0), (some 16, 0), (some 15, 0)], []), (6, [(some 16, 0), (none, 8), (some 13, 0)], []), (2, [(some 15, 0), (some 2, 0)], []), (174, [(some 14, 0), (some 15, 0), (some 13, 0)], [22, 4]), (3, [(some 2, 0), (some 15, 0)], [])], (174, [(some 14, 1), (some 15, 1), (some 13, 0)], [22, 4]))
set_option maxRecDepth 20000 in
theorem v_fitMany_1_7 {PT : PTy} (hp : HP12 PT) : vcOk PT w_fitMany_1_7 := vc_iv [(2, 1, 8), (13, 0, 23), (14, 0, 8), (15, 0, 7), (16, 0, 184), (17, 0, 191), (18, 0, 99), (19, 0, 9), (20, 0, 1)] [4, 22] (by decide +kernel) (fun ρ α => by
  intro r2 g2 b2 r13 g13 b13 r14 g14 b14 r15 g15 b15 r16 g16 b16 r17 g17 b17 r18 g18 b18 r19 g19 b19 r20 g20 b20 a4 h4 a22 h22 f0 f1 f2 f3 f4 f5 f6 f7 f8 f9 f10 tt
  clear f0 f1 f2
  have e174 : PT 174 = P_cnY := pe174_12 hp
  simp only [hF2, hF3, hF4, hF5, hF6, hF20, hFp_174, e174, P_cnY, den_s, den_c, Int.add_zero, List.map_cons, List.map_nil, g2.eq, g13.eq, g14.eq, g15.eq, g16.eq, g17.eq, g18.eq, g19.eq, g20.eq, h4, h22] at f3 f4 f5 f6 f7 f8 f9 f10 ⊢
  subst f3
  subst f4
  subst f5
  subst f6
  subst f7
  first
    | omega
    | (obtain ⟨hi, hl⟩ := f9; omega)
    | (obtain ⟨hi, hl⟩ := f9; refine ⟨?_, by omega⟩; unfold cntF at hi ⊢; rw [foldI_s (by omega), ← hi]; unfold atD; first | (rw [if_pos (by omega)]) | (rw [if_neg (by omega)] <;> first | rfl | omega))
    | (rw [show (r15 + 1) = r15 by omega]; exact f9))
def w_fitMany_1_8 : VC := (([(0, 23), (0, 49), (1, 8), (0, 10), (0, 8), (0, 6), (0, 6), (0, 8), (0, 11), (0, 9), ((-2147483648), 2147483647), ((-2147483648), 2147483647), (0, 5), (0, 23), (0, 8), (0, 7), (0, 184), (0, 191), (0, 99), (0, 9), (0, 1)]), [(1, [(none, 1), (none, 0)], []), (3, [(none, 1), (some 20, 0)], []), (3, [(some 20, 0), (none, 0)], []), (5, [(some 20, 0), (some 18, 0), (some 19, 0)], []), (20, [(some 19, 0), (some 15, 0)], [4]), (20, [(some 18, 0), (some 17, 0)], [22]), (4, [(some 17, 0), (some 16, 0), (some 15, 0)], []), (6, [(some 16, 0), (none, 8), (some 13, 0)], []), (2, [(some 15, 0), (some 2, 0)], []), (174, [(some 14, 0), (some 15, 0), (some 13, 0)], [22, 4]), (3, [(some 2, 0), (some 15, 0)], [])], (3, [(some 2, 0), (some 15, 1)], []))
set_option maxRecDepth 20000 in
theorem v_fitMany_1_8 {PT : PTy} (hp : HP12 PT) : vcOk PT w_fitMany_1_8 := vc_iv [(2, 1, 8), (13, 0, 23), (14, 0, 8), (15, 0, 7), (16, 0, 184), (17, 0, 191), (18, 0, 99), (19, 0, 9), (20, 0, 1)] [4, 22] (by decide +kernel) (fun ρ α => by
  intro r2 g2 b2 r13 g13 b13 r14 g14 b14 r15 g15 b15 r16 g16 b16 r17 g17 b17 r18 g18 b18 r19 g19 b19 r20 g20 b20 a4 h4 a22 h22 f0 f1 f2 f3 f4 f5 f6 f7 f8 f9 f10 tt
  clear f0 f1 f2
  have e174 : PT 174 = P_cnY := pe174_12 hp
  simp only [hF2, hF3, hF4, hF5, hF6, hF20, hFp_174, e174, P_cnY, den_s, den_c, Int.add_zero, List.map_cons, List.map_nil, g2.eq, g13.eq, g14.eq, g15.eq, g16.eq, g17.eq, g18.eq, g19.eq, g20.eq, h4, h22] at f3 f4 f5 f6 f7 f8 f9 f10 ⊢
  subst f3
  subst f4
  subst f5
  subst f6
  subst f7
  first
    | omega
    | (obtain ⟨hi, hl⟩ := f9; omega)
    | (obtain ⟨hi, hl⟩ := f9; refine ⟨?_, by omega⟩; unfold cntF at hi ⊢; rw [foldI_s (by omega), ← hi]; unfold atD; first | (rw [if_pos (by omega)]) | (rw [if_neg (by omega)] <;> first | rfl | omega))
    | (rw [show (r15 + 1) = r15 by omega]; exact f9))
set_option maxRecDepth 1000000 in
theorem k_fitMany {PT : PTy} (hp : HP12 PT) : wfX c_fitMany = true ∧ xcOk PT c_fitMany := xctr (xl0) c_fitMany 63 mX7_fitMany rfl h_fitMany (by decide +kernel) (by decide +kernel) (by decide) (vcs_by [w_fitMany_0_0, w_fitMany_0_1] (by decide +kernel) (vc (v_fitMany_0_0 hp) (vc (v_fitMany_0_1 hp) vn))) (fmc (vcs_by [w_fitMany_1_0, w_fitMany_1_1, w_fitMany_1_2, w_fitMany_1_3, w_fitMany_1_4, w_fitMany_1_5, w_fitMany_1_6, w_fitMany_1_7, w_fitMany_1_8] (by decide +kernel) (vc (v_fitMany_1_0 hp) (vc (v_fitMany_1_1 hp) (vc (v_fitMany_1_2 hp) (vc (v_fitMany_1_3 hp) (vc (v_fitMany_1_4 hp) (vc (v_fitMany_1_5 hp) (vc (v_fitMany_1_6 hp) (vc (v_fitMany_1_7 hp) (vc (v_fitMany_1_8 hp) vn)))))))))) fmn)
def c_tearsAll : XC := (155, 0, (bY), [.inr (.inl 0)], gY2, [], [((bY ++ [((-2147483648), 2147483647)]), some (.inl (some 13, 0)), gY2, (List.range 35), 35, [(175, [(some 13, 0), (some 2, 0)], [20])])])
def h_tearsAll : List XH := [(4, (bY ++ [((-2147483648), 2147483647), (0, 8)]), [some (.inr (.inl 0)), some (.inl (some 13, 0)), some (.inl (some 14, 0))], gY2, (List.range 35), 35, [(175, [(some 13, 0), (some 14, 0)], [20]), (3, [(some 2, 0), (some 14, 0)], [])], [(true, (none, 1)), (true, (some 14, 0))])]
def w_tearsAll_0_0 : VC := ((bY), [], (175, [(none, 0), (none, 0)], [20]))
theorem pe175_12 {PT : PTy} (hp : HP12 PT) : PT 175 = P_rpY := hp.2.2.2.2.2.2.2.2.2.2.2.2.2.1
set_option maxRecDepth 20000 in
theorem v_tearsAll_0_0 {PT : PTy} (hp : HP12 PT) : vcOk PT w_tearsAll_0_0 := vc_iv [] [20] (by decide +kernel) (fun ρ α => by
  intro a20 h20 tt
  have e175 : PT 175 = P_rpY := pe175_12 hp
  simp only [hFp_175, e175, P_rpY, den_s, den_c, Int.add_zero, List.map_cons, List.map_nil, h20] at ⊢
  first
    | omega
    | rfl)
def w_tearsAll_0_1 : VC := ((bY), [], (3, [(some 2, 0), (none, 0)], []))
set_option maxRecDepth 20000 in
theorem v_tearsAll_0_1 {PT : PTy} (hp : HP12 PT) : vcOk PT w_tearsAll_0_1 := vc_iv [(2, 0, 8)] [] (by decide +kernel) (fun ρ α => by
  intro r2 g2 b2 tt
  simp only [hF3, den_s, den_c, Int.add_zero, List.map_cons, List.map_nil, g2.eq] at ⊢
  first
    | omega
    | rfl)
def w_tearsAll_1_0 : VC := ((bY ++ [((-2147483648), 2147483647), (0, 8)]), [(3, [(some 14, 0), (some 2, 0)], []), (175, [(some 13, 0), (some 14, 0)], [20]), (3, [(some 2, 0), (some 14, 0)], [])], (175, [(some 13, 0), (some 2, 0)], [20]))
set_option maxRecDepth 20000 in
theorem v_tearsAll_1_0 {PT : PTy} (hp : HP12 PT) : vcOk PT w_tearsAll_1_0 := vc_iv [(2, 0, 8), (13, (-2147483648), 2147483647), (14, 0, 8)] [20] (by decide +kernel) (fun ρ α => by
  intro r2 g2 b2 r13 g13 b13 r14 g14 b14 a20 h20 f0 f1 f2 tt
  have e175 : PT 175 = P_rpY := pe175_12 hp
  simp only [hF3, hFp_175, e175, P_rpY, den_s, den_c, Int.add_zero, List.map_cons, List.map_nil, g2.eq, g13.eq, g14.eq, h20] at f0 f1 f2 ⊢
  first
    | omega
    | (have hi := f1; unfold rpsF at hi ⊢; rw [foldI_s (by omega), ← hi])
    | (rw [show r2 = r14 by omega]; exact f1))
def w_tearsAll_1_1 : VC := (([(0, 23), (0, 49), (1, 8), (0, 10), (0, 8), (0, 6), (0, 6), (0, 8), (0, 11), (0, 9), ((-2147483648), 2147483647), ((-2147483648), 2147483647), (0, 5), ((-2147483648), 2147483647), (0, 7), ((-2147483648), 2147483647), ((-2147483648), 2147483647)]), [(16, [(some 16, 0), (some 13, 0), (some 15, 0)], []), (20, [(some 15, 0), (some 14, 0)], [20]), (2, [(some 14, 0), (some 2, 0)], []), (175, [(some 13, 0), (some 14, 0)], [20]), (3, [(some 2, 0), (some 14, 0)], [])], (175, [(some 16, 0), (some 14, 1)], [20]))
set_option maxRecDepth 20000 in
theorem v_tearsAll_1_1 {PT : PTy} (hp : HP12 PT) : vcOk PT w_tearsAll_1_1 := vc_iv [(2, 1, 8), (13, (-2147483648), 2147483647), (14, 0, 7), (15, (-2147483648), 2147483647), (16, (-2147483648), 2147483647)] [20] (by decide +kernel) (fun ρ α => by
  intro r2 g2 b2 r13 g13 b13 r14 g14 b14 r15 g15 b15 r16 g16 b16 a20 h20 f0 f1 f2 f3 f4 tt
  have e175 : PT 175 = P_rpY := pe175_12 hp
  simp only [hF2, hF3, hF16, hF20, hFp_175, e175, P_rpY, den_s, den_c, Int.add_zero, List.map_cons, List.map_nil, g2.eq, g13.eq, g14.eq, g15.eq, g16.eq, h20] at f0 f1 f2 f3 f4 ⊢
  subst f0
  subst f1
  first
    | omega
    | (have hi := f3; unfold rpsF at hi ⊢; rw [foldI_s (by omega), ← hi])
    | (rw [show (r14 + 1) = r14 by omega]; exact f3))
def w_tearsAll_1_2 : VC := (([(0, 23), (0, 49), (1, 8), (0, 10), (0, 8), (0, 6), (0, 6), (0, 8), (0, 11), (0, 9), ((-2147483648), 2147483647), ((-2147483648), 2147483647), (0, 5), ((-2147483648), 2147483647), (0, 7), ((-2147483648), 2147483647), ((-2147483648), 2147483647)]), [(16, [(some 16, 0), (some 13, 0), (some 15, 0)], []), (20, [(some 15, 0), (some 14, 0)], [20]), (2, [(some 14, 0), (some 2, 0)], []), (175, [(some 13, 0), (some 14, 0)], [20]), (3, [(some 2, 0), (some 14, 0)], [])], (3, [(some 2, 0), (some 14, 1)], []))
set_option maxRecDepth 20000 in
theorem v_tearsAll_1_2 {PT : PTy} (hp : HP12 PT) : vcOk PT w_tearsAll_1_2 := vc_iv [(2, 1, 8), (13, (-2147483648), 2147483647), (14, 0, 7), (15, (-2147483648), 2147483647), (16, (-2147483648), 2147483647)] [20] (by decide +kernel) (fun ρ α => by
  intro r2 g2 b2 r13 g13 b13 r14 g14 b14 r15 g15 b15 r16 g16 b16 a20 h20 f0 f1 f2 f3 f4 tt
  have e175 : PT 175 = P_rpY := pe175_12 hp
  simp only [hF2, hF3, hF16, hF20, hFp_175, e175, P_rpY, den_s, den_c, Int.add_zero, List.map_cons, List.map_nil, g2.eq, g13.eq, g14.eq, g15.eq, g16.eq, h20] at f0 f1 f2 f3 f4 ⊢
  subst f0
  subst f1
  first
    | omega
    | (have hi := f3; unfold rpsF at hi ⊢; rw [foldI_s (by omega), ← hi])
    | (rw [show (r14 + 1) = r14 by omega]; exact f3))
set_option maxRecDepth 1000000 in
theorem k_tearsAll {PT : PTy} (hp : HP12 PT) : wfX c_tearsAll = true ∧ xcOk PT c_tearsAll := xctr (xl0) c_tearsAll 34 mX7_tearsAll rfl h_tearsAll (by decide +kernel) (by decide +kernel) (by decide) (vcs_by [w_tearsAll_0_0, w_tearsAll_0_1] (by decide +kernel) (vc (v_tearsAll_0_0 hp) (vc (v_tearsAll_0_1 hp) vn))) (fmc (vcs_by [w_tearsAll_1_0, w_tearsAll_1_1, w_tearsAll_1_2] (by decide +kernel) (vc (v_tearsAll_1_0 hp) (vc (v_tearsAll_1_1 hp) (vc (v_tearsAll_1_2 hp) vn)))) fmn)
def c_neatOf : XC := (148, 7, (bY ++ [(0, 23)]), [.inr (.inl 0), .inl (some 13, 0)], gY2, [(78, [], [1])], [((bY ++ [(0, 23), ((-2147483648), 2147483647), (0, 8), (0, 10), (0, 11), ((-2147483648), 2147483647), ((-2147483648), 2147483647)]), some (.inl (some 14, 0)), (hst gY2 [(0, .inr (.inr (.inr (7, [.inr (.inl 1), .inr (.inl 2), .inl (some 15, 0), .inr (.inl 3), .inr (.inl 4), .inl (some 16, 0), .inr (.inl 5), .inr (.inl 6), .inr (.inl 7), .inr (.inl 8), .inl (some 4, 0), .inr (.inl 9), .inr (.inl 10), .inl (some 5, 0), .inr (.inl 11), .inr (.inl 12), .inr (.inl 13), .inl (some 6, 0), .inr (.inl 14), .inr (.inl 15), .inr (.inl 16), .inl (some 17, 0), .inl (some 4, 0), .inr (.inl 17), .inr (.inl 18), .inl (some 18, 0), .inl (some 19, 0), .inr (.inl 19), .inr (.inl 20), .inr (.inl 21), .inr (.inl 22), .inr (.inl 23), .inr (.inl 24), .inr (.inl 25), .inl (some 7, 0), .inr (.inl 26), .inr (.inl 27), .inr (.inl 28), .inr (.inl 29), .inr (.inl 30), .inr (.inl 31), .inr (.inl 32), .inr (.inl 33), .inr (.inl 34), .inl (some 12, 0)]))))]), [0, 1, 2, 35, 36, 37, 38, 39, 40, 9, 10, 11, 12, 13, 14, 15, 16, 41, 42, 43, 44, 45, 46, 47, 48, 25, 26, 27, 28, 29, 30, 31, 32, 33, 34], 49, [(163, [(some 15, 0), (some 16, 0), (some 4, 0), (some 5, 0), (some 6, 0)], [1, 2, 35, 36, 37, 38, 39, 40, 41, 42, 9, 10, 11, 12, 13, 14, 15, 16, 46, 47, 48, 43, 44, 45]), (171, [(some 14, 0), (some 15, 0), (some 13, 0)], [46, 36])])])
def h_neatOf : List XH := [(8, (bY ++ [(0, 23), ((-2147483648), 2147483647), (0, 8), (0, 8), (0, 10), (0, 11), ((-2147483648), 2147483647), ((-2147483648), 2147483647)]), [some (.inr (.inl 0)), some (.inl (some 13, 0)), some (.inl (some 14, 0)), some (.inl (some 15, 0))], (hst gY2 [(0, .inr (.inr (.inr (7, [.inr (.inl 1), .inr (.inl 2), .inl (some 16, 0), .inr (.inl 3), .inr (.inl 4), .inl (some 17, 0), .inr (.inl 5), .inr (.inl 6), .inr (.inl 7), .inr (.inl 8), .inl (some 4, 0), .inr (.inl 9), .inr (.inl 10), .inl (some 5, 0), .inr (.inl 11), .inr (.inl 12), .inr (.inl 13), .inl (some 6, 0), .inr (.inl 14), .inr (.inl 15), .inr (.inl 16), .inl (some 18, 0), .inl (some 4, 0), .inr (.inl 17), .inr (.inl 18), .inl (some 19, 0), .inl (some 20, 0), .inr (.inl 19), .inr (.inl 20), .inr (.inl 21), .inr (.inl 22), .inr (.inl 23), .inr (.inl 24), .inr (.inl 25), .inl (some 7, 0), .inr (.inl 26), .inr (.inl 27), .inr (.inl 28), .inr (.inl 29), .inr (.inl 30), .inr (.inl 31), .inr (.inl 32), .inr (.inl 33), .inr (.inl 34), .inl (some 12, 0)]))))]), [0, 1, 2, 35, 36, 37, 38, 39, 40, 9, 10, 11, 12, 13, 14, 15, 16, 41, 42, 43, 44, 45, 46, 47, 48, 25, 26, 27, 28, 29, 30, 31, 32, 33, 34], 49, [(163, [(some 16, 0), (some 17, 0), (some 4, 0), (some 5, 0), (some 6, 0)], [1, 2, 35, 36, 37, 38, 39, 40, 41, 42, 9, 10, 11, 12, 13, 14, 15, 16, 46, 47, 48, 43, 44, 45]), (171, [(some 14, 0), (some 15, 0), (some 13, 0)], [46, 36]), (3, [(some 16, 0), (some 15, 0)], [])], [(true, (none, 1)), (true, (some 15, 0))])]
def w_neatOf_0_0 : VC := ((bY ++ [(0, 23), (0, 8), (0, 10), (0, 11), ((-2147483648), 2147483647), ((-2147483648), 2147483647)]), [(163, [(some 14, 0), (some 15, 0), (some 4, 0), (some 5, 0), (some 6, 0)], [1, 2, 35, 36, 37, 38, 39, 40, 41, 42, 9, 10, 11, 12, 13, 14, 15, 16, 46, 47, 48, 43, 44, 45]), (78, [], [1])], (171, [(none, 0), (none, 0), (some 13, 0)], [46, 36]))
theorem pe171_12 {PT : PTy} (hp : HP12 PT) : PT 171 = P_bitY := hp.2.2.2.2.2.2.2.2.2.1
set_option maxRecDepth 20000 in
theorem v_neatOf_0_0 {PT : PTy} (hp : HP12 PT) : vcOk PT w_neatOf_0_0 := vc_iv [(4, 0, 8), (5, 0, 6), (6, 0, 6), (13, 0, 23), (14, 0, 8), (15, 0, 10)] [1, 2, 9, 10, 11, 12, 13, 14, 15, 16, 35, 36, 37, 38, 39, 40, 41, 42, 43, 44, 45, 46, 47, 48] (by decide +kernel) (fun ρ α => by
  intro r4 g4 b4 r5 g5 b5 r6 g6 b6 r13 g13 b13 r14 g14 b14 r15 g15 b15 a1 h1 a2 h2 a9 h9 a10 h10 a11 h11 a12 h12 a13 h13 a14 h14 a15 h15 a16 h16 a35 h35 a36 h36 a37 h37 a38 h38 a39 h39 a40 h40 a41 h41 a42 h42 a43 h43 a44 h44 a45 h45 a46 h46 a47 h47 a48 h48 f0 f1 tt
  have e78 : PT 78 = P_ly := pe78_12 hp
  have e163 : PT 163 = P_rt := pe163_12 hp
  have e171 : PT 171 = P_bitY := pe171_12 hp
  simp only [hFp_78, hFp_163, hFp_171, e78, e163, e171, P_ly, P_rt, P_bitY, den_s, den_c, Int.add_zero, List.map_cons, List.map_nil, g4.eq, g5.eq, g6.eq, g13.eq, g14.eq, g15.eq, h1, h2, h9, h10, h11, h12, h13, h14, h15, h16, h35, h36, h37, h38, h39, h40, h41, h42, h43, h44, h45, h46, h47, h48] at f0 f1 ⊢
  first
    | omega
    | rfl)
def w_neatOf_0_1 : VC := ((bY ++ [(0, 23), (0, 8), (0, 10), (0, 11), ((-2147483648), 2147483647), ((-2147483648), 2147483647)]), [(163, [(some 14, 0), (some 15, 0), (some 4, 0), (some 5, 0), (some 6, 0)], [1, 2, 35, 36, 37, 38, 39, 40, 41, 42, 9, 10, 11, 12, 13, 14, 15, 16, 46, 47, 48, 43, 44, 45]), (78, [], [1])], (3, [(some 14, 0), (none, 0)], []))
set_option maxRecDepth 20000 in
theorem v_neatOf_0_1 {PT : PTy} (hp : HP12 PT) : vcOk PT w_neatOf_0_1 := vc_iv [(4, 0, 8), (5, 0, 6), (6, 0, 6), (14, 0, 8), (15, 0, 10)] [1, 2, 9, 10, 11, 12, 13, 14, 15, 16, 35, 36, 37, 38, 39, 40, 41, 42, 43, 44, 45, 46, 47, 48] (by decide +kernel) (fun ρ α => by
  intro r4 g4 b4 r5 g5 b5 r6 g6 b6 r14 g14 b14 r15 g15 b15 a1 h1 a2 h2 a9 h9 a10 h10 a11 h11 a12 h12 a13 h13 a14 h14 a15 h15 a16 h16 a35 h35 a36 h36 a37 h37 a38 h38 a39 h39 a40 h40 a41 h41 a42 h42 a43 h43 a44 h44 a45 h45 a46 h46 a47 h47 a48 h48 f0 f1 tt
  have e78 : PT 78 = P_ly := pe78_12 hp
  have e163 : PT 163 = P_rt := pe163_12 hp
  simp only [hF3, hFp_78, hFp_163, e78, e163, P_ly, P_rt, den_s, den_c, Int.add_zero, List.map_cons, List.map_nil, g4.eq, g5.eq, g6.eq, g14.eq, g15.eq, h1, h2, h9, h10, h11, h12, h13, h14, h15, h16, h35, h36, h37, h38, h39, h40, h41, h42, h43, h44, h45, h46, h47, h48] at f0 f1 ⊢
  first
    | omega
    | rfl)
def w_neatOf_1_0 : VC := ((bY ++ [(0, 23), ((-2147483648), 2147483647), (0, 8), (0, 8), (0, 10), (0, 11), ((-2147483648), 2147483647), ((-2147483648), 2147483647)]), [(3, [(some 15, 0), (some 16, 0)], []), (163, [(some 16, 0), (some 17, 0), (some 4, 0), (some 5, 0), (some 6, 0)], [1, 2, 35, 36, 37, 38, 39, 40, 41, 42, 9, 10, 11, 12, 13, 14, 15, 16, 46, 47, 48, 43, 44, 45]), (171, [(some 14, 0), (some 15, 0), (some 13, 0)], [46, 36]), (3, [(some 16, 0), (some 15, 0)], []), (78, [], [1])], (171, [(some 14, 0), (some 16, 0), (some 13, 0)], [46, 36]))
set_option maxRecDepth 20000 in
theorem v_neatOf_1_0 {PT : PTy} (hp : HP12 PT) : vcOk PT w_neatOf_1_0 := vc_iv [(4, 0, 8), (5, 0, 6), (6, 0, 6), (13, 0, 23), (14, (-2147483648), 2147483647), (15, 0, 8), (16, 0, 8), (17, 0, 10)] [1, 2, 9, 10, 11, 12, 13, 14, 15, 16, 35, 36, 37, 38, 39, 40, 41, 42, 43, 44, 45, 46, 47, 48] (by decide +kernel) (fun ρ α => by
  intro r4 g4 b4 r5 g5 b5 r6 g6 b6 r13 g13 b13 r14 g14 b14 r15 g15 b15 r16 g16 b16 r17 g17 b17 a1 h1 a2 h2 a9 h9 a10 h10 a11 h11 a12 h12 a13 h13 a14 h14 a15 h15 a16 h16 a35 h35 a36 h36 a37 h37 a38 h38 a39 h39 a40 h40 a41 h41 a42 h42 a43 h43 a44 h44 a45 h45 a46 h46 a47 h47 a48 h48 f0 f1 f2 f3 f4 tt
  have e78 : PT 78 = P_ly := pe78_12 hp
  have e163 : PT 163 = P_rt := pe163_12 hp
  have e171 : PT 171 = P_bitY := pe171_12 hp
  simp only [hF3, hFp_78, hFp_163, hFp_171, e78, e163, e171, P_ly, P_rt, P_bitY, den_s, den_c, Int.add_zero, List.map_cons, List.map_nil, g4.eq, g5.eq, g6.eq, g13.eq, g14.eq, g15.eq, g16.eq, g17.eq, h1, h2, h9, h10, h11, h12, h13, h14, h15, h16, h35, h36, h37, h38, h39, h40, h41, h42, h43, h44, h45, h46, h47, h48] at f0 f1 f2 f3 f4 ⊢
  first
    | omega
    | (have hi := f2; unfold bitF at hi ⊢; rw [foldI_s (by omega), ← hi]; unfold atD; first | (rw [if_pos (by omega)]) | (rw [if_neg (by omega)]; exact mOr_0 (by omega) (by omega)))
    | (rw [show r16 = r15 by omega]; exact f2))
def w_neatOf_1_1 : VC := ((bY ++ [(0, 23), ((-2147483648), 2147483647), (0, 7), (1, 8), (0, 10), (0, 11), ((-2147483648), 2147483647), ((-2147483648), 2147483647), (0, 184), (0, 191), (0, 99), (0, 9), ((-9), (-1)), ((-2147483648), 2147483647)]), [(11, [(some 26, 0), (some 14, 0), (none, 0)], []), (0, [(none, 0), (none, 0)], []), (2, [(some 25, 0), (none, 0)], []), (5, [(some 25, 0), (some 23, 0), (some 24, 0)], []), (20, [(some 24, 0), (some 15, 0)], [36]), (20, [(some 23, 0), (some 22, 0)], [46]), (4, [(some 22, 0), (some 21, 0), (some 15, 0)], []), (6, [(some 21, 0), (none, 8), (some 13, 0)], []), (2, [(some 15, 0), (some 16, 0)], []), (163, [(some 16, 0), (some 17, 0), (some 4, 0), (some 5, 0), (some 6, 0)], [1, 2, 35, 36, 37, 38, 39, 40, 41, 42, 9, 10, 11, 12, 13, 14, 15, 16, 46, 47, 48, 43, 44, 45]), (171, [(some 14, 0), (some 15, 0), (some 13, 0)], [46, 36]), (3, [(some 16, 0), (some 15, 0)], []), (78, [], [1])], (171, [(some 26, 0), (some 15, 1), (some 13, 0)], [46, 36]))
set_option maxRecDepth 20000 in
theorem v_neatOf_1_1 {PT : PTy} (hp : HP12 PT) : vcOk PT w_neatOf_1_1 := vc_iv [(4, 0, 8), (5, 0, 6), (6, 0, 6), (13, 0, 23), (14, (-2147483648), 2147483647), (15, 0, 7), (16, 1, 8), (17, 0, 10), (21, 0, 184), (22, 0, 191), (23, 0, 99), (24, 0, 9), (25, (-9), (-1)), (26, (-2147483648), 2147483647)] [1, 2, 9, 10, 11, 12, 13, 14, 15, 16, 35, 36, 37, 38, 39, 40, 41, 42, 43, 44, 45, 46, 47, 48] (by decide +kernel) (fun ρ α => by
  intro r4 g4 b4 r5 g5 b5 r6 g6 b6 r13 g13 b13 r14 g14 b14 r15 g15 b15 r16 g16 b16 r17 g17 b17 r21 g21 b21 r22 g22 b22 r23 g23 b23 r24 g24 b24 r25 g25 b25 r26 g26 b26 a1 h1 a2 h2 a9 h9 a10 h10 a11 h11 a12 h12 a13 h13 a14 h14 a15 h15 a16 h16 a35 h35 a36 h36 a37 h37 a38 h38 a39 h39 a40 h40 a41 h41 a42 h42 a43 h43 a44 h44 a45 h45 a46 h46 a47 h47 a48 h48 f0 f1 f2 f3 f4 f5 f6 f7 f8 f9 f10 f11 f12 tt
  clear f1 f2
  have e78 : PT 78 = P_ly := pe78_12 hp
  have e163 : PT 163 = P_rt := pe163_12 hp
  have e171 : PT 171 = P_bitY := pe171_12 hp
  simp only [hF2, hF3, hF4, hF5, hF6, hF11, hF20, hFp_78, hFp_163, hFp_171, e78, e163, e171, P_ly, P_rt, P_bitY, den_s, den_c, Int.add_zero, List.map_cons, List.map_nil, g4.eq, g5.eq, g6.eq, g13.eq, g14.eq, g15.eq, g16.eq, g17.eq, g21.eq, g22.eq, g23.eq, g24.eq, g25.eq, g26.eq, h1, h2, h9, h10, h11, h12, h13, h14, h15, h16, h35, h36, h37, h38, h39, h40, h41, h42, h43, h44, h45, h46, h47, h48] at f0 f3 f4 f5 f6 f7 f8 f9 f10 f11 f12 ⊢
  subst f0
  subst f3
  subst f4
  subst f5
  subst f6
  subst f7
  first
    | omega
    | (have hi := f10; unfold bitF at hi ⊢; rw [foldI_s (by omega), ← hi]; unfold atD; first | (rw [if_pos (by omega)]) | (rw [if_neg (by omega)]; exact mOr_0 (by omega) (by omega)))
    | (rw [show (r15 + 1) = r15 by omega]; exact f10))
def w_neatOf_1_2 : VC := ((bY ++ [(0, 23), ((-2147483648), 2147483647), (0, 7), (1, 8), (0, 10), (0, 11), ((-2147483648), 2147483647), ((-2147483648), 2147483647), (0, 184), (0, 191), (0, 99), (0, 9), ((-9), (-1)), ((-2147483648), 2147483647)]), [(11, [(some 26, 0), (some 14, 0), (none, 0)], []), (0, [(none, 0), (none, 0)], []), (2, [(some 25, 0), (none, 0)], []), (5, [(some 25, 0), (some 23, 0), (some 24, 0)], []), (20, [(some 24, 0), (some 15, 0)], [36]), (20, [(some 23, 0), (some 22, 0)], [46]), (4, [(some 22, 0), (some 21, 0), (some 15, 0)], []), (6, [(some 21, 0), (none, 8), (some 13, 0)], []), (2, [(some 15, 0), (some 16, 0)], []), (163, [(some 16, 0), (some 17, 0), (some 4, 0), (some 5, 0), (some 6, 0)], [1, 2, 35, 36, 37, 38, 39, 40, 41, 42, 9, 10, 11, 12, 13, 14, 15, 16, 46, 47, 48, 43, 44, 45]), (171, [(some 14, 0), (some 15, 0), (some 13, 0)], [46, 36]), (3, [(some 16, 0), (some 15, 0)], []), (78, [], [1])], (3, [(some 16, 0), (some 15, 1)], []))
set_option maxRecDepth 20000 in
theorem v_neatOf_1_2 {PT : PTy} (hp : HP12 PT) : vcOk PT w_neatOf_1_2 := vc_iv [(4, 0, 8), (5, 0, 6), (6, 0, 6), (13, 0, 23), (14, (-2147483648), 2147483647), (15, 0, 7), (16, 1, 8), (17, 0, 10), (21, 0, 184), (22, 0, 191), (23, 0, 99), (24, 0, 9), (25, (-9), (-1)), (26, (-2147483648), 2147483647)] [1, 2, 9, 10, 11, 12, 13, 14, 15, 16, 35, 36, 37, 38, 39, 40, 41, 42, 43, 44, 45, 46, 47, 48] (by decide +kernel) (fun ρ α => by
  intro r4 g4 b4 r5 g5 b5 r6 g6 b6 r13 g13 b13 r14 g14 b14 r15 g15 b15 r16 g16 b16 r17 g17 b17 r21 g21 b21 r22 g22 b22 r23 g23 b23 r24 g24 b24 r25 g25 b25 r26 g26 b26 a1 h1 a2 h2 a9 h9 a10 h10 a11 h11 a12 h12 a13 h13 a14 h14 a15 h15 a16 h16 a35 h35 a36 h36 a37 h37 a38 h38 a39 h39 a40 h40 a41 h41 a42 h42 a43 h43 a44 h44 a45 h45 a46 h46 a47 h47 a48 h48 f0 f1 f2 f3 f4 f5 f6 f7 f8 f9 f10 f11 f12 tt
  clear f1 f2
  have e78 : PT 78 = P_ly := pe78_12 hp
  have e163 : PT 163 = P_rt := pe163_12 hp
  have e171 : PT 171 = P_bitY := pe171_12 hp
  simp only [hF2, hF3, hF4, hF5, hF6, hF11, hF20, hFp_78, hFp_163, hFp_171, e78, e163, e171, P_ly, P_rt, P_bitY, den_s, den_c, Int.add_zero, List.map_cons, List.map_nil, g4.eq, g5.eq, g6.eq, g13.eq, g14.eq, g15.eq, g16.eq, g17.eq, g21.eq, g22.eq, g23.eq, g24.eq, g25.eq, g26.eq, h1, h2, h9, h10, h11, h12, h13, h14, h15, h16, h35, h36, h37, h38, h39, h40, h41, h42, h43, h44, h45, h46, h47, h48] at f0 f3 f4 f5 f6 f7 f8 f9 f10 f11 f12 ⊢
  subst f0
  subst f3
  subst f4
  subst f5
  subst f6
  subst f7
  first
    | omega
    | (have hi := f10; unfold bitF at hi ⊢; rw [foldI_s (by omega), ← hi]; unfold atD; first | (rw [if_pos (by omega)]) | (rw [if_neg (by omega)]; exact mOr_0 (by omega) (by omega)))
    | (rw [show (r15 + 1) = r15 by omega]; exact f10))
def w_neatOf_1_3 : VC := ((bY ++ [(0, 23), ((-2147483648), 2147483647), (0, 7), (1, 8), (0, 10), (0, 11), ((-2147483648), 2147483647), ((-2147483648), 2147483647), (0, 184), (0, 191), (0, 99), (0, 9), (2, 99), ((-2147483648), 2147483647)]), [(11, [(some 26, 0), (some 14, 0), (none, 0)], []), (0, [(none, 0), (none, 0)], []), (2, [(none, 1), (some 25, 0)], []), (3, [(some 25, 0), (none, 0)], []), (5, [(some 25, 0), (some 23, 0), (some 24, 0)], []), (20, [(some 24, 0), (some 15, 0)], [36]), (20, [(some 23, 0), (some 22, 0)], [46]), (4, [(some 22, 0), (some 21, 0), (some 15, 0)], []), (6, [(some 21, 0), (none, 8), (some 13, 0)], []), (2, [(some 15, 0), (some 16, 0)], []), (163, [(some 16, 0), (some 17, 0), (some 4, 0), (some 5, 0), (some 6, 0)], [1, 2, 35, 36, 37, 38, 39, 40, 41, 42, 9, 10, 11, 12, 13, 14, 15, 16, 46, 47, 48, 43, 44, 45]), (171, [(some 14, 0), (some 15, 0), (some 13, 0)], [46, 36]), (3, [(some 16, 0), (some 15, 0)], []), (78, [], [1])], (171, [(some 26, 0), (some 15, 1), (some 13, 0)], [46, 36]))
set_option maxRecDepth 20000 in
theorem v_neatOf_1_3 {PT : PTy} (hp : HP12 PT) : vcOk PT w_neatOf_1_3 := vc_iv [(4, 0, 8), (5, 0, 6), (6, 0, 6), (13, 0, 23), (14, (-2147483648), 2147483647), (15, 0, 7), (16, 1, 8), (17, 0, 10), (21, 0, 184), (22, 0, 191), (23, 0, 99), (24, 0, 9), (25, 2, 99), (26, (-2147483648), 2147483647)] [1, 2, 9, 10, 11, 12, 13, 14, 15, 16, 35, 36, 37, 38, 39, 40, 41, 42, 43, 44, 45, 46, 47, 48] (by decide +kernel) (fun ρ α => by
  intro r4 g4 b4 r5 g5 b5 r6 g6 b6 r13 g13 b13 r14 g14 b14 r15 g15 b15 r16 g16 b16 r17 g17 b17 r21 g21 b21 r22 g22 b22 r23 g23 b23 r24 g24 b24 r25 g25 b25 r26 g26 b26 a1 h1 a2 h2 a9 h9 a10 h10 a11 h11 a12 h12 a13 h13 a14 h14 a15 h15 a16 h16 a35 h35 a36 h36 a37 h37 a38 h38 a39 h39 a40 h40 a41 h41 a42 h42 a43 h43 a44 h44 a45 h45 a46 h46 a47 h47 a48 h48 f0 f1 f2 f3 f4 f5 f6 f7 f8 f9 f10 f11 f12 f13 tt
  clear f1 f2 f3
  have e78 : PT 78 = P_ly := pe78_12 hp
  have e163 : PT 163 = P_rt := pe163_12 hp
  have e171 : PT 171 = P_bitY := pe171_12 hp
  simp only [hF2, hF3, hF4, hF5, hF6, hF11, hF20, hFp_78, hFp_163, hFp_171, e78, e163, e171, P_ly, P_rt, P_bitY, den_s, den_c, Int.add_zero, List.map_cons, List.map_nil, g4.eq, g5.eq, g6.eq, g13.eq, g14.eq, g15.eq, g16.eq, g17.eq, g21.eq, g22.eq, g23.eq, g24.eq, g25.eq, g26.eq, h1, h2, h9, h10, h11, h12, h13, h14, h15, h16, h35, h36, h37, h38, h39, h40, h41, h42, h43, h44, h45, h46, h47, h48] at f0 f4 f5 f6 f7 f8 f9 f10 f11 f12 f13 ⊢
  subst f0
  subst f4
  subst f5
  subst f6
  subst f7
  subst f8
  first
    | omega
    | (have hi := f11; unfold bitF at hi ⊢; rw [foldI_s (by omega), ← hi]; unfold atD; first | (rw [if_pos (by omega)]) | (rw [if_neg (by omega)]; exact mOr_0 (by omega) (by omega)))
    | (rw [show (r15 + 1) = r15 by omega]; exact f11))
def w_neatOf_1_4 : VC := ((bY ++ [(0, 23), ((-2147483648), 2147483647), (0, 7), (1, 8), (0, 10), (0, 11), ((-2147483648), 2147483647), ((-2147483648), 2147483647), (0, 184), (0, 191), (0, 99), (0, 9), (2, 99), ((-2147483648), 2147483647)]), [(11, [(some 26, 0), (some 14, 0), (none, 0)], []), (0, [(none, 0), (none, 0)], []), (2, [(none, 1), (some 25, 0)], []), (3, [(some 25, 0), (none, 0)], []), (5, [(some 25, 0), (some 23, 0), (some 24, 0)], []), (20, [(some 24, 0), (some 15, 0)], [36]), (20, [(some 23, 0), (some 22, 0)], [46]), (4, [(some 22, 0), (some 21, 0), (some 15, 0)], []), (6, [(some 21, 0), (none, 8), (some 13, 0)], []), (2, [(some 15, 0), (some 16, 0)], []), (163, [(some 16, 0), (some 17, 0), (some 4, 0), (some 5, 0), (some 6, 0)], [1, 2, 35, 36, 37, 38, 39, 40, 41, 42, 9, 10, 11, 12, 13, 14, 15, 16, 46, 47, 48, 43, 44, 45]), (171, [(some 14, 0), (some 15, 0), (some 13, 0)], [46, 36]), (3, [(some 16, 0), (some 15, 0)], []), (78, [], [1])], (3, [(some 16, 0), (some 15, 1)], []))
set_option maxRecDepth 20000 in
theorem v_neatOf_1_4 {PT : PTy} (hp : HP12 PT) : vcOk PT w_neatOf_1_4 := vc_iv [(4, 0, 8), (5, 0, 6), (6, 0, 6), (13, 0, 23), (14, (-2147483648), 2147483647), (15, 0, 7), (16, 1, 8), (17, 0, 10), (21, 0, 184), (22, 0, 191), (23, 0, 99), (24, 0, 9), (25, 2, 99), (26, (-2147483648), 2147483647)] [1, 2, 9, 10, 11, 12, 13, 14, 15, 16, 35, 36, 37, 38, 39, 40, 41, 42, 43, 44, 45, 46, 47, 48] (by decide +kernel) (fun ρ α => by
  intro r4 g4 b4 r5 g5 b5 r6 g6 b6 r13 g13 b13 r14 g14 b14 r15 g15 b15 r16 g16 b16 r17 g17 b17 r21 g21 b21 r22 g22 b22 r23 g23 b23 r24 g24 b24 r25 g25 b25 r26 g26 b26 a1 h1 a2 h2 a9 h9 a10 h10 a11 h11 a12 h12 a13 h13 a14 h14 a15 h15 a16 h16 a35 h35 a36 h36 a37 h37 a38 h38 a39 h39 a40 h40 a41 h41 a42 h42 a43 h43 a44 h44 a45 h45 a46 h46 a47 h47 a48 h48 f0 f1 f2 f3 f4 f5 f6 f7 f8 f9 f10 f11 f12 f13 tt
  clear f1 f2 f3
  have e78 : PT 78 = P_ly := pe78_12 hp
  have e163 : PT 163 = P_rt := pe163_12 hp
  have e171 : PT 171 = P_bitY := pe171_12 hp
  simp only [hF2, hF3, hF4, hF5, hF6, hF11, hF20, hFp_78, hFp_163, hFp_171, e78, e163, e171, P_ly, P_rt, P_bitY, den_s, den_c, Int.add_zero, List.map_cons, List.map_nil, g4.eq, g5.eq, g6.eq, g13.eq, g14.eq, g15.eq, g16.eq, g17.eq, g21.eq, g22.eq, g23.eq, g24.eq, g25.eq, g26.eq, h1, h2, h9, h10, h11, h12, h13, h14, h15, h16, h35, h36, h37, h38, h39, h40, h41, h42, h43, h44, h45, h46, h47, h48] at f0 f4 f5 f6 f7 f8 f9 f10 f11 f12 f13 ⊢
  subst f0
  subst f4
  subst f5
  subst f6
  subst f7
  subst f8
  first
    | omega
    | (have hi := f11; unfold bitF at hi ⊢; rw [foldI_s (by omega), ← hi]; unfold atD; first | (rw [if_pos (by omega)]) | (rw [if_neg (by omega)]; exact mOr_0 (by omega) (by omega)))
    | (rw [show (r15 + 1) = r15 by omega]; exact f11))
def w_neatOf_1_5 : VC := ((bY ++ [(0, 23), ((-2147483648), 2147483647), (0, 7), (1, 8), (0, 10), (0, 11), ((-2147483648), 2147483647), ((-2147483648), 2147483647), (0, 184), (0, 191), (0, 99), (0, 9), (0, 1), (1, 128), ((-2147483648), 2147483647)]), [(11, [(some 27, 0), (some 14, 0), (some 26, 0)], []), (13, [(some 26, 0), (none, 1), (some 15, 0)], []), (1, [(none, 1), (none, 0)], []), (3, [(none, 1), (some 25, 0)], []), (3, [(some 25, 0), (none, 0)], []), (5, [(some 25, 0), (some 23, 0), (some 24, 0)], []), (20, [(some 24, 0), (some 15, 0)], [36]), (20, [(some 23, 0), (some 22, 0)], [46]), (4, [(some 22, 0), (some 21, 0), (some 15, 0)], []), (6, [(some 21, 0), (none, 8), (some 13, 0)], []), (2, [(some 15, 0), (some 16, 0)], []), (163, [(some 16, 0), (some 17, 0), (some 4, 0), (some 5, 0), (some 6, 0)], [1, 2, 35, 36, 37, 38, 39, 40, 41, 42, 9, 10, 11, 12, 13, 14, 15, 16, 46, 47, 48, 43, 44, 45]), (171, [(some 14, 0), (some 15, 0), (some 13, 0)], [46, 36]), (3, [(some 16, 0), (some 15, 0)], []), (78, [], [1])], (171, [(some 27, 0), (some 15, 1), (some 13, 0)], [46, 36]))
set_option maxRecDepth 20000 in
theorem v_neatOf_1_5 {PT : PTy} (hp : HP12 PT) : vcOk PT w_neatOf_1_5 := vc_iv [(4, 0, 8), (5, 0, 6), (6, 0, 6), (13, 0, 23), (14, (-2147483648), 2147483647), (15, 0, 7), (16, 1, 8), (17, 0, 10), (21, 0, 184), (22, 0, 191), (23, 0, 99), (24, 0, 9), (25, 0, 1), (26, 1, 128), (27, (-2147483648), 2147483647)] [1, 2, 9, 10, 11, 12, 13, 14, 15, 16, 35, 36, 37, 38, 39, 40, 41, 42, 43, 44, 45, 46, 47, 48] (by decide +kernel) (fun ρ α => by
  intro r4 g4 b4 r5 g5 b5 r6 g6 b6 r13 g13 b13 r14 g14 b14 r15 g15 b15 r16 g16 b16 r17 g17 b17 r21 g21 b21 r22 g22 b22 r23 g23 b23 r24 g24 b24 r25 g25 b25 r26 g26 b26 r27 g27 b27 a1 h1 a2 h2 a9 h9 a10 h10 a11 h11 a12 h12 a13 h13 a14 h14 a15 h15 a16 h16 a35 h35 a36 h36 a37 h37 a38 h38 a39 h39 a40 h40 a41 h41 a42 h42 a43 h43 a44 h44 a45 h45 a46 h46 a47 h47 a48 h48 f0 f1 f2 f3 f4 f5 f6 f7 f8 f9 f10 f11 f12 f13 f14 tt
  clear f2 f3 f4
  have e78 : PT 78 = P_ly := pe78_12 hp
  have e163 : PT 163 = P_rt := pe163_12 hp
  have e171 : PT 171 = P_bitY := pe171_12 hp
  simp only [hF2, hF3, hF4, hF5, hF6, hF11, hF13, hF20, hFp_78, hFp_163, hFp_171, e78, e163, e171, P_ly, P_rt, P_bitY, den_s, den_c, Int.add_zero, List.map_cons, List.map_nil, g4.eq, g5.eq, g6.eq, g13.eq, g14.eq, g15.eq, g16.eq, g17.eq, g21.eq, g22.eq, g23.eq, g24.eq, g25.eq, g26.eq, g27.eq, h1, h2, h9, h10, h11, h12, h13, h14, h15, h16, h35, h36, h37, h38, h39, h40, h41, h42, h43, h44, h45, h46, h47, h48] at f0 f1 f5 f6 f7 f8 f9 f10 f11 f12 f13 f14 ⊢
  subst f0
  subst f1
  subst f5
  subst f6
  subst f7
  subst f8
  subst f9
  first
    | omega
    | (have hi := f12; unfold bitF at hi ⊢; rw [foldI_s (by omega), ← hi]; unfold atD; first | (rw [if_pos (by omega)]) | (rw [if_neg (by omega)]; exact mOr_0 (by omega) (by omega)))
    | (rw [show (r15 + 1) = r15 by omega]; exact f12))
def w_neatOf_1_6 : VC := ((bY ++ [(0, 23), ((-2147483648), 2147483647), (0, 7), (1, 8), (0, 10), (0, 11), ((-2147483648), 2147483647), ((-2147483648), 2147483647), (0, 184), (0, 191), (0, 99), (0, 9), (0, 1), (1, 128), ((-2147483648), 2147483647)]), [(11, [(some 27, 0), (some 14, 0), (some 26, 0)], []), (13, [(some 26, 0), (none, 1), (some 15, 0)], []), (1, [(none, 1), (none, 0)], []), (3, [(none, 1), (some 25, 0)], []), (3, [(some 25, 0), (none, 0)], []), (5, [(some 25, 0), (some 23, 0), (some 24, 0)], []), (20, [(some 24, 0), (some 15, 0)], [36]), (20, [(some 23, 0), (some 22, 0)], [46]), (4, [(some 22, 0), (some 21, 0), (some 15, 0)], []), (6, [(some 21, 0), (none, 8), (some 13, 0)], []), (2, [(some 15, 0), (some 16, 0)], []), (163, [(some 16, 0), (some 17, 0), (some 4, 0), (some 5, 0), (some 6, 0)], [1, 2, 35, 36, 37, 38, 39, 40, 41, 42, 9, 10, 11, 12, 13, 14, 15, 16, 46, 47, 48, 43, 44, 45]), (171, [(some 14, 0), (some 15, 0), (some 13, 0)], [46, 36]), (3, [(some 16, 0), (some 15, 0)], []), (78, [], [1])], (3, [(some 16, 0), (some 15, 1)], []))
set_option maxRecDepth 20000 in
theorem v_neatOf_1_6 {PT : PTy} (hp : HP12 PT) : vcOk PT w_neatOf_1_6 := vc_iv [(4, 0, 8), (5, 0, 6), (6, 0, 6), (13, 0, 23), (14, (-2147483648), 2147483647), (15, 0, 7), (16, 1, 8), (17, 0, 10), (21, 0, 184), (22, 0, 191), (23, 0, 99), (24, 0, 9), (25, 0, 1), (26, 1, 128), (27, (-2147483648), 2147483647)] [1, 2, 9, 10, 11, 12, 13, 14, 15, 16, 35, 36, 37, 38, 39, 40, 41, 42, 43, 44, 45, 46, 47, 48] (by decide +kernel) (fun ρ α => by
  intro r4 g4 b4 r5 g5 b5 r6 g6 b6 r13 g13 b13 r14 g14 b14 r15 g15 b15 r16 g16 b16 r17 g17 b17 r21 g21 b21 r22 g22 b22 r23 g23 b23 r24 g24 b24 r25 g25 b25 r26 g26 b26 r27 g27 b27 a1 h1 a2 h2 a9 h9 a10 h10 a11 h11 a12 h12 a13 h13 a14 h14 a15 h15 a16 h16 a35 h35 a36 h36 a37 h37 a38 h38 a39 h39 a40 h40 a41 h41 a42 h42 a43 h43 a44 h44 a45 h45 a46 h46 a47 h47 a48 h48 f0 f1 f2 f3 f4 f5 f6 f7 f8 f9 f10 f11 f12 f13 f14 tt
  clear f2 f3 f4
  have e78 : PT 78 = P_ly := pe78_12 hp
  have e163 : PT 163 = P_rt := pe163_12 hp
  have e171 : PT 171 = P_bitY := pe171_12 hp
  simp only [hF2, hF3, hF4, hF5, hF6, hF11, hF13, hF20, hFp_78, hFp_163, hFp_171, e78, e163, e171, P_ly, P_rt, P_bitY, den_s, den_c, Int.add_zero, List.map_cons, List.map_nil, g4.eq, g5.eq, g6.eq, g13.eq, g14.eq, g15.eq, g16.eq, g17.eq, g21.eq, g22.eq, g23.eq, g24.eq, g25.eq, g26.eq, g27.eq, h1, h2, h9, h10, h11, h12, h13, h14, h15, h16, h35, h36, h37, h38, h39, h40, h41, h42, h43, h44, h45, h46, h47, h48] at f0 f1 f5 f6 f7 f8 f9 f10 f11 f12 f13 f14 ⊢
  subst f0
  subst f1
  subst f5
  subst f6
  subst f7
  subst f8
  subst f9
  first
    | omega
    | (have hi := f12; unfold bitF at hi ⊢; rw [foldI_s (by omega), ← hi]; unfold atD; first | (rw [if_pos (by omega)]) | (rw [if_neg (by omega)]; exact mOr_0 (by omega) (by omega)))
    | (rw [show (r15 + 1) = r15 by omega]; exact f12))
set_option maxRecDepth 1000000 in
theorem k_neatOf {PT : PTy} (hp : HP12 PT) : wfX c_neatOf = true ∧ xcOk PT c_neatOf := xctr (xl (k_rtY hp) (xl0)) c_neatOf 65 mX7_neatOf rfl h_neatOf (by decide +kernel) (by decide +kernel) (by decide) (vcs_by [w_neatOf_0_0, w_neatOf_0_1] (by decide +kernel) (vc (v_neatOf_0_0 hp) (vc (v_neatOf_0_1 hp) vn))) (fmc (vcs_by [w_neatOf_1_0, w_neatOf_1_1, w_neatOf_1_2, w_neatOf_1_3, w_neatOf_1_4, w_neatOf_1_5, w_neatOf_1_6] (by decide +kernel) (vc (v_neatOf_1_0 hp) (vc (v_neatOf_1_1 hp) (vc (v_neatOf_1_2 hp) (vc (v_neatOf_1_3 hp) (vc (v_neatOf_1_4 hp) (vc (v_neatOf_1_5 hp) (vc (v_neatOf_1_6 hp) vn)))))))) fmn)
def c_longestOf : XC := (153, 7, (bY ++ [(0, 23)]), [.inr (.inl 0), .inl (some 13, 0)], gY2, [(78, [], [1])], [((bY ++ [(0, 23), ((-1), 7), (0, 8), (0, 10), (0, 11), ((-2147483648), 2147483647), ((-2147483648), 2147483647)]), some (.inl (some 14, 0)), (hst gY2 [(0, .inr (.inr (.inr (7, [.inr (.inl 1), .inr (.inl 2), .inl (some 15, 0), .inr (.inl 3), .inr (.inl 4), .inl (some 16, 0), .inr (.inl 5), .inr (.inl 6), .inr (.inl 7), .inr (.inl 8), .inl (some 4, 0), .inr (.inl 9), .inr (.inl 10), .inl (some 5, 0), .inr (.inl 11), .inr (.inl 12), .inr (.inl 13), .inl (some 6, 0), .inr (.inl 14), .inr (.inl 15), .inr (.inl 16), .inl (some 17, 0), .inl (some 4, 0), .inr (.inl 17), .inr (.inl 18), .inl (some 18, 0), .inl (some 19, 0), .inr (.inl 19), .inr (.inl 20), .inr (.inl 21), .inr (.inl 22), .inr (.inl 23), .inr (.inl 24), .inr (.inl 25), .inl (some 7, 0), .inr (.inl 26), .inr (.inl 27), .inr (.inl 28), .inr (.inl 29), .inr (.inl 30), .inr (.inl 31), .inr (.inl 32), .inr (.inl 33), .inr (.inl 34), .inl (some 12, 0)]))))]), [0, 1, 2, 35, 36, 37, 38, 39, 40, 9, 10, 11, 12, 13, 14, 15, 16, 41, 42, 43, 44, 45, 46, 47, 48, 25, 26, 27, 28, 29, 30, 31, 32, 33, 34], 49, [(163, [(some 15, 0), (some 16, 0), (some 4, 0), (some 5, 0), (some 6, 0)], [1, 2, 35, 36, 37, 38, 39, 40, 41, 42, 9, 10, 11, 12, 13, 14, 15, 16, 46, 47, 48, 43, 44, 45]), (173, [(some 15, 0), (some 14, 0), (some 13, 0)], [46])])])
def h_longestOf : List XH := [(8, (bY ++ [(0, 23), ((-1), 7), (0, 8), (0, 8), (0, 10), (0, 11), ((-2147483648), 2147483647), ((-2147483648), 2147483647)]), [some (.inr (.inl 0)), some (.inl (some 13, 0)), some (.inl (some 14, 0)), some (.inl (some 15, 0))], (hst gY2 [(0, .inr (.inr (.inr (7, [.inr (.inl 1), .inr (.inl 2), .inl (some 16, 0), .inr (.inl 3), .inr (.inl 4), .inl (some 17, 0), .inr (.inl 5), .inr (.inl 6), .inr (.inl 7), .inr (.inl 8), .inl (some 4, 0), .inr (.inl 9), .inr (.inl 10), .inl (some 5, 0), .inr (.inl 11), .inr (.inl 12), .inr (.inl 13), .inl (some 6, 0), .inr (.inl 14), .inr (.inl 15), .inr (.inl 16), .inl (some 18, 0), .inl (some 4, 0), .inr (.inl 17), .inr (.inl 18), .inl (some 19, 0), .inl (some 20, 0), .inr (.inl 19), .inr (.inl 20), .inr (.inl 21), .inr (.inl 22), .inr (.inl 23), .inr (.inl 24), .inr (.inl 25), .inl (some 7, 0), .inr (.inl 26), .inr (.inl 27), .inr (.inl 28), .inr (.inl 29), .inr (.inl 30), .inr (.inl 31), .inr (.inl 32), .inr (.inl 33), .inr (.inl 34), .inl (some 12, 0)]))))]), [0, 1, 2, 35, 36, 37, 38, 39, 40, 9, 10, 11, 12, 13, 14, 15, 16, 41, 42, 43, 44, 45, 46, 47, 48, 25, 26, 27, 28, 29, 30, 31, 32, 33, 34], 49, [(163, [(some 16, 0), (some 17, 0), (some 4, 0), (some 5, 0), (some 6, 0)], [1, 2, 35, 36, 37, 38, 39, 40, 41, 42, 9, 10, 11, 12, 13, 14, 15, 16, 46, 47, 48, 43, 44, 45]), (173, [(some 15, 0), (some 14, 0), (some 13, 0)], [46]), (3, [(some 16, 0), (some 15, 0)], [])], [(true, (none, 1)), (true, (some 15, 0))])]
def w_longestOf_0_0 : VC := ((bY ++ [(0, 23), (0, 8), (0, 10), (0, 11), ((-2147483648), 2147483647), ((-2147483648), 2147483647)]), [(163, [(some 14, 0), (some 15, 0), (some 4, 0), (some 5, 0), (some 6, 0)], [1, 2, 35, 36, 37, 38, 39, 40, 41, 42, 9, 10, 11, 12, 13, 14, 15, 16, 46, 47, 48, 43, 44, 45]), (78, [], [1])], (173, [(none, 0), (none, (-1)), (some 13, 0)], [46]))
theorem pe173_12 {PT : PTy} (hp : HP12 PT) : PT 173 = P_lgY := hp.2.2.2.2.2.2.2.2.2.2.2.1
set_option maxRecDepth 20000 in
theorem v_longestOf_0_0 {PT : PTy} (hp : HP12 PT) : vcOk PT w_longestOf_0_0 := vc_iv [(4, 0, 8), (5, 0, 6), (6, 0, 6), (13, 0, 23), (14, 0, 8), (15, 0, 10)] [1, 2, 9, 10, 11, 12, 13, 14, 15, 16, 35, 36, 37, 38, 39, 40, 41, 42, 43, 44, 45, 46, 47, 48] (by decide +kernel) (fun ρ α => by
  intro r4 g4 b4 r5 g5 b5 r6 g6 b6 r13 g13 b13 r14 g14 b14 r15 g15 b15 a1 h1 a2 h2 a9 h9 a10 h10 a11 h11 a12 h12 a13 h13 a14 h14 a15 h15 a16 h16 a35 h35 a36 h36 a37 h37 a38 h38 a39 h39 a40 h40 a41 h41 a42 h42 a43 h43 a44 h44 a45 h45 a46 h46 a47 h47 a48 h48 f0 f1 tt
  have e78 : PT 78 = P_ly := pe78_12 hp
  have e163 : PT 163 = P_rt := pe163_12 hp
  have e173 : PT 173 = P_lgY := pe173_12 hp
  simp only [hFp_78, hFp_163, hFp_173, e78, e163, e173, P_ly, P_rt, P_lgY, den_s, den_c, Int.add_zero, List.map_cons, List.map_nil, g4.eq, g5.eq, g6.eq, g13.eq, g14.eq, g15.eq, h1, h2, h9, h10, h11, h12, h13, h14, h15, h16, h35, h36, h37, h38, h39, h40, h41, h42, h43, h44, h45, h46, h47, h48] at f0 f1 ⊢
  first
    | omega
    | exact lgS_z)
def w_longestOf_0_1 : VC := ((bY ++ [(0, 23), (0, 8), (0, 10), (0, 11), ((-2147483648), 2147483647), ((-2147483648), 2147483647)]), [(163, [(some 14, 0), (some 15, 0), (some 4, 0), (some 5, 0), (some 6, 0)], [1, 2, 35, 36, 37, 38, 39, 40, 41, 42, 9, 10, 11, 12, 13, 14, 15, 16, 46, 47, 48, 43, 44, 45]), (78, [], [1])], (3, [(some 14, 0), (none, 0)], []))
set_option maxRecDepth 20000 in
theorem v_longestOf_0_1 {PT : PTy} (hp : HP12 PT) : vcOk PT w_longestOf_0_1 := vc_iv [(4, 0, 8), (5, 0, 6), (6, 0, 6), (14, 0, 8), (15, 0, 10)] [1, 2, 9, 10, 11, 12, 13, 14, 15, 16, 35, 36, 37, 38, 39, 40, 41, 42, 43, 44, 45, 46, 47, 48] (by decide +kernel) (fun ρ α => by
  intro r4 g4 b4 r5 g5 b5 r6 g6 b6 r14 g14 b14 r15 g15 b15 a1 h1 a2 h2 a9 h9 a10 h10 a11 h11 a12 h12 a13 h13 a14 h14 a15 h15 a16 h16 a35 h35 a36 h36 a37 h37 a38 h38 a39 h39 a40 h40 a41 h41 a42 h42 a43 h43 a44 h44 a45 h45 a46 h46 a47 h47 a48 h48 f0 f1 tt
  have e78 : PT 78 = P_ly := pe78_12 hp
  have e163 : PT 163 = P_rt := pe163_12 hp
  simp only [hF3, hFp_78, hFp_163, e78, e163, P_ly, P_rt, den_s, den_c, Int.add_zero, List.map_cons, List.map_nil, g4.eq, g5.eq, g6.eq, g14.eq, g15.eq, h1, h2, h9, h10, h11, h12, h13, h14, h15, h16, h35, h36, h37, h38, h39, h40, h41, h42, h43, h44, h45, h46, h47, h48] at f0 f1 ⊢
  first
    | omega
    | exact lgS_z)
def w_longestOf_1_0 : VC := ((bY ++ [(0, 23), ((-1), 7), (0, 8), (0, 8), (0, 10), (0, 11), ((-2147483648), 2147483647), ((-2147483648), 2147483647)]), [(3, [(some 15, 0), (some 16, 0)], []), (163, [(some 16, 0), (some 17, 0), (some 4, 0), (some 5, 0), (some 6, 0)], [1, 2, 35, 36, 37, 38, 39, 40, 41, 42, 9, 10, 11, 12, 13, 14, 15, 16, 46, 47, 48, 43, 44, 45]), (173, [(some 15, 0), (some 14, 0), (some 13, 0)], [46]), (3, [(some 16, 0), (some 15, 0)], []), (78, [], [1])], (173, [(some 16, 0), (some 14, 0), (some 13, 0)], [46]))
set_option maxRecDepth 20000 in
theorem v_longestOf_1_0 {PT : PTy} (hp : HP12 PT) : vcOk PT w_longestOf_1_0 := vc_iv [(4, 0, 8), (5, 0, 6), (6, 0, 6), (13, 0, 23), (14, (-1), 7), (15, 0, 8), (16, 0, 8), (17, 0, 10)] [1, 2, 9, 10, 11, 12, 13, 14, 15, 16, 35, 36, 37, 38, 39, 40, 41, 42, 43, 44, 45, 46, 47, 48] (by decide +kernel) (fun ρ α => by
  intro r4 g4 b4 r5 g5 b5 r6 g6 b6 r13 g13 b13 r14 g14 b14 r15 g15 b15 r16 g16 b16 r17 g17 b17 a1 h1 a2 h2 a9 h9 a10 h10 a11 h11 a12 h12 a13 h13 a14 h14 a15 h15 a16 h16 a35 h35 a36 h36 a37 h37 a38 h38 a39 h39 a40 h40 a41 h41 a42 h42 a43 h43 a44 h44 a45 h45 a46 h46 a47 h47 a48 h48 f0 f1 f2 f3 f4 tt
  have e78 : PT 78 = P_ly := pe78_12 hp
  have e163 : PT 163 = P_rt := pe163_12 hp
  have e173 : PT 173 = P_lgY := pe173_12 hp
  simp only [hF3, hFp_78, hFp_163, hFp_173, e78, e163, e173, P_ly, P_rt, P_lgY, den_s, den_c, Int.add_zero, List.map_cons, List.map_nil, g4.eq, g5.eq, g6.eq, g13.eq, g14.eq, g15.eq, g16.eq, g17.eq, h1, h2, h9, h10, h11, h12, h13, h14, h15, h16, h35, h36, h37, h38, h39, h40, h41, h42, h43, h44, h45, h46, h47, h48] at f0 f1 f2 f3 f4 ⊢
  have hi := f2
  first
    | omega
    | (by_cases q : 0 < r15; (obtain ⟨a1, a2, a3, a4⟩ := hi.2 q; omega); (have := hi.1 (by omega); omega))
    | exact lgS_t hi (by omega) (by first | (left; omega) | (right; unfold atD; omega))
    | exact lgS_k hi (by omega) (by omega) (by unfold atD; omega)
    | (rw [show r16 = r15 by omega]; exact hi))
def w_longestOf_1_1 : VC := ((bY ++ [(0, 23), ((-1), (-1)), (0, 7), (1, 8), (0, 10), (0, 11), ((-2147483648), 2147483647), ((-2147483648), 2147483647)]), [(0, [(some 14, 0), (none, (-1))], []), (2, [(some 15, 0), (some 16, 0)], []), (163, [(some 16, 0), (some 17, 0), (some 4, 0), (some 5, 0), (some 6, 0)], [1, 2, 35, 36, 37, 38, 39, 40, 41, 42, 9, 10, 11, 12, 13, 14, 15, 16, 46, 47, 48, 43, 44, 45]), (173, [(some 15, 0), (some 14, 0), (some 13, 0)], [46]), (3, [(some 16, 0), (some 15, 0)], []), (78, [], [1])], (173, [(some 15, 1), (some 15, 0), (some 13, 0)], [46]))
set_option maxRecDepth 20000 in
theorem v_longestOf_1_1 {PT : PTy} (hp : HP12 PT) : vcOk PT w_longestOf_1_1 := vc_iv [(4, 0, 8), (5, 0, 6), (6, 0, 6), (13, 0, 23), (14, (-1), (-1)), (15, 0, 7), (16, 1, 8), (17, 0, 10)] [1, 2, 9, 10, 11, 12, 13, 14, 15, 16, 35, 36, 37, 38, 39, 40, 41, 42, 43, 44, 45, 46, 47, 48] (by decide +kernel) (fun ρ α => by
  intro r4 g4 b4 r5 g5 b5 r6 g6 b6 r13 g13 b13 r14 g14 b14 r15 g15 b15 r16 g16 b16 r17 g17 b17 a1 h1 a2 h2 a9 h9 a10 h10 a11 h11 a12 h12 a13 h13 a14 h14 a15 h15 a16 h16 a35 h35 a36 h36 a37 h37 a38 h38 a39 h39 a40 h40 a41 h41 a42 h42 a43 h43 a44 h44 a45 h45 a46 h46 a47 h47 a48 h48 f0 f1 f2 f3 f4 f5 tt
  have e78 : PT 78 = P_ly := pe78_12 hp
  have e163 : PT 163 = P_rt := pe163_12 hp
  have e173 : PT 173 = P_lgY := pe173_12 hp
  simp only [hF0, hF2, hF3, hFp_78, hFp_163, hFp_173, e78, e163, e173, P_ly, P_rt, P_lgY, den_s, den_c, Int.add_zero, List.map_cons, List.map_nil, g4.eq, g5.eq, g6.eq, g13.eq, g14.eq, g15.eq, g16.eq, g17.eq, h1, h2, h9, h10, h11, h12, h13, h14, h15, h16, h35, h36, h37, h38, h39, h40, h41, h42, h43, h44, h45, h46, h47, h48] at f0 f1 f2 f3 f4 f5 ⊢
  have hi := f3
  first
    | omega
    | (by_cases q : 0 < r15; (obtain ⟨a1, a2, a3, a4⟩ := hi.2 q; omega); (have := hi.1 (by omega); omega))
    | exact lgS_t hi (by omega) (by first | (left; omega) | (right; unfold atD; omega))
    | exact lgS_k hi (by omega) (by omega) (by unfold atD; omega)
    | (rw [show (r15 + 1) = r15 by omega]; exact hi))
def w_longestOf_1_2 : VC := ((bY ++ [(0, 23), ((-1), (-1)), (0, 7), (1, 8), (0, 10), (0, 11), ((-2147483648), 2147483647), ((-2147483648), 2147483647)]), [(0, [(some 14, 0), (none, (-1))], []), (2, [(some 15, 0), (some 16, 0)], []), (163, [(some 16, 0), (some 17, 0), (some 4, 0), (some 5, 0), (some 6, 0)], [1, 2, 35, 36, 37, 38, 39, 40, 41, 42, 9, 10, 11, 12, 13, 14, 15, 16, 46, 47, 48, 43, 44, 45]), (173, [(some 15, 0), (some 14, 0), (some 13, 0)], [46]), (3, [(some 16, 0), (some 15, 0)], []), (78, [], [1])], (3, [(some 16, 0), (some 15, 1)], []))
set_option maxRecDepth 20000 in
theorem v_longestOf_1_2 {PT : PTy} (hp : HP12 PT) : vcOk PT w_longestOf_1_2 := vc_iv [(4, 0, 8), (5, 0, 6), (6, 0, 6), (13, 0, 23), (14, (-1), (-1)), (15, 0, 7), (16, 1, 8), (17, 0, 10)] [1, 2, 9, 10, 11, 12, 13, 14, 15, 16, 35, 36, 37, 38, 39, 40, 41, 42, 43, 44, 45, 46, 47, 48] (by decide +kernel) (fun ρ α => by
  intro r4 g4 b4 r5 g5 b5 r6 g6 b6 r13 g13 b13 r14 g14 b14 r15 g15 b15 r16 g16 b16 r17 g17 b17 a1 h1 a2 h2 a9 h9 a10 h10 a11 h11 a12 h12 a13 h13 a14 h14 a15 h15 a16 h16 a35 h35 a36 h36 a37 h37 a38 h38 a39 h39 a40 h40 a41 h41 a42 h42 a43 h43 a44 h44 a45 h45 a46 h46 a47 h47 a48 h48 f0 f1 f2 f3 f4 f5 tt
  have e78 : PT 78 = P_ly := pe78_12 hp
  have e163 : PT 163 = P_rt := pe163_12 hp
  have e173 : PT 173 = P_lgY := pe173_12 hp
  simp only [hF0, hF2, hF3, hFp_78, hFp_163, hFp_173, e78, e163, e173, P_ly, P_rt, P_lgY, den_s, den_c, Int.add_zero, List.map_cons, List.map_nil, g4.eq, g5.eq, g6.eq, g13.eq, g14.eq, g15.eq, g16.eq, g17.eq, h1, h2, h9, h10, h11, h12, h13, h14, h15, h16, h35, h36, h37, h38, h39, h40, h41, h42, h43, h44, h45, h46, h47, h48] at f0 f1 f2 f3 f4 f5 ⊢
  have hi := f3
  first
    | omega
    | (by_cases q : 0 < r15; (obtain ⟨a1, a2, a3, a4⟩ := hi.2 q; omega); (have := hi.1 (by omega); omega))
    | exact lgS_t hi (by omega) (by first | (left; omega) | (right; unfold atD; omega))
    | exact lgS_k hi (by omega) (by omega) (by unfold atD; omega)
    | (rw [show r16 = r15 by omega]; exact hi))
def w_longestOf_1_3 : VC := ((bY ++ [(0, 23), (0, 7), (0, 7), (1, 8), (0, 10), (0, 11), ((-2147483648), 2147483647), ((-2147483648), 2147483647), (0, 184), (0, 191), (0, 99), (0, 184), (0, 191), (0, 99)]), [(3, [(some 26, 0), (some 23, 0)], []), (20, [(some 26, 0), (some 25, 0)], [46]), (4, [(some 25, 0), (some 24, 0), (some 14, 0)], []), (6, [(some 24, 0), (none, 8), (some 13, 0)], []), (20, [(some 23, 0), (some 22, 0)], [46]), (4, [(some 22, 0), (some 21, 0), (some 15, 0)], []), (6, [(some 21, 0), (none, 8), (some 13, 0)], []), (1, [(some 14, 0), (none, (-1))], []), (2, [(some 15, 0), (some 16, 0)], []), (163, [(some 16, 0), (some 17, 0), (some 4, 0), (some 5, 0), (some 6, 0)], [1, 2, 35, 36, 37, 38, 39, 40, 41, 42, 9, 10, 11, 12, 13, 14, 15, 16, 46, 47, 48, 43, 44, 45]), (173, [(some 15, 0), (some 14, 0), (some 13, 0)], [46]), (3, [(some 16, 0), (some 15, 0)], []), (78, [], [1])], (173, [(some 15, 1), (some 14, 0), (some 13, 0)], [46]))
set_option maxRecDepth 20000 in
theorem v_longestOf_1_3 {PT : PTy} (hp : HP12 PT) : vcOk PT w_longestOf_1_3 := vc_iv [(4, 0, 8), (5, 0, 6), (6, 0, 6), (13, 0, 23), (14, 0, 7), (15, 0, 7), (16, 1, 8), (17, 0, 10), (21, 0, 184), (22, 0, 191), (23, 0, 99), (24, 0, 184), (25, 0, 191), (26, 0, 99)] [1, 2, 9, 10, 11, 12, 13, 14, 15, 16, 35, 36, 37, 38, 39, 40, 41, 42, 43, 44, 45, 46, 47, 48] (by decide +kernel) (fun ρ α => by
  intro r4 g4 b4 r5 g5 b5 r6 g6 b6 r13 g13 b13 r14 g14 b14 r15 g15 b15 r16 g16 b16 r17 g17 b17 r21 g21 b21 r22 g22 b22 r23 g23 b23 r24 g24 b24 r25 g25 b25 r26 g26 b26 a1 h1 a2 h2 a9 h9 a10 h10 a11 h11 a12 h12 a13 h13 a14 h14 a15 h15 a16 h16 a35 h35 a36 h36 a37 h37 a38 h38 a39 h39 a40 h40 a41 h41 a42 h42 a43 h43 a44 h44 a45 h45 a46 h46 a47 h47 a48 h48 f0 f1 f2 f3 f4 f5 f6 f7 f8 f9 f10 f11 f12 tt
  clear f7
  have e78 : PT 78 = P_ly := pe78_12 hp
  have e163 : PT 163 = P_rt := pe163_12 hp
  have e173 : PT 173 = P_lgY := pe173_12 hp
  simp only [hF2, hF3, hF4, hF6, hF20, hFp_78, hFp_163, hFp_173, e78, e163, e173, P_ly, P_rt, P_lgY, den_s, den_c, Int.add_zero, List.map_cons, List.map_nil, g4.eq, g5.eq, g6.eq, g13.eq, g14.eq, g15.eq, g16.eq, g17.eq, g21.eq, g22.eq, g23.eq, g24.eq, g25.eq, g26.eq, h1, h2, h9, h10, h11, h12, h13, h14, h15, h16, h35, h36, h37, h38, h39, h40, h41, h42, h43, h44, h45, h46, h47, h48] at f0 f1 f2 f3 f4 f5 f6 f8 f9 f10 f11 f12 ⊢
  subst f1
  subst f2
  subst f3
  subst f4
  subst f5
  subst f6
  have hi := f10
  first
    | omega
    | (by_cases q : 0 < r15; (obtain ⟨a1, a2, a3, a4⟩ := hi.2 q; omega); (have := hi.1 (by omega); omega))
    | exact lgS_t hi (by omega) (by first | (left; omega) | (right; unfold atD; omega))
    | exact lgS_k hi (by omega) (by omega) (by unfold atD; omega)
    | (rw [show (r15 + 1) = r15 by omega]; exact hi))
def w_longestOf_1_4 : VC := ((bY ++ [(0, 23), (0, 7), (0, 7), (1, 8), (0, 10), (0, 11), ((-2147483648), 2147483647), ((-2147483648), 2147483647), (0, 184), (0, 191), (0, 99), (0, 184), (0, 191), (0, 99)]), [(3, [(some 26, 0), (some 23, 0)], []), (20, [(some 26, 0), (some 25, 0)], [46]), (4, [(some 25, 0), (some 24, 0), (some 14, 0)], []), (6, [(some 24, 0), (none, 8), (some 13, 0)], []), (20, [(some 23, 0), (some 22, 0)], [46]), (4, [(some 22, 0), (some 21, 0), (some 15, 0)], []), (6, [(some 21, 0), (none, 8), (some 13, 0)], []), (1, [(some 14, 0), (none, (-1))], []), (2, [(some 15, 0), (some 16, 0)], []), (163, [(some 16, 0), (some 17, 0), (some 4, 0), (some 5, 0), (some 6, 0)], [1, 2, 35, 36, 37, 38, 39, 40, 41, 42, 9, 10, 11, 12, 13, 14, 15, 16, 46, 47, 48, 43, 44, 45]), (173, [(some 15, 0), (some 14, 0), (some 13, 0)], [46]), (3, [(some 16, 0), (some 15, 0)], []), (78, [], [1])], (3, [(some 16, 0), (some 15, 1)], []))
set_option maxRecDepth 20000 in
theorem v_longestOf_1_4 {PT : PTy} (hp : HP12 PT) : vcOk PT w_longestOf_1_4 := vc_iv [(4, 0, 8), (5, 0, 6), (6, 0, 6), (13, 0, 23), (14, 0, 7), (15, 0, 7), (16, 1, 8), (17, 0, 10), (21, 0, 184), (22, 0, 191), (23, 0, 99), (24, 0, 184), (25, 0, 191), (26, 0, 99)] [1, 2, 9, 10, 11, 12, 13, 14, 15, 16, 35, 36, 37, 38, 39, 40, 41, 42, 43, 44, 45, 46, 47, 48] (by decide +kernel) (fun ρ α => by
  intro r4 g4 b4 r5 g5 b5 r6 g6 b6 r13 g13 b13 r14 g14 b14 r15 g15 b15 r16 g16 b16 r17 g17 b17 r21 g21 b21 r22 g22 b22 r23 g23 b23 r24 g24 b24 r25 g25 b25 r26 g26 b26 a1 h1 a2 h2 a9 h9 a10 h10 a11 h11 a12 h12 a13 h13 a14 h14 a15 h15 a16 h16 a35 h35 a36 h36 a37 h37 a38 h38 a39 h39 a40 h40 a41 h41 a42 h42 a43 h43 a44 h44 a45 h45 a46 h46 a47 h47 a48 h48 f0 f1 f2 f3 f4 f5 f6 f7 f8 f9 f10 f11 f12 tt
  clear f7
  have e78 : PT 78 = P_ly := pe78_12 hp
  have e163 : PT 163 = P_rt := pe163_12 hp
  have e173 : PT 173 = P_lgY := pe173_12 hp
  simp only [hF2, hF3, hF4, hF6, hF20, hFp_78, hFp_163, hFp_173, e78, e163, e173, P_ly, P_rt, P_lgY, den_s, den_c, Int.add_zero, List.map_cons, List.map_nil, g4.eq, g5.eq, g6.eq, g13.eq, g14.eq, g15.eq, g16.eq, g17.eq, g21.eq, g22.eq, g23.eq, g24.eq, g25.eq, g26.eq, h1, h2, h9, h10, h11, h12, h13, h14, h15, h16, h35, h36, h37, h38, h39, h40, h41, h42, h43, h44, h45, h46, h47, h48] at f0 f1 f2 f3 f4 f5 f6 f8 f9 f10 f11 f12 ⊢
  subst f1
  subst f2
  subst f3
  subst f4
  subst f5
  subst f6
  have hi := f10
  first
    | omega
    | (by_cases q : 0 < r15; (obtain ⟨a1, a2, a3, a4⟩ := hi.2 q; omega); (have := hi.1 (by omega); omega))
    | exact lgS_t hi (by omega) (by first | (left; omega) | (right; unfold atD; omega))
    | exact lgS_k hi (by omega) (by omega) (by unfold atD; omega)
    | (rw [show r16 = r15 by omega]; exact hi))
def w_longestOf_1_5 : VC := ((bY ++ [(0, 23), (0, 7), (0, 7), (1, 8), (0, 10), (0, 11), ((-2147483648), 2147483647), ((-2147483648), 2147483647), (0, 184), (0, 191), (1, 99), (0, 184), (0, 191), (0, 98)]), [(2, [(some 26, 0), (some 23, 0)], []), (20, [(some 26, 0), (some 25, 0)], [46]), (4, [(some 25, 0), (some 24, 0), (some 14, 0)], []), (6, [(some 24, 0), (none, 8), (some 13, 0)], []), (20, [(some 23, 0), (some 22, 0)], [46]), (4, [(some 22, 0), (some 21, 0), (some 15, 0)], []), (6, [(some 21, 0), (none, 8), (some 13, 0)], []), (1, [(some 14, 0), (none, (-1))], []), (2, [(some 15, 0), (some 16, 0)], []), (163, [(some 16, 0), (some 17, 0), (some 4, 0), (some 5, 0), (some 6, 0)], [1, 2, 35, 36, 37, 38, 39, 40, 41, 42, 9, 10, 11, 12, 13, 14, 15, 16, 46, 47, 48, 43, 44, 45]), (173, [(some 15, 0), (some 14, 0), (some 13, 0)], [46]), (3, [(some 16, 0), (some 15, 0)], []), (78, [], [1])], (173, [(some 15, 1), (some 15, 0), (some 13, 0)], [46]))
set_option maxRecDepth 20000 in
theorem v_longestOf_1_5 {PT : PTy} (hp : HP12 PT) : vcOk PT w_longestOf_1_5 := vc_iv [(4, 0, 8), (5, 0, 6), (6, 0, 6), (13, 0, 23), (14, 0, 7), (15, 0, 7), (16, 1, 8), (17, 0, 10), (21, 0, 184), (22, 0, 191), (23, 1, 99), (24, 0, 184), (25, 0, 191), (26, 0, 98)] [1, 2, 9, 10, 11, 12, 13, 14, 15, 16, 35, 36, 37, 38, 39, 40, 41, 42, 43, 44, 45, 46, 47, 48] (by decide +kernel) (fun ρ α => by
  intro r4 g4 b4 r5 g5 b5 r6 g6 b6 r13 g13 b13 r14 g14 b14 r15 g15 b15 r16 g16 b16 r17 g17 b17 r21 g21 b21 r22 g22 b22 r23 g23 b23 r24 g24 b24 r25 g25 b25 r26 g26 b26 a1 h1 a2 h2 a9 h9 a10 h10 a11 h11 a12 h12 a13 h13 a14 h14 a15 h15 a16 h16 a35 h35 a36 h36 a37 h37 a38 h38 a39 h39 a40 h40 a41 h41 a42 h42 a43 h43 a44 h44 a45 h45 a46 h46 a47 h47 a48 h48 f0 f1 f2 f3 f4 f5 f6 f7 f8 f9 f10 f11 f12 tt
  clear f7
  have e78 : PT 78 = P_ly := pe78_12 hp
  have e163 : PT 163 = P_rt := pe163_12 hp
  have e173 : PT 173 = P_lgY := pe173_12 hp
  simp only [hF2, hF3, hF4, hF6, hF20, hFp_78, hFp_163, hFp_173, e78, e163, e173, P_ly, P_rt, P_lgY, den_s, den_c, Int.add_zero, List.map_cons, List.map_nil, g4.eq, g5.eq, g6.eq, g13.eq, g14.eq, g15.eq, g16.eq, g17.eq, g21.eq, g22.eq, g23.eq, g24.eq, g25.eq, g26.eq, h1, h2, h9, h10, h11, h12, h13, h14, h15, h16, h35, h36, h37, h38, h39, h40, h41, h42, h43, h44, h45, h46, h47, h48] at f0 f1 f2 f3 f4 f5 f6 f8 f9 f10 f11 f12 ⊢
  subst f1
  subst f2
  subst f3
  subst f4
  subst f5
  subst f6
  have hi := f10
  first
    | omega
    | (by_cases q : 0 < r15; (obtain ⟨a1, a2, a3, a4⟩ := hi.2 q; omega); (have := hi.1 (by omega); omega))
    | exact lgS_t hi (by omega) (by first | (left; omega) | (right; unfold atD; omega))
    | exact lgS_k hi (by omega) (by omega) (by unfold atD; omega)
    | (rw [show (r15 + 1) = r15 by omega]; exact hi))
def w_longestOf_1_6 : VC := ((bY ++ [(0, 23), (0, 7), (0, 7), (1, 8), (0, 10), (0, 11), ((-2147483648), 2147483647), ((-2147483648), 2147483647), (0, 184), (0, 191), (1, 99), (0, 184), (0, 191), (0, 98)]), [(2, [(some 26, 0), (some 23, 0)], []), (20, [(some 26, 0), (some 25, 0)], [46]), (4, [(some 25, 0), (some 24, 0), (some 14, 0)], []), (6, [(some 24, 0), (none, 8), (some 13, 0)], []), (20, [(some 23, 0), (some 22, 0)], [46]), (4, [(some 22, 0), (some 21, 0), (some 15, 0)], []), (6, [(some 21, 0), (none, 8), (some 13, 0)], []), (1, [(some 14, 0), (none, (-1))], []), (2, [(some 15, 0), (some 16, 0)], []), (163, [(some 16, 0), (some 17, 0), (some 4, 0), (some 5, 0), (some 6, 0)], [1, 2, 35, 36, 37, 38, 39, 40, 41, 42, 9, 10, 11, 12, 13, 14, 15, 16, 46, 47, 48, 43, 44, 45]), (173, [(some 15, 0), (some 14, 0), (some 13, 0)], [46]), (3, [(some 16, 0), (some 15, 0)], []), (78, [], [1])], (3, [(some 16, 0), (some 15, 1)], []))
set_option maxRecDepth 20000 in
theorem v_longestOf_1_6 {PT : PTy} (hp : HP12 PT) : vcOk PT w_longestOf_1_6 := vc_iv [(4, 0, 8), (5, 0, 6), (6, 0, 6), (13, 0, 23), (14, 0, 7), (15, 0, 7), (16, 1, 8), (17, 0, 10), (21, 0, 184), (22, 0, 191), (23, 1, 99), (24, 0, 184), (25, 0, 191), (26, 0, 98)] [1, 2, 9, 10, 11, 12, 13, 14, 15, 16, 35, 36, 37, 38, 39, 40, 41, 42, 43, 44, 45, 46, 47, 48] (by decide +kernel) (fun ρ α => by
  intro r4 g4 b4 r5 g5 b5 r6 g6 b6 r13 g13 b13 r14 g14 b14 r15 g15 b15 r16 g16 b16 r17 g17 b17 r21 g21 b21 r22 g22 b22 r23 g23 b23 r24 g24 b24 r25 g25 b25 r26 g26 b26 a1 h1 a2 h2 a9 h9 a10 h10 a11 h11 a12 h12 a13 h13 a14 h14 a15 h15 a16 h16 a35 h35 a36 h36 a37 h37 a38 h38 a39 h39 a40 h40 a41 h41 a42 h42 a43 h43 a44 h44 a45 h45 a46 h46 a47 h47 a48 h48 f0 f1 f2 f3 f4 f5 f6 f7 f8 f9 f10 f11 f12 tt
  clear f7
  have e78 : PT 78 = P_ly := pe78_12 hp
  have e163 : PT 163 = P_rt := pe163_12 hp
  have e173 : PT 173 = P_lgY := pe173_12 hp
  simp only [hF2, hF3, hF4, hF6, hF20, hFp_78, hFp_163, hFp_173, e78, e163, e173, P_ly, P_rt, P_lgY, den_s, den_c, Int.add_zero, List.map_cons, List.map_nil, g4.eq, g5.eq, g6.eq, g13.eq, g14.eq, g15.eq, g16.eq, g17.eq, g21.eq, g22.eq, g23.eq, g24.eq, g25.eq, g26.eq, h1, h2, h9, h10, h11, h12, h13, h14, h15, h16, h35, h36, h37, h38, h39, h40, h41, h42, h43, h44, h45, h46, h47, h48] at f0 f1 f2 f3 f4 f5 f6 f8 f9 f10 f11 f12 ⊢
  subst f1
  subst f2
  subst f3
  subst f4
  subst f5
  subst f6
  have hi := f10
  first
    | omega
    | (by_cases q : 0 < r15; (obtain ⟨a1, a2, a3, a4⟩ := hi.2 q; omega); (have := hi.1 (by omega); omega))
    | exact lgS_t hi (by omega) (by first | (left; omega) | (right; unfold atD; omega))
    | exact lgS_k hi (by omega) (by omega) (by unfold atD; omega)
    | (rw [show r16 = r15 by omega]; exact hi))
set_option maxRecDepth 1000000 in
theorem k_longestOf {PT : PTy} (hp : HP12 PT) : wfX c_longestOf = true ∧ xcOk PT c_longestOf := xctr (xl (k_rtY hp) (xl0)) c_longestOf 50 mX7_longestOf rfl h_longestOf (by decide +kernel) (by decide +kernel) (by decide) (vcs_by [w_longestOf_0_0, w_longestOf_0_1] (by decide +kernel) (vc (v_longestOf_0_0 hp) (vc (v_longestOf_0_1 hp) vn))) (fmc (vcs_by [w_longestOf_1_0, w_longestOf_1_1, w_longestOf_1_2, w_longestOf_1_3, w_longestOf_1_4, w_longestOf_1_5, w_longestOf_1_6] (by decide +kernel) (vc (v_longestOf_1_0 hp) (vc (v_longestOf_1_1 hp) (vc (v_longestOf_1_2 hp) (vc (v_longestOf_1_3 hp) (vc (v_longestOf_1_4 hp) (vc (v_longestOf_1_5 hp) (vc (v_longestOf_1_6 hp) vn)))))))) fmn)
def c_bestNow : XC := (158, 7, (bY), [.inr (.inl 0)], gY2, [(78, [], [1])], [((bY ++ [((-1), 23), (0, 8), (0, 10), (0, 11), ((-2147483648), 2147483647), ((-2147483648), 2147483647)]), some (.inl (some 13, 0)), (hst gY2 [(0, .inr (.inr (.inr (7, [.inr (.inl 1), .inr (.inl 2), .inl (some 14, 0), .inr (.inl 3), .inr (.inl 4), .inl (some 15, 0), .inr (.inl 5), .inr (.inl 6), .inr (.inl 7), .inr (.inl 8), .inl (some 4, 0), .inr (.inl 9), .inr (.inl 10), .inl (some 5, 0), .inr (.inl 11), .inr (.inl 12), .inr (.inl 13), .inl (some 6, 0), .inr (.inl 14), .inr (.inl 15), .inr (.inl 16), .inl (some 16, 0), .inl (some 4, 0), .inr (.inl 17), .inr (.inl 18), .inl (some 17, 0), .inl (some 18, 0), .inr (.inl 19), .inr (.inl 20), .inr (.inl 21), .inr (.inl 22), .inr (.inl 23), .inr (.inl 24), .inr (.inl 25), .inl (some 7, 0), .inr (.inl 26), .inr (.inl 27), .inr (.inl 28), .inr (.inl 29), .inr (.inl 30), .inr (.inl 31), .inr (.inl 32), .inr (.inl 33), .inr (.inl 34), .inl (some 12, 0)]))))]), [0, 1, 2, 35, 36, 37, 38, 39, 40, 9, 10, 11, 12, 13, 14, 15, 16, 41, 42, 43, 44, 45, 46, 47, 48, 25, 26, 27, 28, 29, 30, 31, 32, 33, 34], 49, [(170, [(some 13, 0), (some 14, 0), (some 15, 0), (some 4, 0), (some 5, 0), (some 6, 0)], [1, 2, 35, 36, 37, 38, 39, 40, 41, 42, 9, 10, 11, 12, 13, 14, 15, 16, 46, 47, 48, 43, 44, 45])])])
def h_bestNow : List XH := [(8, (bY ++ [(0, 23), (1, 24), (0, 8), (0, 10), (0, 11), ((-2147483648), 2147483647), ((-2147483648), 2147483647)]), [some (.inr (.inl 0)), some (.inl (some 13, 0)), some (.inl (some 14, 0))], (hst gY2 [(0, .inr (.inr (.inr (7, [.inr (.inl 1), .inr (.inl 2), .inl (some 15, 0), .inr (.inl 3), .inr (.inl 4), .inl (some 16, 0), .inr (.inl 5), .inr (.inl 6), .inr (.inl 7), .inr (.inl 8), .inl (some 4, 0), .inr (.inl 9), .inr (.inl 10), .inl (some 5, 0), .inr (.inl 11), .inr (.inl 12), .inr (.inl 13), .inl (some 6, 0), .inr (.inl 14), .inr (.inl 15), .inr (.inl 16), .inl (some 17, 0), .inl (some 4, 0), .inr (.inl 17), .inr (.inl 18), .inl (some 18, 0), .inl (some 19, 0), .inr (.inl 19), .inr (.inl 20), .inr (.inl 21), .inr (.inl 22), .inr (.inl 23), .inr (.inl 24), .inr (.inl 25), .inl (some 7, 0), .inr (.inl 26), .inr (.inl 27), .inr (.inl 28), .inr (.inl 29), .inr (.inl 30), .inr (.inl 31), .inr (.inl 32), .inr (.inl 33), .inr (.inl 34), .inl (some 12, 0)]))))]), [0, 1, 2, 35, 36, 37, 38, 39, 40, 9, 10, 11, 12, 13, 14, 15, 16, 41, 42, 43, 44, 45, 46, 47, 48, 25, 26, 27, 28, 29, 30, 31, 32, 33, 34], 49, [(163, [(some 15, 0), (some 16, 0), (some 4, 0), (some 5, 0), (some 6, 0)], [1, 2, 35, 36, 37, 38, 39, 40, 41, 42, 9, 10, 11, 12, 13, 14, 15, 16, 46, 47, 48, 43, 44, 45]), (176, [(some 14, 0), (some 13, 0), (some 15, 0)], [46, 36]), (3, [(none, 24), (some 14, 0)], []), (3, [(some 14, 0), (none, 1)], [])], [(true, (none, 1)), (true, (some 14, 0))])]
def w_bestNow_0_0 : VC := ((bY ++ [(0, 8), (0, 10), (0, 11), ((-2147483648), 2147483647), ((-2147483648), 2147483647)]), [(163, [(some 13, 0), (some 14, 0), (some 4, 0), (some 5, 0), (some 6, 0)], [1, 2, 35, 36, 37, 38, 39, 40, 41, 42, 9, 10, 11, 12, 13, 14, 15, 16, 46, 47, 48, 43, 44, 45]), (78, [], [1])], (176, [(none, 1), (none, 0), (some 13, 0)], [46, 36]))
theorem pe176_12 {PT : PTy} (hp : HP12 PT) : PT 176 = P_beY := hp.2.2.2.2.2.2.2.2.2.2.2.2.2.2.1
set_option maxRecDepth 20000 in
theorem v_bestNow_0_0 {PT : PTy} (hp : HP12 PT) : vcOk PT w_bestNow_0_0 := vc_iv [(4, 0, 8), (5, 0, 6), (6, 0, 6), (13, 0, 8), (14, 0, 10)] [1, 2, 9, 10, 11, 12, 13, 14, 15, 16, 35, 36, 37, 38, 39, 40, 41, 42, 43, 44, 45, 46, 47, 48] (by decide +kernel) (fun ρ α => by
  intro r4 g4 b4 r5 g5 b5 r6 g6 b6 r13 g13 b13 r14 g14 b14 a1 h1 a2 h2 a9 h9 a10 h10 a11 h11 a12 h12 a13 h13 a14 h14 a15 h15 a16 h16 a35 h35 a36 h36 a37 h37 a38 h38 a39 h39 a40 h40 a41 h41 a42 h42 a43 h43 a44 h44 a45 h45 a46 h46 a47 h47 a48 h48 f0 f1 tt
  have e78 : PT 78 = P_ly := pe78_12 hp
  have e163 : PT 163 = P_rt := pe163_12 hp
  have e176 : PT 176 = P_beY := pe176_12 hp
  simp only [hFp_78, hFp_163, hFp_176, e78, e163, e176, P_ly, P_rt, P_beY, den_s, den_c, Int.add_zero, List.map_cons, List.map_nil, g4.eq, g5.eq, g6.eq, g13.eq, g14.eq, h1, h2, h9, h10, h11, h12, h13, h14, h15, h16, h35, h36, h37, h38, h39, h40, h41, h42, h43, h44, h45, h46, h47, h48] at f0 f1 ⊢
  first
    | omega
    | exact lgS_1
    | exact f0
    | ((repeat' (first | apply And.intro | intro h)) <;> first | omega | rfl | trivial | (exfalso; omega) | exact f0 | exact MISSING | exact MISSING | exact MISSING | exact MISSING))
def w_bestNow_0_1 : VC := ((bY ++ [(0, 8), (0, 10), (0, 11), ((-2147483648), 2147483647), ((-2147483648), 2147483647)]), [(163, [(some 13, 0), (some 14, 0), (some 4, 0), (some 5, 0), (some 6, 0)], [1, 2, 35, 36, 37, 38, 39, 40, 41, 42, 9, 10, 11, 12, 13, 14, 15, 16, 46, 47, 48, 43, 44, 45]), (78, [], [1])], (3, [(none, 24), (none, 1)], []))
theorem v_bestNow_0_1 {PT : PTy} (_ : HP12 PT) : vcOk PT w_bestNow_0_1 := vc_of (fun ρ α _ _ => by simp only [hF3, den_c] <;> omega)
def w_bestNow_0_2 : VC := ((bY ++ [(0, 8), (0, 10), (0, 11), ((-2147483648), 2147483647), ((-2147483648), 2147483647)]), [(163, [(some 13, 0), (some 14, 0), (some 4, 0), (some 5, 0), (some 6, 0)], [1, 2, 35, 36, 37, 38, 39, 40, 41, 42, 9, 10, 11, 12, 13, 14, 15, 16, 46, 47, 48, 43, 44, 45]), (78, [], [1])], (3, [(none, 1), (none, 1)], []))
theorem v_bestNow_0_2 {PT : PTy} (_ : HP12 PT) : vcOk PT w_bestNow_0_2 := vc_of (fun ρ α _ _ => by simp only [hF3, den_c] <;> omega)
def w_bestNow_1_0 : VC := ((bY ++ [(0, 23), (24, 24), (1, 8), (0, 10), (0, 11), ((-2147483648), 2147483647), ((-2147483648), 2147483647)]), [(1, [(some 15, 0), (none, 0)], []), (3, [(some 14, 0), (none, 24)], []), (163, [(some 15, 0), (some 16, 0), (some 4, 0), (some 5, 0), (some 6, 0)], [1, 2, 35, 36, 37, 38, 39, 40, 41, 42, 9, 10, 11, 12, 13, 14, 15, 16, 46, 47, 48, 43, 44, 45]), (176, [(some 14, 0), (some 13, 0), (some 15, 0)], [46, 36]), (3, [(none, 24), (some 14, 0)], []), (3, [(some 14, 0), (none, 1)], []), (78, [], [1])], (170, [(some 13, 0), (some 15, 0), (some 16, 0), (some 4, 0), (some 5, 0), (some 6, 0)], [1, 2, 35, 36, 37, 38, 39, 40, 41, 42, 9, 10, 11, 12, 13, 14, 15, 16, 46, 47, 48, 43, 44, 45]))
theorem pe170_12 {PT : PTy} (hp : HP12 PT) : PT 170 = P_obY := hp.2.2.2.2.2.2.2.2.1
set_option maxRecDepth 20000 in
theorem v_bestNow_1_0 {PT : PTy} (hp : HP12 PT) : vcOk PT w_bestNow_1_0 := vc_iv [(4, 0, 8), (5, 0, 6), (6, 0, 6), (13, 0, 23), (14, 24, 24), (15, 1, 8), (16, 0, 10)] [1, 2, 9, 10, 11, 12, 13, 14, 15, 16, 35, 36, 37, 38, 39, 40, 41, 42, 43, 44, 45, 46, 47, 48] (by decide +kernel) (fun ρ α => by
  intro r4 g4 b4 r5 g5 b5 r6 g6 b6 r13 g13 b13 r14 g14 b14 r15 g15 b15 r16 g16 b16 a1 h1 a2 h2 a9 h9 a10 h10 a11 h11 a12 h12 a13 h13 a14 h14 a15 h15 a16 h16 a35 h35 a36 h36 a37 h37 a38 h38 a39 h39 a40 h40 a41 h41 a42 h42 a43 h43 a44 h44 a45 h45 a46 h46 a47 h47 a48 h48 f0 f1 f2 f3 f4 f5 f6 tt
  clear f0 f1 f4 f5
  have e78 : PT 78 = P_ly := pe78_12 hp
  have e163 : PT 163 = P_rt := pe163_12 hp
  have e170 : PT 170 = P_obY := pe170_12 hp
  have e176 : PT 176 = P_beY := pe176_12 hp
  simp only [hFp_78, hFp_163, hFp_170, hFp_176, e78, e163, e170, e176, P_ly, P_rt, P_obY, P_beY, den_s, den_c, Int.add_zero, List.map_cons, List.map_nil, g4.eq, g5.eq, g6.eq, g13.eq, g14.eq, g15.eq, g16.eq, h1, h2, h9, h10, h11, h12, h13, h14, h15, h16, h35, h36, h37, h38, h39, h40, h41, h42, h43, h44, h45, h46, h47, h48] at f2 f3 f6 ⊢
  have hi := f3
  first
    | omega
    | (obtain ⟨a1, a2, a3, a4⟩ := hi.2 (by omega); omega)
    | (have c0 := (MISSING).1; have c1 := (MISSING).1; exact lgS_t hi (by omega) (Or.inr (by show cntF _ _ _ < cntF _ _ _; rw [← c0, ← c1]; omega)))
    | (have c0 := (MISSING).1; have c1 := (MISSING).1; exact lgS_k hi (by omega) (by have := (hi.2 (by omega)).1; omega) (by show cntF _ _ _ ≤ cntF _ _ _; rw [← c0, ← c1]; omega))
    | (rw [show r14 = 24 by omega] at hi; exact ⟨f2, by omega, fun _ => hi⟩)
    | (rw [show r14 = 24 by omega] at hi; exact ⟨f2, fun _ => (by first | rfl | trivial), fun h => by exfalso; omega⟩))
def w_bestNow_1_1 : VC := ((bY ++ [(0, 23), (24, 24), (0, 0), (0, 10), (0, 11), ((-2147483648), 2147483647), ((-2147483648), 2147483647)]), [(0, [(some 15, 0), (none, 0)], []), (3, [(some 14, 0), (none, 24)], []), (163, [(some 15, 0), (some 16, 0), (some 4, 0), (some 5, 0), (some 6, 0)], [1, 2, 35, 36, 37, 38, 39, 40, 41, 42, 9, 10, 11, 12, 13, 14, 15, 16, 46, 47, 48, 43, 44, 45]), (176, [(some 14, 0), (some 13, 0), (some 15, 0)], [46, 36]), (3, [(none, 24), (some 14, 0)], []), (3, [(some 14, 0), (none, 1)], []), (78, [], [1])], (170, [(none, (-1)), (some 15, 0), (some 16, 0), (some 4, 0), (some 5, 0), (some 6, 0)], [1, 2, 35, 36, 37, 38, 39, 40, 41, 42, 9, 10, 11, 12, 13, 14, 15, 16, 46, 47, 48, 43, 44, 45]))
set_option maxRecDepth 20000 in
theorem v_bestNow_1_1 {PT : PTy} (hp : HP12 PT) : vcOk PT w_bestNow_1_1 := vc_iv [(4, 0, 8), (5, 0, 6), (6, 0, 6), (13, 0, 23), (14, 24, 24), (15, 0, 0), (16, 0, 10)] [1, 2, 9, 10, 11, 12, 13, 14, 15, 16, 35, 36, 37, 38, 39, 40, 41, 42, 43, 44, 45, 46, 47, 48] (by decide +kernel) (fun ρ α => by
  intro r4 g4 b4 r5 g5 b5 r6 g6 b6 r13 g13 b13 r14 g14 b14 r15 g15 b15 r16 g16 b16 a1 h1 a2 h2 a9 h9 a10 h10 a11 h11 a12 h12 a13 h13 a14 h14 a15 h15 a16 h16 a35 h35 a36 h36 a37 h37 a38 h38 a39 h39 a40 h40 a41 h41 a42 h42 a43 h43 a44 h44 a45 h45 a46 h46 a47 h47 a48 h48 f0 f1 f2 f3 f4 f5 f6 tt
  clear f1 f4 f5
  have e78 : PT 78 = P_ly := pe78_12 hp
  have e163 : PT 163 = P_rt := pe163_12 hp
  have e170 : PT 170 = P_obY := pe170_12 hp
  have e176 : PT 176 = P_beY := pe176_12 hp
  simp only [hF0, hFp_78, hFp_163, hFp_170, hFp_176, e78, e163, e170, e176, P_ly, P_rt, P_obY, P_beY, den_s, den_c, Int.add_zero, List.map_cons, List.map_nil, g4.eq, g5.eq, g6.eq, g13.eq, g14.eq, g15.eq, g16.eq, h1, h2, h9, h10, h11, h12, h13, h14, h15, h16, h35, h36, h37, h38, h39, h40, h41, h42, h43, h44, h45, h46, h47, h48] at f0 f2 f3 f6 ⊢
  have hi := f3
  first
    | omega
    | (obtain ⟨a1, a2, a3, a4⟩ := hi.2 (by omega); omega)
    | (have c0 := (MISSING).1; have c1 := (MISSING).1; exact lgS_t hi (by omega) (Or.inr (by show cntF _ _ _ < cntF _ _ _; rw [← c0, ← c1]; omega)))
    | (have c0 := (MISSING).1; have c1 := (MISSING).1; exact lgS_k hi (by omega) (by have := (hi.2 (by omega)).1; omega) (by show cntF _ _ _ ≤ cntF _ _ _; rw [← c0, ← c1]; omega))
    | (rw [show r14 = 24 by omega] at hi; exact ⟨f2, by omega, fun _ => hi⟩)
    | (rw [show r14 = 24 by omega] at hi; exact ⟨f2, fun _ => (by first | rfl | trivial), fun h => by exfalso; omega⟩))
def w_bestNow_1_2 : VC := ((bY ++ [(0, 23), (1, 23), (0, 8), (0, 10), (0, 11), ((-2147483648), 2147483647), ((-2147483648), 2147483647), (0, 8), (0, 8)]), [(3, [(some 21, 0), (some 20, 0)], []), (174, [(some 21, 0), (some 15, 0), (some 13, 0)], [46, 36]), (174, [(some 20, 0), (some 15, 0), (some 14, 0)], [46, 36]), (2, [(some 14, 0), (none, 24)], []), (163, [(some 15, 0), (some 16, 0), (some 4, 0), (some 5, 0), (some 6, 0)], [1, 2, 35, 36, 37, 38, 39, 40, 41, 42, 9, 10, 11, 12, 13, 14, 15, 16, 46, 47, 48, 43, 44, 45]), (176, [(some 14, 0), (some 13, 0), (some 15, 0)], [46, 36]), (3, [(none, 24), (some 14, 0)], []), (3, [(some 14, 0), (none, 1)], []), (78, [], [1])], (176, [(some 14, 1), (some 13, 0), (some 15, 0)], [46, 36]))
set_option maxRecDepth 20000 in
theorem v_bestNow_1_2 {PT : PTy} (hp : HP12 PT) : vcOk PT w_bestNow_1_2 := vc_iv [(4, 0, 8), (5, 0, 6), (6, 0, 6), (13, 0, 23), (14, 1, 23), (15, 0, 8), (16, 0, 10), (20, 0, 8), (21, 0, 8)] [1, 2, 9, 10, 11, 12, 13, 14, 15, 16, 35, 36, 37, 38, 39, 40, 41, 42, 43, 44, 45, 46, 47, 48] (by decide +kernel) (fun ρ α => by
  intro r4 g4 b4 r5 g5 b5 r6 g6 b6 r13 g13 b13 r14 g14 b14 r15 g15 b15 r16 g16 b16 r20 g20 b20 r21 g21 b21 a1 h1 a2 h2 a9 h9 a10 h10 a11 h11 a12 h12 a13 h13 a14 h14 a15 h15 a16 h16 a35 h35 a36 h36 a37 h37 a38 h38 a39 h39 a40 h40 a41 h41 a42 h42 a43 h43 a44 h44 a45 h45 a46 h46 a47 h47 a48 h48 f0 f1 f2 f3 f4 f5 f6 f7 f8 tt
  clear f3 f6 f7
  have e78 : PT 78 = P_ly := pe78_12 hp
  have e163 : PT 163 = P_rt := pe163_12 hp
  have e174 : PT 174 = P_cnY := pe174_12 hp
  have e176 : PT 176 = P_beY := pe176_12 hp
  simp only [hF3, hFp_78, hFp_163, hFp_174, hFp_176, e78, e163, e174, e176, P_ly, P_rt, P_cnY, P_beY, den_s, den_c, Int.add_zero, List.map_cons, List.map_nil, g4.eq, g5.eq, g6.eq, g13.eq, g14.eq, g15.eq, g16.eq, g20.eq, g21.eq, h1, h2, h9, h10, h11, h12, h13, h14, h15, h16, h35, h36, h37, h38, h39, h40, h41, h42, h43, h44, h45, h46, h47, h48] at f0 f1 f2 f4 f5 f8 ⊢
  have hi := f5
  first
    | omega
    | (obtain ⟨a1, a2, a3, a4⟩ := hi.2 (by omega); omega)
    | (have c0 := (f1).1; have c1 := (f2).1; exact lgS_t hi (by omega) (Or.inr (by show cntF _ _ _ < cntF _ _ _; rw [← c0, ← c1]; omega)))
    | (have c0 := (f1).1; have c1 := (f2).1; exact lgS_k hi (by omega) (by have := (hi.2 (by omega)).1; omega) (by show cntF _ _ _ ≤ cntF _ _ _; rw [← c0, ← c1]; omega))
    | (rw [show r14 = 24 by omega] at hi; exact ⟨f4, by omega, fun _ => hi⟩)
    | (rw [show r14 = 24 by omega] at hi; exact ⟨f4, fun _ => (by first | rfl | trivial), fun h => by exfalso; omega⟩))
def w_bestNow_1_3 : VC := ((bY ++ [(0, 23), (1, 23), (0, 8), (0, 10), (0, 11), ((-2147483648), 2147483647), ((-2147483648), 2147483647), (0, 8), (0, 8)]), [(3, [(some 21, 0), (some 20, 0)], []), (174, [(some 21, 0), (some 15, 0), (some 13, 0)], [46, 36]), (174, [(some 20, 0), (some 15, 0), (some 14, 0)], [46, 36]), (2, [(some 14, 0), (none, 24)], []), (163, [(some 15, 0), (some 16, 0), (some 4, 0), (some 5, 0), (some 6, 0)], [1, 2, 35, 36, 37, 38, 39, 40, 41, 42, 9, 10, 11, 12, 13, 14, 15, 16, 46, 47, 48, 43, 44, 45]), (176, [(some 14, 0), (some 13, 0), (some 15, 0)], [46, 36]), (3, [(none, 24), (some 14, 0)], []), (3, [(some 14, 0), (none, 1)], []), (78, [], [1])], (3, [(none, 24), (some 14, 1)], []))
set_option maxRecDepth 20000 in
theorem v_bestNow_1_3 {PT : PTy} (hp : HP12 PT) : vcOk PT w_bestNow_1_3 := vc_iv [(4, 0, 8), (5, 0, 6), (6, 0, 6), (13, 0, 23), (14, 1, 23), (15, 0, 8), (16, 0, 10), (20, 0, 8), (21, 0, 8)] [1, 2, 9, 10, 11, 12, 13, 14, 15, 16, 35, 36, 37, 38, 39, 40, 41, 42, 43, 44, 45, 46, 47, 48] (by decide +kernel) (fun ρ α => by
  intro r4 g4 b4 r5 g5 b5 r6 g6 b6 r13 g13 b13 r14 g14 b14 r15 g15 b15 r16 g16 b16 r20 g20 b20 r21 g21 b21 a1 h1 a2 h2 a9 h9 a10 h10 a11 h11 a12 h12 a13 h13 a14 h14 a15 h15 a16 h16 a35 h35 a36 h36 a37 h37 a38 h38 a39 h39 a40 h40 a41 h41 a42 h42 a43 h43 a44 h44 a45 h45 a46 h46 a47 h47 a48 h48 f0 f1 f2 f3 f4 f5 f6 f7 f8 tt
  clear f3 f6 f7
  have e78 : PT 78 = P_ly := pe78_12 hp
  have e163 : PT 163 = P_rt := pe163_12 hp
  have e174 : PT 174 = P_cnY := pe174_12 hp
  have e176 : PT 176 = P_beY := pe176_12 hp
  simp only [hF3, hFp_78, hFp_163, hFp_174, hFp_176, e78, e163, e174, e176, P_ly, P_rt, P_cnY, P_beY, den_s, den_c, Int.add_zero, List.map_cons, List.map_nil, g4.eq, g5.eq, g6.eq, g13.eq, g14.eq, g15.eq, g16.eq, g20.eq, g21.eq, h1, h2, h9, h10, h11, h12, h13, h14, h15, h16, h35, h36, h37, h38, h39, h40, h41, h42, h43, h44, h45, h46, h47, h48] at f0 f1 f2 f4 f5 f8 ⊢
  have hi := f5
  first
    | omega
    | (obtain ⟨a1, a2, a3, a4⟩ := hi.2 (by omega); omega)
    | (have c0 := (f1).1; have c1 := (f2).1; exact lgS_t hi (by omega) (Or.inr (by show cntF _ _ _ < cntF _ _ _; rw [← c0, ← c1]; omega)))
    | (have c0 := (f1).1; have c1 := (f2).1; exact lgS_k hi (by omega) (by have := (hi.2 (by omega)).1; omega) (by show cntF _ _ _ ≤ cntF _ _ _; rw [← c0, ← c1]; omega))
    | (rw [show r14 = 24 by omega] at hi; exact ⟨f4, by omega, fun _ => hi⟩)
    | (rw [show r14 = 24 by omega] at hi; exact ⟨f4, fun _ => (by first | rfl | trivial), fun h => by exfalso; omega⟩))
def w_bestNow_1_4 : VC := ((bY ++ [(0, 23), (1, 23), (0, 8), (0, 10), (0, 11), ((-2147483648), 2147483647), ((-2147483648), 2147483647), (0, 8), (0, 8)]), [(3, [(some 21, 0), (some 20, 0)], []), (174, [(some 21, 0), (some 15, 0), (some 13, 0)], [46, 36]), (174, [(some 20, 0), (some 15, 0), (some 14, 0)], [46, 36]), (2, [(some 14, 0), (none, 24)], []), (163, [(some 15, 0), (some 16, 0), (some 4, 0), (some 5, 0), (some 6, 0)], [1, 2, 35, 36, 37, 38, 39, 40, 41, 42, 9, 10, 11, 12, 13, 14, 15, 16, 46, 47, 48, 43, 44, 45]), (176, [(some 14, 0), (some 13, 0), (some 15, 0)], [46, 36]), (3, [(none, 24), (some 14, 0)], []), (3, [(some 14, 0), (none, 1)], []), (78, [], [1])], (3, [(some 14, 1), (none, 1)], []))
set_option maxRecDepth 20000 in
theorem v_bestNow_1_4 {PT : PTy} (hp : HP12 PT) : vcOk PT w_bestNow_1_4 := vc_iv [(4, 0, 8), (5, 0, 6), (6, 0, 6), (13, 0, 23), (14, 1, 23), (15, 0, 8), (16, 0, 10), (20, 0, 8), (21, 0, 8)] [1, 2, 9, 10, 11, 12, 13, 14, 15, 16, 35, 36, 37, 38, 39, 40, 41, 42, 43, 44, 45, 46, 47, 48] (by decide +kernel) (fun ρ α => by
  intro r4 g4 b4 r5 g5 b5 r6 g6 b6 r13 g13 b13 r14 g14 b14 r15 g15 b15 r16 g16 b16 r20 g20 b20 r21 g21 b21 a1 h1 a2 h2 a9 h9 a10 h10 a11 h11 a12 h12 a13 h13 a14 h14 a15 h15 a16 h16 a35 h35 a36 h36 a37 h37 a38 h38 a39 h39 a40 h40 a41 h41 a42 h42 a43 h43 a44 h44 a45 h45 a46 h46 a47 h47 a48 h48 f0 f1 f2 f3 f4 f5 f6 f7 f8 tt
  clear f3 f6 f7
  have e78 : PT 78 = P_ly := pe78_12 hp
  have e163 : PT 163 = P_rt := pe163_12 hp
  have e174 : PT 174 = P_cnY := pe174_12 hp
  have e176 : PT 176 = P_beY := pe176_12 hp
  simp only [hF3, hFp_78, hFp_163, hFp_174, hFp_176, e78, e163, e174, e176, P_ly, P_rt, P_cnY, P_beY, den_s, den_c, Int.add_zero, List.map_cons, List.map_nil, g4.eq, g5.eq, g6.eq, g13.eq, g14.eq, g15.eq, g16.eq, g20.eq, g21.eq, h1, h2, h9, h10, h11, h12, h13, h14, h15, h16, h35, h36, h37, h38, h39, h40, h41, h42, h43, h44, h45, h46, h47, h48] at f0 f1 f2 f4 f5 f8 ⊢
  have hi := f5
  first
    | omega
    | (obtain ⟨a1, a2, a3, a4⟩ := hi.2 (by omega); omega)
    | (have c0 := (f1).1; have c1 := (f2).1; exact lgS_t hi (by omega) (Or.inr (by show cntF _ _ _ < cntF _ _ _; rw [← c0, ← c1]; omega)))
    | (have c0 := (f1).1; have c1 := (f2).1; exact lgS_k hi (by omega) (by have := (hi.2 (by omega)).1; omega) (by show cntF _ _ _ ≤ cntF _ _ _; rw [← c0, ← c1]; omega))
    | (rw [show r14 = 24 by omega] at hi; exact ⟨f4, by omega, fun _ => hi⟩)
    | (rw [show r14 = 24 by omega] at hi; exact ⟨f4, fun _ => (by first | rfl | trivial), fun h => by exfalso; omega⟩))
def w_bestNow_1_5 : VC := ((bY ++ [(0, 23), (1, 23), (0, 8), (0, 10), (0, 11), ((-2147483648), 2147483647), ((-2147483648), 2147483647), (1, 8), (0, 7)]), [(2, [(some 21, 0), (some 20, 0)], []), (174, [(some 21, 0), (some 15, 0), (some 13, 0)], [46, 36]), (174, [(some 20, 0), (some 15, 0), (some 14, 0)], [46, 36]), (2, [(some 14, 0), (none, 24)], []), (163, [(some 15, 0), (some 16, 0), (some 4, 0), (some 5, 0), (some 6, 0)], [1, 2, 35, 36, 37, 38, 39, 40, 41, 42, 9, 10, 11, 12, 13, 14, 15, 16, 46, 47, 48, 43, 44, 45]), (176, [(some 14, 0), (some 13, 0), (some 15, 0)], [46, 36]), (3, [(none, 24), (some 14, 0)], []), (3, [(some 14, 0), (none, 1)], []), (78, [], [1])], (176, [(some 14, 1), (some 14, 0), (some 15, 0)], [46, 36]))
set_option maxRecDepth 20000 in
theorem v_bestNow_1_5 {PT : PTy} (hp : HP12 PT) : vcOk PT w_bestNow_1_5 := vc_iv [(4, 0, 8), (5, 0, 6), (6, 0, 6), (13, 0, 23), (14, 1, 23), (15, 0, 8), (16, 0, 10), (20, 1, 8), (21, 0, 7)] [1, 2, 9, 10, 11, 12, 13, 14, 15, 16, 35, 36, 37, 38, 39, 40, 41, 42, 43, 44, 45, 46, 47, 48] (by decide +kernel) (fun ρ α => by
  intro r4 g4 b4 r5 g5 b5 r6 g6 b6 r13 g13 b13 r14 g14 b14 r15 g15 b15 r16 g16 b16 r20 g20 b20 r21 g21 b21 a1 h1 a2 h2 a9 h9 a10 h10 a11 h11 a12 h12 a13 h13 a14 h14 a15 h15 a16 h16 a35 h35 a36 h36 a37 h37 a38 h38 a39 h39 a40 h40 a41 h41 a42 h42 a43 h43 a44 h44 a45 h45 a46 h46 a47 h47 a48 h48 f0 f1 f2 f3 f4 f5 f6 f7 f8 tt
  clear f3 f6 f7
  have e78 : PT 78 = P_ly := pe78_12 hp
  have e163 : PT 163 = P_rt := pe163_12 hp
  have e174 : PT 174 = P_cnY := pe174_12 hp
  have e176 : PT 176 = P_beY := pe176_12 hp
  simp only [hF2, hFp_78, hFp_163, hFp_174, hFp_176, e78, e163, e174, e176, P_ly, P_rt, P_cnY, P_beY, den_s, den_c, Int.add_zero, List.map_cons, List.map_nil, g4.eq, g5.eq, g6.eq, g13.eq, g14.eq, g15.eq, g16.eq, g20.eq, g21.eq, h1, h2, h9, h10, h11, h12, h13, h14, h15, h16, h35, h36, h37, h38, h39, h40, h41, h42, h43, h44, h45, h46, h47, h48] at f0 f1 f2 f4 f5 f8 ⊢
  have hi := f5
  first
    | omega
    | (obtain ⟨a1, a2, a3, a4⟩ := hi.2 (by omega); omega)
    | (have c0 := (f1).1; have c1 := (f2).1; exact lgS_t hi (by omega) (Or.inr (by show cntF _ _ _ < cntF _ _ _; rw [← c0, ← c1]; omega)))
    | (have c0 := (f1).1; have c1 := (f2).1; exact lgS_k hi (by omega) (by have := (hi.2 (by omega)).1; omega) (by show cntF _ _ _ ≤ cntF _ _ _; rw [← c0, ← c1]; omega))
    | (rw [show r14 = 24 by omega] at hi; exact ⟨f4, by omega, fun _ => hi⟩)
    | (rw [show r14 = 24 by omega] at hi; exact ⟨f4, fun _ => (by first | rfl | trivial), fun h => by exfalso; omega⟩))
def w_bestNow_1_6 : VC := ((bY ++ [(0, 23), (1, 23), (0, 8), (0, 10), (0, 11), ((-2147483648), 2147483647), ((-2147483648), 2147483647), (1, 8), (0, 7)]), [(2, [(some 21, 0), (some 20, 0)], []), (174, [(some 21, 0), (some 15, 0), (some 13, 0)], [46, 36]), (174, [(some 20, 0), (some 15, 0), (some 14, 0)], [46, 36]), (2, [(some 14, 0), (none, 24)], []), (163, [(some 15, 0), (some 16, 0), (some 4, 0), (some 5, 0), (some 6, 0)], [1, 2, 35, 36, 37, 38, 39, 40, 41, 42, 9, 10, 11, 12, 13, 14, 15, 16, 46, 47, 48, 43, 44, 45]), (176, [(some 14, 0), (some 13, 0), (some 15, 0)], [46, 36]), (3, [(none, 24), (some 14, 0)], []), (3, [(some 14, 0), (none, 1)], []), (78, [], [1])], (3, [(none, 24), (some 14, 1)], []))
set_option maxRecDepth 20000 in
theorem v_bestNow_1_6 {PT : PTy} (hp : HP12 PT) : vcOk PT w_bestNow_1_6 := vc_iv [(4, 0, 8), (5, 0, 6), (6, 0, 6), (13, 0, 23), (14, 1, 23), (15, 0, 8), (16, 0, 10), (20, 1, 8), (21, 0, 7)] [1, 2, 9, 10, 11, 12, 13, 14, 15, 16, 35, 36, 37, 38, 39, 40, 41, 42, 43, 44, 45, 46, 47, 48] (by decide +kernel) (fun ρ α => by
  intro r4 g4 b4 r5 g5 b5 r6 g6 b6 r13 g13 b13 r14 g14 b14 r15 g15 b15 r16 g16 b16 r20 g20 b20 r21 g21 b21 a1 h1 a2 h2 a9 h9 a10 h10 a11 h11 a12 h12 a13 h13 a14 h14 a15 h15 a16 h16 a35 h35 a36 h36 a37 h37 a38 h38 a39 h39 a40 h40 a41 h41 a42 h42 a43 h43 a44 h44 a45 h45 a46 h46 a47 h47 a48 h48 f0 f1 f2 f3 f4 f5 f6 f7 f8 tt
  clear f3 f6 f7
  have e78 : PT 78 = P_ly := pe78_12 hp
  have e163 : PT 163 = P_rt := pe163_12 hp
  have e174 : PT 174 = P_cnY := pe174_12 hp
  have e176 : PT 176 = P_beY := pe176_12 hp
  simp only [hF2, hF3, hFp_78, hFp_163, hFp_174, hFp_176, e78, e163, e174, e176, P_ly, P_rt, P_cnY, P_beY, den_s, den_c, Int.add_zero, List.map_cons, List.map_nil, g4.eq, g5.eq, g6.eq, g13.eq, g14.eq, g15.eq, g16.eq, g20.eq, g21.eq, h1, h2, h9, h10, h11, h12, h13, h14, h15, h16, h35, h36, h37, h38, h39, h40, h41, h42, h43, h44, h45, h46, h47, h48] at f0 f1 f2 f4 f5 f8 ⊢
  have hi := f5
  first
    | omega
    | (obtain ⟨a1, a2, a3, a4⟩ := hi.2 (by omega); omega)
    | (have c0 := (f1).1; have c1 := (f2).1; exact lgS_t hi (by omega) (Or.inr (by show cntF _ _ _ < cntF _ _ _; rw [← c0, ← c1]; omega)))
    | (have c0 := (f1).1; have c1 := (f2).1; exact lgS_k hi (by omega) (by have := (hi.2 (by omega)).1; omega) (by show cntF _ _ _ ≤ cntF _ _ _; rw [← c0, ← c1]; omega))
    | (rw [show r14 = 24 by omega] at hi; exact ⟨f4, by omega, fun _ => hi⟩)
    | (rw [show r14 = 24 by omega] at hi; exact ⟨f4, fun _ => (by first | rfl | trivial), fun h => by exfalso; omega⟩))
def w_bestNow_1_7 : VC := ((bY ++ [(0, 23), (1, 23), (0, 8), (0, 10), (0, 11), ((-2147483648), 2147483647), ((-2147483648), 2147483647), (1, 8), (0, 7)]), [(2, [(some 21, 0), (some 20, 0)], []), (174, [(some 21, 0), (some 15, 0), (some 13, 0)], [46, 36]), (174, [(some 20, 0), (some 15, 0), (some 14, 0)], [46, 36]), (2, [(some 14, 0), (none, 24)], []), (163, [(some 15, 0), (some 16, 0), (some 4, 0), (some 5, 0), (some 6, 0)], [1, 2, 35, 36, 37, 38, 39, 40, 41, 42, 9, 10, 11, 12, 13, 14, 15, 16, 46, 47, 48, 43, 44, 45]), (176, [(some 14, 0), (some 13, 0), (some 15, 0)], [46, 36]), (3, [(none, 24), (some 14, 0)], []), (3, [(some 14, 0), (none, 1)], []), (78, [], [1])], (3, [(some 14, 1), (none, 1)], []))
set_option maxRecDepth 20000 in
theorem v_bestNow_1_7 {PT : PTy} (hp : HP12 PT) : vcOk PT w_bestNow_1_7 := vc_iv [(4, 0, 8), (5, 0, 6), (6, 0, 6), (13, 0, 23), (14, 1, 23), (15, 0, 8), (16, 0, 10), (20, 1, 8), (21, 0, 7)] [1, 2, 9, 10, 11, 12, 13, 14, 15, 16, 35, 36, 37, 38, 39, 40, 41, 42, 43, 44, 45, 46, 47, 48] (by decide +kernel) (fun ρ α => by
  intro r4 g4 b4 r5 g5 b5 r6 g6 b6 r13 g13 b13 r14 g14 b14 r15 g15 b15 r16 g16 b16 r20 g20 b20 r21 g21 b21 a1 h1 a2 h2 a9 h9 a10 h10 a11 h11 a12 h12 a13 h13 a14 h14 a15 h15 a16 h16 a35 h35 a36 h36 a37 h37 a38 h38 a39 h39 a40 h40 a41 h41 a42 h42 a43 h43 a44 h44 a45 h45 a46 h46 a47 h47 a48 h48 f0 f1 f2 f3 f4 f5 f6 f7 f8 tt
  clear f3 f6 f7
  have e78 : PT 78 = P_ly := pe78_12 hp
  have e163 : PT 163 = P_rt := pe163_12 hp
  have e174 : PT 174 = P_cnY := pe174_12 hp
  have e176 : PT 176 = P_beY := pe176_12 hp
  simp only [hF2, hF3, hFp_78, hFp_163, hFp_174, hFp_176, e78, e163, e174, e176, P_ly, P_rt, P_cnY, P_beY, den_s, den_c, Int.add_zero, List.map_cons, List.map_nil, g4.eq, g5.eq, g6.eq, g13.eq, g14.eq, g15.eq, g16.eq, g20.eq, g21.eq, h1, h2, h9, h10, h11, h12, h13, h14, h15, h16, h35, h36, h37, h38, h39, h40, h41, h42, h43, h44, h45, h46, h47, h48] at f0 f1 f2 f4 f5 f8 ⊢
  have hi := f5
  first
    | omega
    | (obtain ⟨a1, a2, a3, a4⟩ := hi.2 (by omega); omega)
    | (have c0 := (f1).1; have c1 := (f2).1; exact lgS_t hi (by omega) (Or.inr (by show cntF _ _ _ < cntF _ _ _; rw [← c0, ← c1]; omega)))
    | (have c0 := (f1).1; have c1 := (f2).1; exact lgS_k hi (by omega) (by have := (hi.2 (by omega)).1; omega) (by show cntF _ _ _ ≤ cntF _ _ _; rw [← c0, ← c1]; omega))
    | (rw [show r14 = 24 by omega] at hi; exact ⟨f4, by omega, fun _ => hi⟩)
    | (rw [show r14 = 24 by omega] at hi; exact ⟨f4, fun _ => (by first | rfl | trivial), fun h => by exfalso; omega⟩))
set_option maxRecDepth 1000000 in
theorem k_bestNow {PT : PTy} (hp : HP12 PT) : wfX c_bestNow = true ∧ xcOk PT c_bestNow := xctr (xl (k_rtY hp) (xl (k_fitMany hp) (xl0))) c_bestNow 36 mX7_bestNow rfl h_bestNow (by decide +kernel) (by decide +kernel) (by decide) (vcs_by [w_bestNow_0_0, w_bestNow_0_1, w_bestNow_0_2] (by decide +kernel) (vc (v_bestNow_0_0 hp) (vc (v_bestNow_0_1 hp) (vc (v_bestNow_0_2 hp) vn)))) (fmc (vcs_by [w_bestNow_1_0, w_bestNow_1_1, w_bestNow_1_2, w_bestNow_1_3, w_bestNow_1_4, w_bestNow_1_5, w_bestNow_1_6, w_bestNow_1_7] (by decide +kernel) (vc (v_bestNow_1_0 hp) (vc (v_bestNow_1_1 hp) (vc (v_bestNow_1_2 hp) (vc (v_bestNow_1_3 hp) (vc (v_bestNow_1_4 hp) (vc (v_bestNow_1_5 hp) (vc (v_bestNow_1_6 hp) (vc (v_bestNow_1_7 hp) vn))))))))) fmn)
def c_yo_writeC : XC := (193, 7, (bY ++ [((-2147483648), 2147483647), ((-2147483648), 2147483647)]), [.inr (.inl 0), .inl (some 13, 0), .inl (some 14, 0)], gY2, [(78, [], [1])], [((bY ++ [((-2147483648), 2147483647), ((-2147483648), 2147483647), ((-11), 24), (0, 8), (0, 10), (0, 11), (0, 9), ((-2147483648), 2147483647), ((-2147483648), 2147483647), (0, 5)]), some (.inl (some 15, 0)), (hst gY2 [(0, .inr (.inr (.inr (7, [.inr (.inl 1), .inr (.inl 2), .inl (some 16, 0), .inr (.inl 3), .inr (.inl 4), .inl (some 17, 0), .inr (.inl 5), .inr (.inl 6), .inr (.inl 7), .inr (.inl 8), .inl (some 4, 0), .inr (.inl 9), .inr (.inl 10), .inl (some 5, 0), .inr (.inl 11), .inr (.inl 12), .inr (.inl 13), .inl (some 6, 0), .inr (.inl 14), .inr (.inl 15), .inr (.inl 16), .inl (some 18, 0), .inl (some 19, 0), .inr (.inl 17), .inr (.inl 18), .inl (some 20, 0), .inl (some 21, 0), .inr (.inl 19), .inr (.inl 20), .inr (.inl 21), .inr (.inl 22), .inr (.inl 23), .inr (.inl 24), .inr (.inl 25), .inl (some 7, 0), .inr (.inl 26), .inr (.inl 27), .inr (.inl 28), .inr (.inl 29), .inr (.inl 30), .inr (.inl 31), .inr (.inl 32), .inr (.inl 33), .inr (.inl 34), .inl (some 22, 0)]))))]), [0, 1, 2, 35, 36, 37, 38, 39, 40, 9, 10, 11, 12, 13, 14, 15, 16, 41, 42, 43, 44, 45, 46, 47, 48, 25, 26, 27, 28, 29, 30, 31, 32, 49, 34], 50, [(178, [(some 15, 0), (some 13, 0), (some 14, 0), (some 12, 0), (some 22, 0), (some 16, 0), (some 17, 0), (some 4, 0), (some 5, 0), (some 6, 0)], [1, 2, 35, 36, 37, 38, 39, 40, 41, 42, 9, 10, 11, 12, 13, 14, 15, 16, 46, 47, 48, 43, 44, 45, 30, 31, 32, 33, 49])])])
def h_yo_writeC : List XH := [(39, (bY ++ [(0, 7), (0, 3), (0, 24), (0, 8), (0, 10), (0, 11), ((-2147483648), 2147483647), ((-2147483648), 2147483647)]), [some (.inr (.inl 0)), some (.inl (some 13, 0)), some (.inl (some 14, 0)), some (.inl (some 15, 0))], (hst gY2 [(0, .inr (.inr (.inr (7, [.inr (.inl 1), .inr (.inl 2), .inl (some 16, 0), .inr (.inl 3), .inr (.inl 4), .inl (some 17, 0), .inr (.inl 5), .inr (.inl 6), .inr (.inl 7), .inr (.inl 8), .inl (some 4, 0), .inr (.inl 9), .inr (.inl 10), .inl (some 5, 0), .inr (.inl 11), .inr (.inl 12), .inr (.inl 13), .inl (some 6, 0), .inr (.inl 14), .inr (.inl 15), .inr (.inl 16), .inl (some 18, 0), .inl (some 4, 0), .inr (.inl 17), .inr (.inl 18), .inl (some 19, 0), .inl (some 20, 0), .inr (.inl 19), .inr (.inl 20), .inr (.inl 21), .inr (.inl 22), .inr (.inl 23), .inr (.inl 24), .inr (.inl 25), .inl (some 7, 0), .inr (.inl 26), .inr (.inl 27), .inr (.inl 28), .inr (.inl 29), .inr (.inl 30), .inr (.inl 31), .inr (.inl 32), .inr (.inl 33), .inr (.inl 34), .inl (some 12, 0)]))))]), [0, 1, 2, 35, 36, 37, 38, 39, 40, 9, 10, 11, 12, 13, 14, 15, 16, 41, 42, 43, 44, 45, 46, 47, 48, 25, 26, 27, 28, 29, 30, 31, 32, 49, 34], 50, [(163, [(some 16, 0), (some 17, 0), (some 4, 0), (some 5, 0), (some 6, 0)], [1, 2, 35, 36, 37, 38, 39, 40, 41, 42, 9, 10, 11, 12, 13, 14, 15, 16, 46, 47, 48, 43, 44, 45]), (177, [(some 15, 0), (some 13, 0), (some 14, 0)], [31, 33, 49, 46]), (179, [(some 15, 0), (some 13, 0), (some 14, 0), (some 16, 0)], [1, 2, 30, 32])], [(true, (none, 1)), (true, (some 15, 0))])]
def w_yo_writeC_0_0 : VC := ((bY ++ [((-2147483648), (-1)), ((-2147483648), 2147483647), ((-1), 54), (0, 8), (0, 10)]), [(0, [(none, 0), (none, 0)], []), (2, [(some 13, 0), (none, 0)], []), (79, [(some 15, 0), (none, 0), (some 16, 0), (some 17, 0)], [1, 2, 35, 36, 37, 38, 39, 40]), (78, [], [1])], (178, [(none, (-2)), (some 13, 0), (some 14, 0), (some 12, 0), (some 12, 0), (some 16, 0), (some 17, 0), (some 4, 0), (some 5, 0), (some 6, 0)], [1, 2, 35, 36, 37, 38, 39, 40, 17, 18, 9, 10, 11, 12, 13, 14, 15, 16, 22, 23, 24, 19, 20, 21, 30, 31, 32, 33, 33]))
theorem pe79_12 {PT : PTy} (hp : HP12 PT) : PT 79 = P_fo := hp.1.1.1.1.1.1.1.1.1.1.2.2.2.2.2.2.2.2.1
theorem pe178_12 {PT : PTy} (hp : HP12 PT) : PT 178 = P_owY := hp.2.2.2.2.2.2.2.2.2.2.2.2.2.2.2.2.1
set_option maxRecDepth 20000 in
theorem v_yo_writeC_0_0 {PT : PTy} (hp : HP12 PT) : vcOk PT w_yo_writeC_0_0 := vc_iv [(4, 0, 8), (5, 0, 6), (6, 0, 6), (12, 0, 5), (13, (-2147483648), (-1)), (14, (-2147483648), 2147483647), (15, (-1), 54), (16, 0, 8), (17, 0, 10)] [1, 2, 9, 10, 11, 12, 13, 14, 15, 16, 17, 18, 19, 20, 21, 22, 23, 24, 30, 31, 32, 33, 35, 36, 37, 38, 39, 40] (by decide +kernel) (fun ρ α => by
  intro r4 g4 b4 r5 g5 b5 r6 g6 b6 r12 g12 b12 r13 g13 b13 r14 g14 b14 r15 g15 b15 r16 g16 b16 r17 g17 b17 a1 h1 a2 h2 a9 h9 a10 h10 a11 h11 a12 h12 a13 h13 a14 h14 a15 h15 a16 h16 a17 h17 a18 h18 a19 h19 a20 h20 a21 h21 a22 h22 a23 h23 a24 h24 a30 h30 a31 h31 a32 h32 a33 h33 a35 h35 a36 h36 a37 h37 a38 h38 a39 h39 a40 h40 f0 f1 f2 f3 tt
  clear f0 f1
  have e78 : PT 78 = P_ly := pe78_12 hp
  have e79 : PT 79 = P_fo := pe79_12 hp
  have e178 : PT 178 = P_owY := pe178_12 hp
  simp only [hFp_78, hFp_79, hFp_178, e78, e79, e178, P_ly, P_fo, P_owY, den_s, den_c, Int.add_zero, List.map_cons, List.map_nil, g4.eq, g5.eq, g6.eq, g12.eq, g13.eq, g14.eq, g15.eq, g16.eq, g17.eq, h1, h2, h9, h10, h11, h12, h13, h14, h15, h16, h17, h18, h19, h20, h21, h22, h23, h24, h30, h31, h32, h33, h35, h36, h37, h38, h39, h40] at f2 f3 ⊢
  obtain ⟨x, y, h1, h2, -⟩ := f2
  exact ⟨_, h1.2.1, by ((repeat' (first | apply And.intro | intro h)) <;> first | omega | rfl | trivial | (exfalso; omega))⟩)
def w_yo_writeC_0_1 : VC := ((bY ++ [(0, 2147483647), ((-2147483648), 2147483647), ((-1), 54), (0, 8), (0, 10)]), [(0, [(none, 0), (none, 0)], []), (2, [(some 16, (-1)), (some 13, 0)], []), (3, [(some 13, 0), (none, 0)], []), (79, [(some 15, 0), (none, 0), (some 16, 0), (some 17, 0)], [1, 2, 35, 36, 37, 38, 39, 40]), (78, [], [1])], (178, [(none, (-2)), (some 13, 0), (some 14, 0), (some 12, 0), (some 12, 0), (some 16, 0), (some 17, 0), (some 4, 0), (some 5, 0), (some 6, 0)], [1, 2, 35, 36, 37, 38, 39, 40, 17, 18, 9, 10, 11, 12, 13, 14, 15, 16, 22, 23, 24, 19, 20, 21, 30, 31, 32, 33, 33]))
set_option maxRecDepth 20000 in
theorem v_yo_writeC_0_1 {PT : PTy} (hp : HP12 PT) : vcOk PT w_yo_writeC_0_1 := vc_iv [(4, 0, 8), (5, 0, 6), (6, 0, 6), (12, 0, 5), (13, 0, 2147483647), (14, (-2147483648), 2147483647), (15, (-1), 54), (16, 0, 8), (17, 0, 10)] [1, 2, 9, 10, 11, 12, 13, 14, 15, 16, 17, 18, 19, 20, 21, 22, 23, 24, 30, 31, 32, 33, 35, 36, 37, 38, 39, 40] (by decide +kernel) (fun ρ α => by
  intro r4 g4 b4 r5 g5 b5 r6 g6 b6 r12 g12 b12 r13 g13 b13 r14 g14 b14 r15 g15 b15 r16 g16 b16 r17 g17 b17 a1 h1 a2 h2 a9 h9 a10 h10 a11 h11 a12 h12 a13 h13 a14 h14 a15 h15 a16 h16 a17 h17 a18 h18 a19 h19 a20 h20 a21 h21 a22 h22 a23 h23 a24 h24 a30 h30 a31 h31 a32 h32 a33 h33 a35 h35 a36 h36 a37 h37 a38 h38 a39 h39 a40 h40 f0 f1 f2 f3 f4 tt
  clear f0 f2
  have e78 : PT 78 = P_ly := pe78_12 hp
  have e79 : PT 79 = P_fo := pe79_12 hp
  have e178 : PT 178 = P_owY := pe178_12 hp
  simp only [hF2, hFp_78, hFp_79, hFp_178, e78, e79, e178, P_ly, P_fo, P_owY, den_s, den_c, Int.add_zero, List.map_cons, List.map_nil, g4.eq, g5.eq, g6.eq, g12.eq, g13.eq, g14.eq, g15.eq, g16.eq, g17.eq, h1, h2, h9, h10, h11, h12, h13, h14, h15, h16, h17, h18, h19, h20, h21, h22, h23, h24, h30, h31, h32, h33, h35, h36, h37, h38, h39, h40] at f1 f3 f4 ⊢
  obtain ⟨x, y, h1, h2, -⟩ := f3
  exact ⟨_, h1.2.1, by ((repeat' (first | apply And.intro | intro h)) <;> first | omega | rfl | trivial | (exfalso; omega))⟩)
def w_yo_writeC_0_2 : VC := ((bY ++ [(0, 7), ((-2147483648), (-1)), ((-1), 54), (1, 8), (0, 10)]), [(0, [(none, 0), (none, 0)], []), (2, [(some 14, 0), (none, 0)], []), (1, [(none, 1), (none, 0)], []), (3, [(some 16, (-1)), (some 13, 0)], []), (3, [(some 13, 0), (none, 0)], []), (79, [(some 15, 0), (none, 0), (some 16, 0), (some 17, 0)], [1, 2, 35, 36, 37, 38, 39, 40]), (78, [], [1])], (178, [(none, (-2)), (some 13, 0), (some 14, 0), (some 12, 0), (some 12, 0), (some 16, 0), (some 17, 0), (some 4, 0), (some 5, 0), (some 6, 0)], [1, 2, 35, 36, 37, 38, 39, 40, 17, 18, 9, 10, 11, 12, 13, 14, 15, 16, 22, 23, 24, 19, 20, 21, 30, 31, 32, 33, 33]))
set_option maxRecDepth 20000 in
theorem v_yo_writeC_0_2 {PT : PTy} (hp : HP12 PT) : vcOk PT w_yo_writeC_0_2 := vc_iv [(4, 0, 8), (5, 0, 6), (6, 0, 6), (12, 0, 5), (13, 0, 7), (14, (-2147483648), (-1)), (15, (-1), 54), (16, 1, 8), (17, 0, 10)] [1, 2, 9, 10, 11, 12, 13, 14, 15, 16, 17, 18, 19, 20, 21, 22, 23, 24, 30, 31, 32, 33, 35, 36, 37, 38, 39, 40] (by decide +kernel) (fun ρ α => by
  intro r4 g4 b4 r5 g5 b5 r6 g6 b6 r12 g12 b12 r13 g13 b13 r14 g14 b14 r15 g15 b15 r16 g16 b16 r17 g17 b17 a1 h1 a2 h2 a9 h9 a10 h10 a11 h11 a12 h12 a13 h13 a14 h14 a15 h15 a16 h16 a17 h17 a18 h18 a19 h19 a20 h20 a21 h21 a22 h22 a23 h23 a24 h24 a30 h30 a31 h31 a32 h32 a33 h33 a35 h35 a36 h36 a37 h37 a38 h38 a39 h39 a40 h40 f0 f1 f2 f3 f4 f5 f6 tt
  clear f0 f1 f2 f4
  have e78 : PT 78 = P_ly := pe78_12 hp
  have e79 : PT 79 = P_fo := pe79_12 hp
  have e178 : PT 178 = P_owY := pe178_12 hp
  simp only [hF3, hFp_78, hFp_79, hFp_178, e78, e79, e178, P_ly, P_fo, P_owY, den_s, den_c, Int.add_zero, List.map_cons, List.map_nil, g4.eq, g5.eq, g6.eq, g12.eq, g13.eq, g14.eq, g15.eq, g16.eq, g17.eq, h1, h2, h9, h10, h11, h12, h13, h14, h15, h16, h17, h18, h19, h20, h21, h22, h23, h24, h30, h31, h32, h33, h35, h36, h37, h38, h39, h40] at f3 f5 f6 ⊢
  obtain ⟨x, y, h1, h2, -⟩ := f5
  exact ⟨_, h1.2.1, by ((repeat' (first | apply And.intro | intro h)) <;> first | omega | rfl | trivial | (exfalso; omega))⟩)
def w_yo_writeC_0_3 : VC := ((bY ++ [(0, 7), (4, 2147483647), ((-1), 54), (1, 8), (0, 10)]), [(0, [(none, 0), (none, 0)], []), (2, [(none, 3), (some 14, 0)], []), (3, [(some 14, 0), (none, 0)], []), (1, [(none, 1), (none, 0)], []), (3, [(some 16, (-1)), (some 13, 0)], []), (3, [(some 13, 0), (none, 0)], []), (79, [(some 15, 0), (none, 0), (some 16, 0), (some 17, 0)], [1, 2, 35, 36, 37, 38, 39, 40]), (78, [], [1])], (178, [(none, (-2)), (some 13, 0), (some 14, 0), (some 12, 0), (some 12, 0), (some 16, 0), (some 17, 0), (some 4, 0), (some 5, 0), (some 6, 0)], [1, 2, 35, 36, 37, 38, 39, 40, 17, 18, 9, 10, 11, 12, 13, 14, 15, 16, 22, 23, 24, 19, 20, 21, 30, 31, 32, 33, 33]))
set_option maxRecDepth 20000 in
theorem v_yo_writeC_0_3 {PT : PTy} (hp : HP12 PT) : vcOk PT w_yo_writeC_0_3 := vc_iv [(4, 0, 8), (5, 0, 6), (6, 0, 6), (12, 0, 5), (13, 0, 7), (14, 4, 2147483647), (15, (-1), 54), (16, 1, 8), (17, 0, 10)] [1, 2, 9, 10, 11, 12, 13, 14, 15, 16, 17, 18, 19, 20, 21, 22, 23, 24, 30, 31, 32, 33, 35, 36, 37, 38, 39, 40] (by decide +kernel) (fun ρ α => by
  intro r4 g4 b4 r5 g5 b5 r6 g6 b6 r12 g12 b12 r13 g13 b13 r14 g14 b14 r15 g15 b15 r16 g16 b16 r17 g17 b17 a1 h1 a2 h2 a9 h9 a10 h10 a11 h11 a12 h12 a13 h13 a14 h14 a15 h15 a16 h16 a17 h17 a18 h18 a19 h19 a20 h20 a21 h21 a22 h22 a23 h23 a24 h24 a30 h30 a31 h31 a32 h32 a33 h33 a35 h35 a36 h36 a37 h37 a38 h38 a39 h39 a40 h40 f0 f1 f2 f3 f4 f5 f6 f7 tt
  clear f0 f1 f2 f3 f5
  have e78 : PT 78 = P_ly := pe78_12 hp
  have e79 : PT 79 = P_fo := pe79_12 hp
  have e178 : PT 178 = P_owY := pe178_12 hp
  simp only [hF3, hFp_78, hFp_79, hFp_178, e78, e79, e178, P_ly, P_fo, P_owY, den_s, den_c, Int.add_zero, List.map_cons, List.map_nil, g4.eq, g5.eq, g6.eq, g12.eq, g13.eq, g14.eq, g15.eq, g16.eq, g17.eq, h1, h2, h9, h10, h11, h12, h13, h14, h15, h16, h17, h18, h19, h20, h21, h22, h23, h24, h30, h31, h32, h33, h35, h36, h37, h38, h39, h40] at f4 f6 f7 ⊢
  obtain ⟨x, y, h1, h2, -⟩ := f6
  exact ⟨_, h1.2.1, by ((repeat' (first | apply And.intro | intro h)) <;> first | omega | rfl | trivial | (exfalso; omega))⟩)
def w_yo_writeC_0_4 : VC := ((bY ++ [(0, 7), (0, 3), ((-1), 54), (1, 8), (0, 10), (1, 1), (0, 8), (0, 10), (0, 11), ((-2147483648), 2147483647), ((-2147483648), 2147483647)]), [(163, [(some 19, 0), (some 20, 0), (some 4, 0), (some 5, 0), (some 6, 0)], [1, 2, 41, 42, 43, 44, 45, 46, 47, 48, 9, 10, 11, 12, 13, 14, 15, 16, 52, 53, 54, 49, 50, 51]), (1, [(some 18, 0), (none, 0)], []), (20, [(some 18, 0), (some 14, 0)], [30]), (1, [(none, 1), (none, 0)], []), (3, [(none, 3), (some 14, 0)], []), (3, [(some 14, 0), (none, 0)], []), (1, [(none, 1), (none, 0)], []), (3, [(some 16, (-1)), (some 13, 0)], []), (3, [(some 13, 0), (none, 0)], []), (79, [(some 15, 0), (none, 0), (some 16, 0), (some 17, 0)], [1, 2, 35, 36, 37, 38, 39, 40]), (78, [], [1])], (177, [(none, 0), (some 13, 0), (some 14, 0)], [31, 33, 33, 52]))
theorem pe177_12 {PT : PTy} (hp : HP12 PT) : PT 177 = P_wcY := hp.2.2.2.2.2.2.2.2.2.2.2.2.2.2.2.1
set_option maxRecDepth 20000 in
theorem v_yo_writeC_0_4 {PT : PTy} (hp : HP12 PT) : vcOk PT w_yo_writeC_0_4 := vc_iv [(4, 0, 8), (5, 0, 6), (6, 0, 6), (13, 0, 7), (14, 0, 3), (15, (-1), 54), (16, 1, 8), (17, 0, 10), (18, 1, 1), (19, 0, 8), (20, 0, 10)] [1, 2, 9, 10, 11, 12, 13, 14, 15, 16, 30, 31, 33, 35, 36, 37, 38, 39, 40, 41, 42, 43, 44, 45, 46, 47, 48, 49, 50, 51, 52, 53, 54] (by decide +kernel) (fun ρ α => by
  intro r4 g4 b4 r5 g5 b5 r6 g6 b6 r13 g13 b13 r14 g14 b14 r15 g15 b15 r16 g16 b16 r17 g17 b17 r18 g18 b18 r19 g19 b19 r20 g20 b20 a1 h1 a2 h2 a9 h9 a10 h10 a11 h11 a12 h12 a13 h13 a14 h14 a15 h15 a16 h16 a30 h30 a31 h31 a33 h33 a35 h35 a36 h36 a37 h37 a38 h38 a39 h39 a40 h40 a41 h41 a42 h42 a43 h43 a44 h44 a45 h45 a46 h46 a47 h47 a48 h48 a49 h49 a50 h50 a51 h51 a52 h52 a53 h53 a54 h54 f0 f1 f2 f3 f4 f5 f6 f7 f8 f9 f10 tt
  clear f1 f3 f4 f5 f6 f8
  have e78 : PT 78 = P_ly := pe78_12 hp
  have e79 : PT 79 = P_fo := pe79_12 hp
  have e163 : PT 163 = P_rt := pe163_12 hp
  have e177 : PT 177 = P_wcY := pe177_12 hp
  simp only [hF3, hF20, hFp_78, hFp_79, hFp_163, hFp_177, e78, e79, e163, e177, P_ly, P_fo, P_rt, P_wcY, den_s, den_c, Int.add_zero, List.map_cons, List.map_nil, g4.eq, g5.eq, g6.eq, g13.eq, g14.eq, g15.eq, g16.eq, g17.eq, g18.eq, g19.eq, g20.eq, h1, h2, h9, h10, h11, h12, h13, h14, h15, h16, h30, h31, h33, h35, h36, h37, h38, h39, h40, h41, h42, h43, h44, h45, h46, h47, h48, h49, h50, h51, h52, h53, h54] at f0 f2 f7 f9 f10 ⊢
  subst f2
  rfl)
def w_yo_writeC_0_5 : VC := ((bY ++ [(0, 7), (0, 3), ((-1), 54), (1, 8), (0, 10), (1, 1), (0, 8), (0, 10), (0, 11), ((-2147483648), 2147483647), ((-2147483648), 2147483647)]), [(163, [(some 19, 0), (some 20, 0), (some 4, 0), (some 5, 0), (some 6, 0)], [1, 2, 41, 42, 43, 44, 45, 46, 47, 48, 9, 10, 11, 12, 13, 14, 15, 16, 52, 53, 54, 49, 50, 51]), (1, [(some 18, 0), (none, 0)], []), (20, [(some 18, 0), (some 14, 0)], [30]), (1, [(none, 1), (none, 0)], []), (3, [(none, 3), (some 14, 0)], []), (3, [(some 14, 0), (none, 0)], []), (1, [(none, 1), (none, 0)], []), (3, [(some 16, (-1)), (some 13, 0)], []), (3, [(some 13, 0), (none, 0)], []), (79, [(some 15, 0), (none, 0), (some 16, 0), (some 17, 0)], [1, 2, 35, 36, 37, 38, 39, 40]), (78, [], [1])], (179, [(none, 0), (some 13, 0), (some 14, 0), (some 19, 0)], [1, 2, 30, 32]))
theorem pe179_12 {PT : PTy} (hp : HP12 PT) : PT 179 = P_owI := hp.2.2.2.2.2.2.2.2.2.2.2.2.2.2.2.2.2.1
set_option maxRecDepth 20000 in
theorem v_yo_writeC_0_5 {PT : PTy} (hp : HP12 PT) : vcOk PT w_yo_writeC_0_5 := vc_iv [(4, 0, 8), (5, 0, 6), (6, 0, 6), (13, 0, 7), (14, 0, 3), (15, (-1), 54), (16, 1, 8), (17, 0, 10), (18, 1, 1), (19, 0, 8), (20, 0, 10)] [1, 2, 9, 10, 11, 12, 13, 14, 15, 16, 30, 32, 35, 36, 37, 38, 39, 40, 41, 42, 43, 44, 45, 46, 47, 48, 49, 50, 51, 52, 53, 54] (by decide +kernel) (fun ρ α => by
  intro r4 g4 b4 r5 g5 b5 r6 g6 b6 r13 g13 b13 r14 g14 b14 r15 g15 b15 r16 g16 b16 r17 g17 b17 r18 g18 b18 r19 g19 b19 r20 g20 b20 a1 h1 a2 h2 a9 h9 a10 h10 a11 h11 a12 h12 a13 h13 a14 h14 a15 h15 a16 h16 a30 h30 a32 h32 a35 h35 a36 h36 a37 h37 a38 h38 a39 h39 a40 h40 a41 h41 a42 h42 a43 h43 a44 h44 a45 h45 a46 h46 a47 h47 a48 h48 a49 h49 a50 h50 a51 h51 a52 h52 a53 h53 a54 h54 f0 f1 f2 f3 f4 f5 f6 f7 f8 f9 f10 tt
  clear f1 f3 f4 f5 f6 f8
  have e78 : PT 78 = P_ly := pe78_12 hp
  have e79 : PT 79 = P_fo := pe79_12 hp
  have e163 : PT 163 = P_rt := pe163_12 hp
  have e179 : PT 179 = P_owI := pe179_12 hp
  simp only [hF3, hF20, hFp_78, hFp_79, hFp_163, hFp_179, e78, e79, e163, e179, P_ly, P_fo, P_rt, P_owI, den_s, den_c, Int.add_zero, List.map_cons, List.map_nil, g4.eq, g5.eq, g6.eq, g13.eq, g14.eq, g15.eq, g16.eq, g17.eq, g18.eq, g19.eq, g20.eq, h1, h2, h9, h10, h11, h12, h13, h14, h15, h16, h30, h32, h35, h36, h37, h38, h39, h40, h41, h42, h43, h44, h45, h46, h47, h48, h49, h50, h51, h52, h53, h54] at f0 f2 f7 f9 f10 ⊢
  subst f2
  obtain ⟨x, y, h1, h2, -⟩ := f9
  obtain ⟨⟨⟨a, b, k1, k2⟩, hk⟩, hy⟩ := f0
  have en := nP_un h1.2.1 k1.2.1
  exact ⟨k1.2.1, by omega, by omega, by omega, by omega, by omega, by omega⟩)
def w_yo_writeC_0_6 : VC := ((bY ++ [(0, 7), (0, 3), ((-1), 54), (1, 8), (0, 10), (0, 0)]), [(0, [(some 18, 0), (none, 0)], []), (20, [(some 18, 0), (some 14, 0)], [30]), (1, [(none, 1), (none, 0)], []), (3, [(none, 3), (some 14, 0)], []), (3, [(some 14, 0), (none, 0)], []), (1, [(none, 1), (none, 0)], []), (3, [(some 16, (-1)), (some 13, 0)], []), (3, [(some 13, 0), (none, 0)], []), (79, [(some 15, 0), (none, 0), (some 16, 0), (some 17, 0)], [1, 2, 35, 36, 37, 38, 39, 40]), (78, [], [1])], (178, [(none, (-11)), (some 13, 0), (some 14, 0), (some 12, 0), (none, 1), (some 16, 0), (some 17, 0), (some 4, 0), (some 5, 0), (some 6, 0)], [1, 2, 35, 36, 37, 38, 39, 40, 17, 18, 9, 10, 11, 12, 13, 14, 15, 16, 22, 23, 24, 19, 20, 21, 30, 31, 32, 33, 33]))
set_option maxRecDepth 20000 in
theorem v_yo_writeC_0_6 {PT : PTy} (hp : HP12 PT) : vcOk PT w_yo_writeC_0_6 := vc_iv [(4, 0, 8), (5, 0, 6), (6, 0, 6), (12, 0, 5), (13, 0, 7), (14, 0, 3), (15, (-1), 54), (16, 1, 8), (17, 0, 10), (18, 0, 0)] [1, 2, 9, 10, 11, 12, 13, 14, 15, 16, 17, 18, 19, 20, 21, 22, 23, 24, 30, 31, 32, 33, 35, 36, 37, 38, 39, 40] (by decide +kernel) (fun ρ α => by
  intro r4 g4 b4 r5 g5 b5 r6 g6 b6 r12 g12 b12 r13 g13 b13 r14 g14 b14 r15 g15 b15 r16 g16 b16 r17 g17 b17 r18 g18 b18 a1 h1 a2 h2 a9 h9 a10 h10 a11 h11 a12 h12 a13 h13 a14 h14 a15 h15 a16 h16 a17 h17 a18 h18 a19 h19 a20 h20 a21 h21 a22 h22 a23 h23 a24 h24 a30 h30 a31 h31 a32 h32 a33 h33 a35 h35 a36 h36 a37 h37 a38 h38 a39 h39 a40 h40 f0 f1 f2 f3 f4 f5 f6 f7 f8 f9 tt
  clear f2 f3 f4 f5 f7
  have e78 : PT 78 = P_ly := pe78_12 hp
  have e79 : PT 79 = P_fo := pe79_12 hp
  have e178 : PT 178 = P_owY := pe178_12 hp
  simp only [hF0, hF3, hF20, hFp_78, hFp_79, hFp_178, e78, e79, e178, P_ly, P_fo, P_owY, den_s, den_c, Int.add_zero, List.map_cons, List.map_nil, g4.eq, g5.eq, g6.eq, g12.eq, g13.eq, g14.eq, g15.eq, g16.eq, g17.eq, g18.eq, h1, h2, h9, h10, h11, h12, h13, h14, h15, h16, h17, h18, h19, h20, h21, h22, h23, h24, h30, h31, h32, h33, h35, h36, h37, h38, h39, h40] at f0 f1 f6 f8 f9 ⊢
  subst f1
  obtain ⟨x, y, h1, h2, -⟩ := f8
  exact ⟨_, h1.2.1, by ((repeat' (first | apply And.intro | intro h)) <;> first | omega | rfl | trivial | (exfalso; omega))⟩)
def w_yo_writeC_1_0 : VC := ((bY ++ [(0, 7), (0, 3), (0, 24), (0, 8), (0, 10), (0, 11), ((-2147483648), 2147483647), ((-2147483648), 2147483647), (0, 24)]), [(3, [(some 15, 0), (some 21, 0)], []), (20, [(some 21, 0), (some 14, 0)], [32]), (163, [(some 16, 0), (some 17, 0), (some 4, 0), (some 5, 0), (some 6, 0)], [1, 2, 35, 36, 37, 38, 39, 40, 41, 42, 9, 10, 11, 12, 13, 14, 15, 16, 46, 47, 48, 43, 44, 45]), (177, [(some 15, 0), (some 13, 0), (some 14, 0)], [31, 33, 49, 46]), (179, [(some 15, 0), (some 13, 0), (some 14, 0), (some 16, 0)], [1, 2, 30, 32]), (78, [], [1])], (178, [(some 15, 0), (some 13, 0), (some 14, 0), (some 12, 0), (some 12, 0), (some 16, 0), (some 17, 0), (some 4, 0), (some 5, 0), (some 6, 0)], [1, 2, 35, 36, 37, 38, 39, 40, 41, 42, 9, 10, 11, 12, 13, 14, 15, 16, 46, 47, 48, 43, 44, 45, 30, 31, 32, 33, 49]))
set_option maxRecDepth 20000 in
theorem v_yo_writeC_1_0 {PT : PTy} (hp : HP12 PT) : vcOk PT w_yo_writeC_1_0 := vc_iv [(4, 0, 8), (5, 0, 6), (6, 0, 6), (12, 0, 5), (13, 0, 7), (14, 0, 3), (15, 0, 24), (16, 0, 8), (17, 0, 10), (21, 0, 24)] [1, 2, 9, 10, 11, 12, 13, 14, 15, 16, 30, 31, 32, 33, 35, 36, 37, 38, 39, 40, 41, 42, 43, 44, 45, 46, 47, 48, 49] (by decide +kernel) (fun ρ α => by
  intro r4 g4 b4 r5 g5 b5 r6 g6 b6 r12 g12 b12 r13 g13 b13 r14 g14 b14 r15 g15 b15 r16 g16 b16 r17 g17 b17 r21 g21 b21 a1 h1 a2 h2 a9 h9 a10 h10 a11 h11 a12 h12 a13 h13 a14 h14 a15 h15 a16 h16 a30 h30 a31 h31 a32 h32 a33 h33 a35 h35 a36 h36 a37 h37 a38 h38 a39 h39 a40 h40 a41 h41 a42 h42 a43 h43 a44 h44 a45 h45 a46 h46 a47 h47 a48 h48 a49 h49 f0 f1 f2 f3 f4 f5 tt
  have e78 : PT 78 = P_ly := pe78_12 hp
  have e163 : PT 163 = P_rt := pe163_12 hp
  have e177 : PT 177 = P_wcY := pe177_12 hp
  have e178 : PT 178 = P_owY := pe178_12 hp
  have e179 : PT 179 = P_owI := pe179_12 hp
  simp only [hF3, hF20, hFp_78, hFp_163, hFp_177, hFp_178, hFp_179, e78, e163, e177, e178, e179, P_ly, P_rt, P_wcY, P_owY, P_owI, den_s, den_c, Int.add_zero, List.map_cons, List.map_nil, g4.eq, g5.eq, g6.eq, g12.eq, g13.eq, g14.eq, g15.eq, g16.eq, g17.eq, g21.eq, h1, h2, h9, h10, h11, h12, h13, h14, h15, h16, h30, h31, h32, h33, h35, h36, h37, h38, h39, h40, h41, h42, h43, h44, h45, h46, h47, h48, h49] at f0 f1 f2 f3 f4 f5 ⊢
  subst f1
  obtain ⟨i1, i2, i3, i4, i5, i6, i7⟩ := f4
  first
    | exact ⟨i1, by omega, by omega, by omega, by omega, by omega, by omega⟩
    | (refine ⟨_, i1, fun h => ?_, fun h m => ?_, fun h m => ⟨rfl, f2, by omega, by omega, (by first | rfl | trivial), f3⟩⟩ <;> (exfalso; omega)))
def w_yo_writeC_1_1 : VC := ((bY ++ [(0, 7), (0, 3), (24, 24), (0, 8), (0, 10), (0, 11), ((-2147483648), 2147483647), ((-2147483648), 2147483647), (1, 60)]), [(3, [(some 15, 0), (none, 24)], []), (2, [(some 15, 0), (some 21, 0)], []), (20, [(some 21, 0), (some 14, 0)], [32]), (163, [(some 16, 0), (some 17, 0), (some 4, 0), (some 5, 0), (some 6, 0)], [1, 2, 35, 36, 37, 38, 39, 40, 41, 42, 9, 10, 11, 12, 13, 14, 15, 16, 46, 47, 48, 43, 44, 45]), (177, [(some 15, 0), (some 13, 0), (some 14, 0)], [31, 33, 49, 46]), (179, [(some 15, 0), (some 13, 0), (some 14, 0), (some 16, 0)], [1, 2, 30, 32]), (78, [], [1])], (178, [(some 15, 0), (some 13, 0), (some 14, 0), (some 12, 0), (some 12, 0), (some 16, 0), (some 17, 0), (some 4, 0), (some 5, 0), (some 6, 0)], [1, 2, 35, 36, 37, 38, 39, 40, 41, 42, 9, 10, 11, 12, 13, 14, 15, 16, 46, 47, 48, 43, 44, 45, 30, 31, 32, 33, 49]))
set_option maxRecDepth 20000 in
theorem v_yo_writeC_1_1 {PT : PTy} (hp : HP12 PT) : vcOk PT w_yo_writeC_1_1 := vc_iv [(4, 0, 8), (5, 0, 6), (6, 0, 6), (12, 0, 5), (13, 0, 7), (14, 0, 3), (15, 24, 24), (16, 0, 8), (17, 0, 10), (21, 1, 60)] [1, 2, 9, 10, 11, 12, 13, 14, 15, 16, 30, 31, 32, 33, 35, 36, 37, 38, 39, 40, 41, 42, 43, 44, 45, 46, 47, 48, 49] (by decide +kernel) (fun ρ α => by
  intro r4 g4 b4 r5 g5 b5 r6 g6 b6 r12 g12 b12 r13 g13 b13 r14 g14 b14 r15 g15 b15 r16 g16 b16 r17 g17 b17 r21 g21 b21 a1 h1 a2 h2 a9 h9 a10 h10 a11 h11 a12 h12 a13 h13 a14 h14 a15 h15 a16 h16 a30 h30 a31 h31 a32 h32 a33 h33 a35 h35 a36 h36 a37 h37 a38 h38 a39 h39 a40 h40 a41 h41 a42 h42 a43 h43 a44 h44 a45 h45 a46 h46 a47 h47 a48 h48 a49 h49 f0 f1 f2 f3 f4 f5 f6 tt
  clear f0
  have e78 : PT 78 = P_ly := pe78_12 hp
  have e163 : PT 163 = P_rt := pe163_12 hp
  have e177 : PT 177 = P_wcY := pe177_12 hp
  have e178 : PT 178 = P_owY := pe178_12 hp
  have e179 : PT 179 = P_owI := pe179_12 hp
  simp only [hF2, hF20, hFp_78, hFp_163, hFp_177, hFp_178, hFp_179, e78, e163, e177, e178, e179, P_ly, P_rt, P_wcY, P_owY, P_owI, den_s, den_c, Int.add_zero, List.map_cons, List.map_nil, g4.eq, g5.eq, g6.eq, g12.eq, g13.eq, g14.eq, g15.eq, g16.eq, g17.eq, g21.eq, h1, h2, h9, h10, h11, h12, h13, h14, h15, h16, h30, h31, h32, h33, h35, h36, h37, h38, h39, h40, h41, h42, h43, h44, h45, h46, h47, h48, h49] at f1 f2 f3 f4 f5 f6 ⊢
  subst f2
  obtain ⟨i1, i2, i3, i4, i5, i6, i7⟩ := f5
  first
    | exact ⟨i1, by omega, by omega, by omega, by omega, by omega, by omega⟩
    | (refine ⟨_, i1, fun h => ?_, fun h m => ?_, fun h m => ⟨rfl, f3, by omega, by omega, (by first | rfl | trivial), f4⟩⟩ <;> (exfalso; omega)))
def w_yo_writeC_1_2 : VC := ((bY ++ [(0, 7), (0, 3), (0, 23), (0, 8), (0, 10), (0, 11), ((-2147483648), 2147483647), ((-2147483648), 2147483647), (1, 60), (0, 184), (0, 191), (0, 99), (0, 180), (0, 203), (1, 2), (0, 2)]), [(21, [(some 26, 0), (some 24, 0)], [50, 49]), (1, [(some 28, 0), (none, 1)], []), (20, [(some 28, 0), (some 14, 0)], [31]), (1, [(some 27, 0), (none, 0)], []), (20, [(some 27, 0), (some 14, 0)], [31]), (4, [(some 26, 0), (some 25, 0), (some 15, 0)], []), (6, [(some 25, 0), (none, 60), (some 14, 0)], []), (20, [(some 24, 0), (some 23, 0)], [46]), (4, [(some 23, 0), (some 22, 0), (some 13, 0)], []), (6, [(some 22, 0), (none, 8), (some 15, 0)], []), (2, [(some 15, 0), (none, 24)], []), (2, [(some 15, 0), (some 21, 0)], []), (20, [(some 21, 0), (some 14, 0)], [32]), (163, [(some 16, 0), (some 17, 0), (some 4, 0), (some 5, 0), (some 6, 0)], [1, 2, 35, 36, 37, 38, 39, 40, 41, 42, 9, 10, 11, 12, 13, 14, 15, 16, 46, 47, 48, 43, 44, 45]), (177, [(some 15, 0), (some 13, 0), (some 14, 0)], [31, 33, 49, 46]), (179, [(some 15, 0), (some 13, 0), (some 14, 0), (some 16, 0)], [1, 2, 30, 32]), (78, [], [1])], (177, [(some 15, 1), (some 13, 0), (some 14, 0)], [31, 33, 50, 46]))
set_option maxRecDepth 20000 in
theorem v_yo_writeC_1_2 {PT : PTy} (hp : HP12 PT) : vcOk PT w_yo_writeC_1_2 := vc_iv [(4, 0, 8), (5, 0, 6), (6, 0, 6), (13, 0, 7), (14, 0, 3), (15, 0, 23), (16, 0, 8), (17, 0, 10), (21, 1, 60), (22, 0, 184), (23, 0, 191), (24, 0, 99), (25, 0, 180), (26, 0, 203), (27, 1, 2), (28, 0, 2)] [1, 2, 9, 10, 11, 12, 13, 14, 15, 16, 30, 31, 32, 33, 35, 36, 37, 38, 39, 40, 41, 42, 43, 44, 45, 46, 47, 48, 49, 50] (by decide +kernel) (fun ρ α => by
  intro r4 g4 b4 r5 g5 b5 r6 g6 b6 r13 g13 b13 r14 g14 b14 r15 g15 b15 r16 g16 b16 r17 g17 b17 r21 g21 b21 r22 g22 b22 r23 g23 b23 r24 g24 b24 r25 g25 b25 r26 g26 b26 r27 g27 b27 r28 g28 b28 a1 h1 a2 h2 a9 h9 a10 h10 a11 h11 a12 h12 a13 h13 a14 h14 a15 h15 a16 h16 a30 h30 a31 h31 a32 h32 a33 h33 a35 h35 a36 h36 a37 h37 a38 h38 a39 h39 a40 h40 a41 h41 a42 h42 a43 h43 a44 h44 a45 h45 a46 h46 a47 h47 a48 h48 a49 h49 a50 h50 f0 f1 f2 f3 f4 f5 f6 f7 f8 f9 f10 f11 f12 f13 f14 f15 f16 tt
  clear f3 f10
  have e78 : PT 78 = P_ly := pe78_12 hp
  have e163 : PT 163 = P_rt := pe163_12 hp
  have e177 : PT 177 = P_wcY := pe177_12 hp
  have e179 : PT 179 = P_owI := pe179_12 hp
  simp only [hF1, hF2, hF4, hF6, hF20, hF21, hFp_78, hFp_163, hFp_177, hFp_179, e78, e163, e177, e179, P_ly, P_rt, P_wcY, P_owI, den_s, den_c, Int.add_zero, List.map_cons, List.map_nil, g4.eq, g5.eq, g6.eq, g13.eq, g14.eq, g15.eq, g16.eq, g17.eq, g21.eq, g22.eq, g23.eq, g24.eq, g25.eq, g26.eq, g27.eq, g28.eq, h1, h2, h9, h10, h11, h12, h13, h14, h15, h16, h30, h31, h32, h33, h35, h36, h37, h38, h39, h40, h41, h42, h43, h44, h45, h46, h47, h48, h49, h50] at f0 f1 f2 f4 f5 f6 f7 f8 f9 f11 f12 f13 f14 f15 f16 ⊢
  subst f0
  subst f2
  subst f4
  subst f5
  subst f6
  subst f7
  subst f8
  subst f9
  subst f12
  have hw := f14
  rw [upF_s (by omega), ← hw]
  unfold cutF
  (repeat' split) <;> first | rfl | (exfalso; omega))
def w_yo_writeC_1_3 : VC := ((bY ++ [(0, 7), (0, 3), (0, 23), (0, 8), (0, 10), (0, 11), ((-2147483648), 2147483647), ((-2147483648), 2147483647), (1, 60), (0, 184), (0, 191), (0, 99), (0, 180), (0, 203), (1, 2), (0, 2)]), [(21, [(some 26, 0), (some 24, 0)], [50, 49]), (1, [(some 28, 0), (none, 1)], []), (20, [(some 28, 0), (some 14, 0)], [31]), (1, [(some 27, 0), (none, 0)], []), (20, [(some 27, 0), (some 14, 0)], [31]), (4, [(some 26, 0), (some 25, 0), (some 15, 0)], []), (6, [(some 25, 0), (none, 60), (some 14, 0)], []), (20, [(some 24, 0), (some 23, 0)], [46]), (4, [(some 23, 0), (some 22, 0), (some 13, 0)], []), (6, [(some 22, 0), (none, 8), (some 15, 0)], []), (2, [(some 15, 0), (none, 24)], []), (2, [(some 15, 0), (some 21, 0)], []), (20, [(some 21, 0), (some 14, 0)], [32]), (163, [(some 16, 0), (some 17, 0), (some 4, 0), (some 5, 0), (some 6, 0)], [1, 2, 35, 36, 37, 38, 39, 40, 41, 42, 9, 10, 11, 12, 13, 14, 15, 16, 46, 47, 48, 43, 44, 45]), (177, [(some 15, 0), (some 13, 0), (some 14, 0)], [31, 33, 49, 46]), (179, [(some 15, 0), (some 13, 0), (some 14, 0), (some 16, 0)], [1, 2, 30, 32]), (78, [], [1])], (179, [(some 15, 1), (some 13, 0), (some 14, 0), (some 16, 0)], [1, 2, 30, 32]))
set_option maxRecDepth 20000 in
theorem v_yo_writeC_1_3 {PT : PTy} (hp : HP12 PT) : vcOk PT w_yo_writeC_1_3 := vc_iv [(4, 0, 8), (5, 0, 6), (6, 0, 6), (13, 0, 7), (14, 0, 3), (15, 0, 23), (16, 0, 8), (17, 0, 10), (21, 1, 60), (22, 0, 184), (23, 0, 191), (24, 0, 99), (25, 0, 180), (26, 0, 203), (27, 1, 2), (28, 0, 2)] [1, 2, 9, 10, 11, 12, 13, 14, 15, 16, 30, 31, 32, 33, 35, 36, 37, 38, 39, 40, 41, 42, 43, 44, 45, 46, 47, 48, 49, 50] (by decide +kernel) (fun ρ α => by
  intro r4 g4 b4 r5 g5 b5 r6 g6 b6 r13 g13 b13 r14 g14 b14 r15 g15 b15 r16 g16 b16 r17 g17 b17 r21 g21 b21 r22 g22 b22 r23 g23 b23 r24 g24 b24 r25 g25 b25 r26 g26 b26 r27 g27 b27 r28 g28 b28 a1 h1 a2 h2 a9 h9 a10 h10 a11 h11 a12 h12 a13 h13 a14 h14 a15 h15 a16 h16 a30 h30 a31 h31 a32 h32 a33 h33 a35 h35 a36 h36 a37 h37 a38 h38 a39 h39 a40 h40 a41 h41 a42 h42 a43 h43 a44 h44 a45 h45 a46 h46 a47 h47 a48 h48 a49 h49 a50 h50 f0 f1 f2 f3 f4 f5 f6 f7 f8 f9 f10 f11 f12 f13 f14 f15 f16 tt
  clear f3 f10
  have e78 : PT 78 = P_ly := pe78_12 hp
  have e163 : PT 163 = P_rt := pe163_12 hp
  have e177 : PT 177 = P_wcY := pe177_12 hp
  have e179 : PT 179 = P_owI := pe179_12 hp
  simp only [hF1, hF2, hF4, hF6, hF20, hF21, hFp_78, hFp_163, hFp_177, hFp_179, e78, e163, e177, e179, P_ly, P_rt, P_wcY, P_owI, den_s, den_c, Int.add_zero, List.map_cons, List.map_nil, g4.eq, g5.eq, g6.eq, g13.eq, g14.eq, g15.eq, g16.eq, g17.eq, g21.eq, g22.eq, g23.eq, g24.eq, g25.eq, g26.eq, g27.eq, g28.eq, h1, h2, h9, h10, h11, h12, h13, h14, h15, h16, h30, h31, h32, h33, h35, h36, h37, h38, h39, h40, h41, h42, h43, h44, h45, h46, h47, h48, h49, h50] at f0 f1 f2 f4 f5 f6 f7 f8 f9 f11 f12 f13 f14 f15 f16 ⊢
  subst f0
  subst f2
  subst f4
  subst f5
  subst f6
  subst f7
  subst f8
  subst f9
  subst f12
  obtain ⟨i1, i2, i3, i4, i5, i6, i7⟩ := f15
  first
    | exact ⟨i1, by omega, by omega, by omega, by omega, by omega, by omega⟩
    | (refine ⟨_, i1, fun h => ?_, fun h m => ?_, fun h m => ⟨rfl, f13, by omega, by omega, (by first | rfl | trivial), f14⟩⟩ <;> (exfalso; omega)))
def w_yo_writeC_1_4 : VC := ((bY ++ [(0, 7), (0, 3), (0, 23), (0, 8), (0, 10), (0, 11), ((-2147483648), 2147483647), ((-2147483648), 2147483647), (1, 60), (0, 184), (0, 191), (0, 99), (0, 180), (0, 203), (1, 2), (1, 1), ((-2147483648), 2147483647)]), [(21, [(some 26, 0), (some 29, 0)], [50, 49]), (19, [(some 29, 0), (some 24, 0)], []), (0, [(some 28, 0), (none, 1)], []), (20, [(some 28, 0), (some 14, 0)], [31]), (1, [(some 27, 0), (none, 0)], []), (20, [(some 27, 0), (some 14, 0)], [31]), (4, [(some 26, 0), (some 25, 0), (some 15, 0)], []), (6, [(some 25, 0), (none, 60), (some 14, 0)], []), (20, [(some 24, 0), (some 23, 0)], [46]), (4, [(some 23, 0), (some 22, 0), (some 13, 0)], []), (6, [(some 22, 0), (none, 8), (some 15, 0)], []), (2, [(some 15, 0), (none, 24)], []), (2, [(some 15, 0), (some 21, 0)], []), (20, [(some 21, 0), (some 14, 0)], [32]), (163, [(some 16, 0), (some 17, 0), (some 4, 0), (some 5, 0), (some 6, 0)], [1, 2, 35, 36, 37, 38, 39, 40, 41, 42, 9, 10, 11, 12, 13, 14, 15, 16, 46, 47, 48, 43, 44, 45]), (177, [(some 15, 0), (some 13, 0), (some 14, 0)], [31, 33, 49, 46]), (179, [(some 15, 0), (some 13, 0), (some 14, 0), (some 16, 0)], [1, 2, 30, 32]), (78, [], [1])], (177, [(some 15, 1), (some 13, 0), (some 14, 0)], [31, 33, 50, 46]))
set_option maxRecDepth 20000 in
theorem v_yo_writeC_1_4 {PT : PTy} (hp : HP12 PT) : vcOk PT w_yo_writeC_1_4 := vc_iv [(4, 0, 8), (5, 0, 6), (6, 0, 6), (13, 0, 7), (14, 0, 3), (15, 0, 23), (16, 0, 8), (17, 0, 10), (21, 1, 60), (22, 0, 184), (23, 0, 191), (24, 0, 99), (25, 0, 180), (26, 0, 203), (27, 1, 2), (28, 1, 1), (29, (-2147483648), 2147483647)] [1, 2, 9, 10, 11, 12, 13, 14, 15, 16, 30, 31, 32, 33, 35, 36, 37, 38, 39, 40, 41, 42, 43, 44, 45, 46, 47, 48, 49, 50] (by decide +kernel) (fun ρ α => by
  intro r4 g4 b4 r5 g5 b5 r6 g6 b6 r13 g13 b13 r14 g14 b14 r15 g15 b15 r16 g16 b16 r17 g17 b17 r21 g21 b21 r22 g22 b22 r23 g23 b23 r24 g24 b24 r25 g25 b25 r26 g26 b26 r27 g27 b27 r28 g28 b28 r29 g29 b29 a1 h1 a2 h2 a9 h9 a10 h10 a11 h11 a12 h12 a13 h13 a14 h14 a15 h15 a16 h16 a30 h30 a31 h31 a32 h32 a33 h33 a35 h35 a36 h36 a37 h37 a38 h38 a39 h39 a40 h40 a41 h41 a42 h42 a43 h43 a44 h44 a45 h45 a46 h46 a47 h47 a48 h48 a49 h49 a50 h50 f0 f1 f2 f3 f4 f5 f6 f7 f8 f9 f10 f11 f12 f13 f14 f15 f16 f17 tt
  clear f4 f11
  have e78 : PT 78 = P_ly := pe78_12 hp
  have e163 : PT 163 = P_rt := pe163_12 hp
  have e177 : PT 177 = P_wcY := pe177_12 hp
  have e179 : PT 179 = P_owI := pe179_12 hp
  simp only [hF0, hF2, hF4, hF6, hF19, hF20, hF21, hFp_78, hFp_163, hFp_177, hFp_179, e78, e163, e177, e179, P_ly, P_rt, P_wcY, P_owI, den_s, den_c, Int.add_zero, List.map_cons, List.map_nil, g4.eq, g5.eq, g6.eq, g13.eq, g14.eq, g15.eq, g16.eq, g17.eq, g21.eq, g22.eq, g23.eq, g24.eq, g25.eq, g26.eq, g27.eq, g28.eq, g29.eq, h1, h2, h9, h10, h11, h12, h13, h14, h15, h16, h30, h31, h32, h33, h35, h36, h37, h38, h39, h40, h41, h42, h43, h44, h45, h46, h47, h48, h49, h50] at f0 f1 f2 f3 f5 f6 f7 f8 f9 f10 f12 f13 f14 f15 f16 f17 ⊢
  subst f0
  subst f1
  subst f3
  subst f5
  subst f6
  subst f7
  subst f8
  subst f9
  subst f10
  subst f13
  have hw := f15
  rw [upF_s (by omega), ← hw]
  unfold cutF
  (repeat' split) <;> first | rfl | (exfalso; omega))
def w_yo_writeC_1_5 : VC := ((bY ++ [(0, 7), (0, 3), (0, 23), (0, 8), (0, 10), (0, 11), ((-2147483648), 2147483647), ((-2147483648), 2147483647), (1, 60), (0, 184), (0, 191), (0, 99), (0, 180), (0, 203), (1, 2), (1, 1), ((-2147483648), 2147483647)]), [(21, [(some 26, 0), (some 29, 0)], [50, 49]), (19, [(some 29, 0), (some 24, 0)], []), (0, [(some 28, 0), (none, 1)], []), (20, [(some 28, 0), (some 14, 0)], [31]), (1, [(some 27, 0), (none, 0)], []), (20, [(some 27, 0), (some 14, 0)], [31]), (4, [(some 26, 0), (some 25, 0), (some 15, 0)], []), (6, [(some 25, 0), (none, 60), (some 14, 0)], []), (20, [(some 24, 0), (some 23, 0)], [46]), (4, [(some 23, 0), (some 22, 0), (some 13, 0)], []), (6, [(some 22, 0), (none, 8), (some 15, 0)], []), (2, [(some 15, 0), (none, 24)], []), (2, [(some 15, 0), (some 21, 0)], []), (20, [(some 21, 0), (some 14, 0)], [32]), (163, [(some 16, 0), (some 17, 0), (some 4, 0), (some 5, 0), (some 6, 0)], [1, 2, 35, 36, 37, 38, 39, 40, 41, 42, 9, 10, 11, 12, 13, 14, 15, 16, 46, 47, 48, 43, 44, 45]), (177, [(some 15, 0), (some 13, 0), (some 14, 0)], [31, 33, 49, 46]), (179, [(some 15, 0), (some 13, 0), (some 14, 0), (some 16, 0)], [1, 2, 30, 32]), (78, [], [1])], (179, [(some 15, 1), (some 13, 0), (some 14, 0), (some 16, 0)], [1, 2, 30, 32]))
set_option maxRecDepth 20000 in
theorem v_yo_writeC_1_5 {PT : PTy} (hp : HP12 PT) : vcOk PT w_yo_writeC_1_5 := vc_iv [(4, 0, 8), (5, 0, 6), (6, 0, 6), (13, 0, 7), (14, 0, 3), (15, 0, 23), (16, 0, 8), (17, 0, 10), (21, 1, 60), (22, 0, 184), (23, 0, 191), (24, 0, 99), (25, 0, 180), (26, 0, 203), (27, 1, 2), (28, 1, 1), (29, (-2147483648), 2147483647)] [1, 2, 9, 10, 11, 12, 13, 14, 15, 16, 30, 31, 32, 33, 35, 36, 37, 38, 39, 40, 41, 42, 43, 44, 45, 46, 47, 48, 49, 50] (by decide +kernel) (fun ρ α => by
  intro r4 g4 b4 r5 g5 b5 r6 g6 b6 r13 g13 b13 r14 g14 b14 r15 g15 b15 r16 g16 b16 r17 g17 b17 r21 g21 b21 r22 g22 b22 r23 g23 b23 r24 g24 b24 r25 g25 b25 r26 g26 b26 r27 g27 b27 r28 g28 b28 r29 g29 b29 a1 h1 a2 h2 a9 h9 a10 h10 a11 h11 a12 h12 a13 h13 a14 h14 a15 h15 a16 h16 a30 h30 a31 h31 a32 h32 a33 h33 a35 h35 a36 h36 a37 h37 a38 h38 a39 h39 a40 h40 a41 h41 a42 h42 a43 h43 a44 h44 a45 h45 a46 h46 a47 h47 a48 h48 a49 h49 a50 h50 f0 f1 f2 f3 f4 f5 f6 f7 f8 f9 f10 f11 f12 f13 f14 f15 f16 f17 tt
  clear f4 f11
  have e78 : PT 78 = P_ly := pe78_12 hp
  have e163 : PT 163 = P_rt := pe163_12 hp
  have e177 : PT 177 = P_wcY := pe177_12 hp
  have e179 : PT 179 = P_owI := pe179_12 hp
  simp only [hF0, hF2, hF4, hF6, hF19, hF20, hF21, hFp_78, hFp_163, hFp_177, hFp_179, e78, e163, e177, e179, P_ly, P_rt, P_wcY, P_owI, den_s, den_c, Int.add_zero, List.map_cons, List.map_nil, g4.eq, g5.eq, g6.eq, g13.eq, g14.eq, g15.eq, g16.eq, g17.eq, g21.eq, g22.eq, g23.eq, g24.eq, g25.eq, g26.eq, g27.eq, g28.eq, g29.eq, h1, h2, h9, h10, h11, h12, h13, h14, h15, h16, h30, h31, h32, h33, h35, h36, h37, h38, h39, h40, h41, h42, h43, h44, h45, h46, h47, h48, h49, h50] at f0 f1 f2 f3 f5 f6 f7 f8 f9 f10 f12 f13 f14 f15 f16 f17 ⊢
  subst f0
  subst f1
  subst f3
  subst f5
  subst f6
  subst f7
  subst f8
  subst f9
  subst f10
  subst f13
  obtain ⟨i1, i2, i3, i4, i5, i6, i7⟩ := f16
  first
    | exact ⟨i1, by omega, by omega, by omega, by omega, by omega, by omega⟩
    | (refine ⟨_, i1, fun h => ?_, fun h m => ?_, fun h m => ⟨rfl, f14, by omega, by omega, (by first | rfl | trivial), f15⟩⟩ <;> (exfalso; omega)))
def w_yo_writeC_1_6 : VC := ((bY ++ [(0, 7), (0, 3), (0, 23), (0, 8), (0, 10), (0, 11), ((-2147483648), 2147483647), ((-2147483648), 2147483647), (1, 60), (0, 184), (0, 191), (0, 99), (0, 180), (0, 203), (0, 0), ((-2147483648), 2147483647)]), [(21, [(some 26, 0), (some 28, 0)], [50, 49]), (18, [(some 28, 0), (some 24, 0)], []), (0, [(some 27, 0), (none, 0)], []), (20, [(some 27, 0), (some 14, 0)], [31]), (4, [(some 26, 0), (some 25, 0), (some 15, 0)], []), (6, [(some 25, 0), (none, 60), (some 14, 0)], []), (20, [(some 24, 0), (some 23, 0)], [46]), (4, [(some 23, 0), (some 22, 0), (some 13, 0)], []), (6, [(some 22, 0), (none, 8), (some 15, 0)], []), (2, [(some 15, 0), (none, 24)], []), (2, [(some 15, 0), (some 21, 0)], []), (20, [(some 21, 0), (some 14, 0)], [32]), (163, [(some 16, 0), (some 17, 0), (some 4, 0), (some 5, 0), (some 6, 0)], [1, 2, 35, 36, 37, 38, 39, 40, 41, 42, 9, 10, 11, 12, 13, 14, 15, 16, 46, 47, 48, 43, 44, 45]), (177, [(some 15, 0), (some 13, 0), (some 14, 0)], [31, 33, 49, 46]), (179, [(some 15, 0), (some 13, 0), (some 14, 0), (some 16, 0)], [1, 2, 30, 32]), (78, [], [1])], (177, [(some 15, 1), (some 13, 0), (some 14, 0)], [31, 33, 50, 46]))
set_option maxRecDepth 20000 in
theorem v_yo_writeC_1_6 {PT : PTy} (hp : HP12 PT) : vcOk PT w_yo_writeC_1_6 := vc_iv [(4, 0, 8), (5, 0, 6), (6, 0, 6), (13, 0, 7), (14, 0, 3), (15, 0, 23), (16, 0, 8), (17, 0, 10), (21, 1, 60), (22, 0, 184), (23, 0, 191), (24, 0, 99), (25, 0, 180), (26, 0, 203), (27, 0, 0), (28, (-2147483648), 2147483647)] [1, 2, 9, 10, 11, 12, 13, 14, 15, 16, 30, 31, 32, 33, 35, 36, 37, 38, 39, 40, 41, 42, 43, 44, 45, 46, 47, 48, 49, 50] (by decide +kernel) (fun ρ α => by
  intro r4 g4 b4 r5 g5 b5 r6 g6 b6 r13 g13 b13 r14 g14 b14 r15 g15 b15 r16 g16 b16 r17 g17 b17 r21 g21 b21 r22 g22 b22 r23 g23 b23 r24 g24 b24 r25 g25 b25 r26 g26 b26 r27 g27 b27 r28 g28 b28 a1 h1 a2 h2 a9 h9 a10 h10 a11 h11 a12 h12 a13 h13 a14 h14 a15 h15 a16 h16 a30 h30 a31 h31 a32 h32 a33 h33 a35 h35 a36 h36 a37 h37 a38 h38 a39 h39 a40 h40 a41 h41 a42 h42 a43 h43 a44 h44 a45 h45 a46 h46 a47 h47 a48 h48 a49 h49 a50 h50 f0 f1 f2 f3 f4 f5 f6 f7 f8 f9 f10 f11 f12 f13 f14 f15 tt
  clear f9
  have e78 : PT 78 = P_ly := pe78_12 hp
  have e163 : PT 163 = P_rt := pe163_12 hp
  have e177 : PT 177 = P_wcY := pe177_12 hp
  have e179 : PT 179 = P_owI := pe179_12 hp
  simp only [hF0, hF2, hF4, hF6, hF18, hF20, hF21, hFp_78, hFp_163, hFp_177, hFp_179, e78, e163, e177, e179, P_ly, P_rt, P_wcY, P_owI, den_s, den_c, Int.add_zero, List.map_cons, List.map_nil, g4.eq, g5.eq, g6.eq, g13.eq, g14.eq, g15.eq, g16.eq, g17.eq, g21.eq, g22.eq, g23.eq, g24.eq, g25.eq, g26.eq, g27.eq, g28.eq, h1, h2, h9, h10, h11, h12, h13, h14, h15, h16, h30, h31, h32, h33, h35, h36, h37, h38, h39, h40, h41, h42, h43, h44, h45, h46, h47, h48, h49, h50] at f0 f1 f2 f3 f4 f5 f6 f7 f8 f10 f11 f12 f13 f14 f15 ⊢
  subst f0
  subst f1
  subst f3
  subst f4
  subst f5
  subst f6
  subst f7
  subst f8
  subst f11
  have hw := f13
  rw [upF_s (by omega), ← hw]
  unfold cutF
  (repeat' split) <;> first | rfl | (exfalso; omega))
def w_yo_writeC_1_7 : VC := ((bY ++ [(0, 7), (0, 3), (0, 23), (0, 8), (0, 10), (0, 11), ((-2147483648), 2147483647), ((-2147483648), 2147483647), (1, 60), (0, 184), (0, 191), (0, 99), (0, 180), (0, 203), (0, 0), ((-2147483648), 2147483647)]), [(21, [(some 26, 0), (some 28, 0)], [50, 49]), (18, [(some 28, 0), (some 24, 0)], []), (0, [(some 27, 0), (none, 0)], []), (20, [(some 27, 0), (some 14, 0)], [31]), (4, [(some 26, 0), (some 25, 0), (some 15, 0)], []), (6, [(some 25, 0), (none, 60), (some 14, 0)], []), (20, [(some 24, 0), (some 23, 0)], [46]), (4, [(some 23, 0), (some 22, 0), (some 13, 0)], []), (6, [(some 22, 0), (none, 8), (some 15, 0)], []), (2, [(some 15, 0), (none, 24)], []), (2, [(some 15, 0), (some 21, 0)], []), (20, [(some 21, 0), (some 14, 0)], [32]), (163, [(some 16, 0), (some 17, 0), (some 4, 0), (some 5, 0), (some 6, 0)], [1, 2, 35, 36, 37, 38, 39, 40, 41, 42, 9, 10, 11, 12, 13, 14, 15, 16, 46, 47, 48, 43, 44, 45]), (177, [(some 15, 0), (some 13, 0), (some 14, 0)], [31, 33, 49, 46]), (179, [(some 15, 0), (some 13, 0), (some 14, 0), (some 16, 0)], [1, 2, 30, 32]), (78, [], [1])], (179, [(some 15, 1), (some 13, 0), (some 14, 0), (some 16, 0)], [1, 2, 30, 32]))
set_option maxRecDepth 20000 in
theorem v_yo_writeC_1_7 {PT : PTy} (hp : HP12 PT) : vcOk PT w_yo_writeC_1_7 := vc_iv [(4, 0, 8), (5, 0, 6), (6, 0, 6), (13, 0, 7), (14, 0, 3), (15, 0, 23), (16, 0, 8), (17, 0, 10), (21, 1, 60), (22, 0, 184), (23, 0, 191), (24, 0, 99), (25, 0, 180), (26, 0, 203), (27, 0, 0), (28, (-2147483648), 2147483647)] [1, 2, 9, 10, 11, 12, 13, 14, 15, 16, 30, 31, 32, 33, 35, 36, 37, 38, 39, 40, 41, 42, 43, 44, 45, 46, 47, 48, 49, 50] (by decide +kernel) (fun ρ α => by
  intro r4 g4 b4 r5 g5 b5 r6 g6 b6 r13 g13 b13 r14 g14 b14 r15 g15 b15 r16 g16 b16 r17 g17 b17 r21 g21 b21 r22 g22 b22 r23 g23 b23 r24 g24 b24 r25 g25 b25 r26 g26 b26 r27 g27 b27 r28 g28 b28 a1 h1 a2 h2 a9 h9 a10 h10 a11 h11 a12 h12 a13 h13 a14 h14 a15 h15 a16 h16 a30 h30 a31 h31 a32 h32 a33 h33 a35 h35 a36 h36 a37 h37 a38 h38 a39 h39 a40 h40 a41 h41 a42 h42 a43 h43 a44 h44 a45 h45 a46 h46 a47 h47 a48 h48 a49 h49 a50 h50 f0 f1 f2 f3 f4 f5 f6 f7 f8 f9 f10 f11 f12 f13 f14 f15 tt
  clear f9
  have e78 : PT 78 = P_ly := pe78_12 hp
  have e163 : PT 163 = P_rt := pe163_12 hp
  have e177 : PT 177 = P_wcY := pe177_12 hp
  have e179 : PT 179 = P_owI := pe179_12 hp
  simp only [hF0, hF2, hF4, hF6, hF18, hF20, hF21, hFp_78, hFp_163, hFp_177, hFp_179, e78, e163, e177, e179, P_ly, P_rt, P_wcY, P_owI, den_s, den_c, Int.add_zero, List.map_cons, List.map_nil, g4.eq, g5.eq, g6.eq, g13.eq, g14.eq, g15.eq, g16.eq, g17.eq, g21.eq, g22.eq, g23.eq, g24.eq, g25.eq, g26.eq, g27.eq, g28.eq, h1, h2, h9, h10, h11, h12, h13, h14, h15, h16, h30, h31, h32, h33, h35, h36, h37, h38, h39, h40, h41, h42, h43, h44, h45, h46, h47, h48, h49, h50] at f0 f1 f2 f3 f4 f5 f6 f7 f8 f10 f11 f12 f13 f14 f15 ⊢
  subst f0
  subst f1
  subst f3
  subst f4
  subst f5
  subst f6
  subst f7
  subst f8
  subst f11
  obtain ⟨i1, i2, i3, i4, i5, i6, i7⟩ := f14
  first
    | exact ⟨i1, by omega, by omega, by omega, by omega, by omega, by omega⟩
    | (refine ⟨_, i1, fun h => ?_, fun h m => ?_, fun h m => ⟨rfl, f12, by omega, by omega, (by first | rfl | trivial), f13⟩⟩ <;> (exfalso; omega)))
set_option maxRecDepth 1000000 in
theorem k_yo_writeC {PT : PTy} (hp : HP12 PT) : wfX c_yo_writeC = true ∧ xcOk PT c_yo_writeC := xctr (xl (k_faultOf hp.1.1.1.1.1.1.1.1.1.1) (xl (k_rtY hp) (xl0))) c_yo_writeC 81 mX7_write rfl h_yo_writeC (by decide +kernel) (by decide +kernel) (by decide) (vcs_by [w_yo_writeC_0_0, w_yo_writeC_0_1, w_yo_writeC_0_2, w_yo_writeC_0_3, w_yo_writeC_0_4, w_yo_writeC_0_5, w_yo_writeC_0_6] (by decide +kernel) (vc (v_yo_writeC_0_0 hp) (vc (v_yo_writeC_0_1 hp) (vc (v_yo_writeC_0_2 hp) (vc (v_yo_writeC_0_3 hp) (vc (v_yo_writeC_0_4 hp) (vc (v_yo_writeC_0_5 hp) (vc (v_yo_writeC_0_6 hp) vn)))))))) (fmc (vcs_by [w_yo_writeC_1_0, w_yo_writeC_1_1, w_yo_writeC_1_2, w_yo_writeC_1_3, w_yo_writeC_1_4, w_yo_writeC_1_5, w_yo_writeC_1_6, w_yo_writeC_1_7] (by decide +kernel) (vc (v_yo_writeC_1_0 hp) (vc (v_yo_writeC_1_1 hp) (vc (v_yo_writeC_1_2 hp) (vc (v_yo_writeC_1_3 hp) (vc (v_yo_writeC_1_4 hp) (vc (v_yo_writeC_1_5 hp) (vc (v_yo_writeC_1_6 hp) (vc (v_yo_writeC_1_7 hp) vn))))))))) fmn)
/-! ===== read; printed by wip/gen/x ===== -/
def c_xo_readC : XC := (53, 3, (bT ++ [((-2147483648), 2147483647)]), [.inr (.inl 0), .inl (some 14, 0)], (gX 999), [], [((bT ++ [((-2147483648), 2147483647), ((-11), 30), (0, 5), (0, 8)]), some (.inl (some 15, 0)), (hst (gX 999) [(0, .inr (.inr (.inr (6, [.inr (.inl 1), .inr (.inl 3), .inr (.inl 5), .inr (.inl 6), .inr (.inl 9), .inr (.inl 14), .inr (.inl 18), .inr (.inl 22), .inr (.inl 31), .inr (.inl 35), .inr (.inl 39), .inr (.inl 47), .inl (some 16, 0)])))), (14, .inr (.inr (.inr (4, [.inr (.inl 15), .inr (.inl 16), .inr (.inl 17), .inl (none, 8), .inl (some 17, 0)]))))]), (ansT 58 [(15, 58), (16, 59), (17, 60)]), 61, [(140, [(some 15, 0), (some 14, 0), (none, 0), (some 4, 0), (some 17, 0), (some 13, 0), (some 16, 0)], [45, 46, 41, 42, 43, 44, 15, 16, 58, 59])])])
def h_xo_readC : List XH := [(31, (bT ++ [(0, 3), (0, 30), (0, 60), (0, 8)]), [some (.inr (.inl 0)), some (.inl (some 14, 0)), some (.inl (some 15, 0)), some (.inl (some 16, 0)), none, none], (hst (gX 999) [(14, .inr (.inr (.inr (4, [.inr (.inl 15), .inr (.inl 16), .inr (.inl 17), .inl (none, 8), .inl (some 17, 0)]))))]), (ansT 58 [(15, 58), (16, 59), (17, 60)]), 61, [(141, [(some 15, 0), (some 16, 0), (some 4, 0), (some 17, 0), (some 14, 0)], [45, 46, 41, 42, 43, 44, 15, 16, 58, 59])], [(true, (none, 1)), (true, (some 16, 0))])]
def w_xo_readC_0_0 : VC := ((bT ++ [((-2147483648), (-1))]), [(0, [(none, 0), (none, 0)], []), (2, [(some 14, 0), (none, 0)], [])], (140, [(none, (-2)), (some 14, 0), (none, 0), (some 4, 0), (some 4, 0), (some 13, 0), (some 13, 0)], [45, 46, 41, 42, 43, 44, 15, 16, 15, 16]))
theorem pe140_12 {PT : PTy} (hp : HP12 PT) : PT 140 = P_rdX := hp.1.1.1.2.2.2.2.2.2.1
set_option maxRecDepth 20000 in
theorem v_xo_readC_0_0 {PT : PTy} (hp : HP12 PT) : vcOk PT w_xo_readC_0_0 := vc_iv [(4, 0, 8), (13, 0, 5), (14, (-2147483648), (-1))] [15, 16, 41, 42, 43, 44, 45, 46] (by decide +kernel) (fun ρ α => by
  intro r4 g4 b4 r13 g13 b13 r14 g14 b14 a15 h15 a16 h16 a41 h41 a42 h42 a43 h43 a44 h44 a45 h45 a46 h46 f0 f1 tt
  clear f0 f1
  have e140 : PT 140 = P_rdX := pe140_12 hp
  simp only [hFp_140, e140, P_rdX, den_s, den_c, Int.add_zero, List.map_cons, List.map_nil, g4.eq, g13.eq, g14.eq, h15, h16, h41, h42, h43, h44, h45, h46] at ⊢
  first
    | omega
    | exact ⟨by omega, by omega, by omega, by omega, reI_z⟩
    | ((repeat' (first | apply And.intro | intro h)) <;> first | omega | rfl | trivial | (exfalso; omega) | (congr 1; omega) | (congr 1; (repeat' split) <;> first | rfl | (exfalso; omega))))
def w_xo_readC_0_1 : VC := ((bT ++ [(4, 2147483647)]), [(0, [(none, 0), (none, 0)], []), (2, [(none, 3), (some 14, 0)], []), (3, [(some 14, 0), (none, 0)], [])], (140, [(none, (-2)), (some 14, 0), (none, 0), (some 4, 0), (some 4, 0), (some 13, 0), (some 13, 0)], [45, 46, 41, 42, 43, 44, 15, 16, 15, 16]))
set_option maxRecDepth 20000 in
theorem v_xo_readC_0_1 {PT : PTy} (hp : HP12 PT) : vcOk PT w_xo_readC_0_1 := vc_iv [(4, 0, 8), (13, 0, 5), (14, 4, 2147483647)] [15, 16, 41, 42, 43, 44, 45, 46] (by decide +kernel) (fun ρ α => by
  intro r4 g4 b4 r13 g13 b13 r14 g14 b14 a15 h15 a16 h16 a41 h41 a42 h42 a43 h43 a44 h44 a45 h45 a46 h46 f0 f1 f2 tt
  clear f0 f1 f2
  have e140 : PT 140 = P_rdX := pe140_12 hp
  simp only [hFp_140, e140, P_rdX, den_s, den_c, Int.add_zero, List.map_cons, List.map_nil, g4.eq, g13.eq, g14.eq, h15, h16, h41, h42, h43, h44, h45, h46] at ⊢
  first
    | omega
    | exact ⟨by omega, by omega, by omega, by omega, reI_z⟩
    | ((repeat' (first | apply And.intro | intro h)) <;> first | omega | rfl | trivial | (exfalso; omega) | (congr 1; omega) | (congr 1; (repeat' split) <;> first | rfl | (exfalso; omega))))
def w_xo_readC_0_2 : VC := ((bT ++ [(0, 3), (0, 2)]), [(0, [(none, 0), (none, 0)], []), (1, [(some 15, 0), (none, (-1))], []), (20, [(some 15, 0), (some 14, 0)], [46]), (1, [(none, 1), (none, 0)], []), (3, [(none, 3), (some 14, 0)], []), (3, [(some 14, 0), (none, 0)], [])], (141, [(none, 0), (none, 0), (some 4, 0), (some 4, 0), (some 14, 0)], [45, 46, 41, 42, 43, 44, 15, 16, 15, 16]))
theorem pe141_12 {PT : PTy} (hp : HP12 PT) : PT 141 = P_rdXI := hp.1.1.1.2.2.2.2.2.2.2.1
set_option maxRecDepth 20000 in
theorem v_xo_readC_0_2 {PT : PTy} (hp : HP12 PT) : vcOk PT w_xo_readC_0_2 := vc_iv [(4, 0, 8), (14, 0, 3), (15, 0, 2)] [15, 16, 41, 42, 43, 44, 45, 46] (by decide +kernel) (fun ρ α => by
  intro r4 g4 b4 r14 g14 b14 r15 g15 b15 a15 h15 a16 h16 a41 h41 a42 h42 a43 h43 a44 h44 a45 h45 a46 h46 f0 f1 f2 f3 f4 f5 tt
  clear f0 f1 f3 f4 f5
  have e141 : PT 141 = P_rdXI := pe141_12 hp
  simp only [hF20, hFp_141, e141, P_rdXI, den_s, den_c, Int.add_zero, List.map_cons, List.map_nil, g4.eq, g14.eq, g15.eq, h15, h16, h41, h42, h43, h44, h45, h46] at f2 ⊢
  subst f2
  first
    | omega
    | exact ⟨by omega, by omega, by omega, by omega, reI_z⟩
    | ((repeat' (first | apply And.intro | intro h)) <;> first | omega | rfl | trivial | (exfalso; omega) | (congr 1; omega) | (congr 1; (repeat' split) <;> first | rfl | (exfalso; omega))))
def w_xo_readC_0_3 : VC := ((bT ++ [(0, 3), ((-1), (-1))]), [(1, [(none, 1), (none, 0)], []), (0, [(some 15, 0), (none, (-1))], []), (20, [(some 15, 0), (some 14, 0)], [46]), (1, [(none, 1), (none, 0)], []), (3, [(none, 3), (some 14, 0)], []), (3, [(some 14, 0), (none, 0)], [])], (140, [(none, (-11)), (some 14, 0), (none, 0), (some 4, 0), (some 4, 0), (some 13, 0), (none, 1)], [45, 46, 41, 42, 43, 44, 15, 16, 15, 16]))
set_option maxRecDepth 20000 in
theorem v_xo_readC_0_3 {PT : PTy} (hp : HP12 PT) : vcOk PT w_xo_readC_0_3 := vc_iv [(4, 0, 8), (13, 0, 5), (14, 0, 3), (15, (-1), (-1))] [15, 16, 41, 42, 43, 44, 45, 46] (by decide +kernel) (fun ρ α => by
  intro r4 g4 b4 r13 g13 b13 r14 g14 b14 r15 g15 b15 a15 h15 a16 h16 a41 h41 a42 h42 a43 h43 a44 h44 a45 h45 a46 h46 f0 f1 f2 f3 f4 f5 tt
  clear f0 f3 f4 f5
  have e140 : PT 140 = P_rdX := pe140_12 hp
  simp only [hF0, hF20, hFp_140, e140, P_rdX, den_s, den_c, Int.add_zero, List.map_cons, List.map_nil, g4.eq, g13.eq, g14.eq, g15.eq, h15, h16, h41, h42, h43, h44, h45, h46] at f1 f2 ⊢
  subst f2
  first
    | omega
    | exact ⟨by omega, by omega, by omega, by omega, reI_z⟩
    | ((repeat' (first | apply And.intro | intro h)) <;> first | omega | rfl | trivial | (exfalso; omega) | (congr 1; omega) | (congr 1; (repeat' split) <;> first | rfl | (exfalso; omega))))
def w_xo_readC_1_0 : VC := ((bT ++ [(0, 3), (0, 30), (0, 60), (0, 8), (0, 60)]), [(3, [(some 16, 1), (some 18, 0)], []), (20, [(some 18, 0), (some 14, 0)], [45]), (141, [(some 15, 0), (some 16, 0), (some 4, 0), (some 17, 0), (some 14, 0)], [45, 46, 41, 42, 43, 44, 15, 16, 58, 59])], (140, [(some 15, 0), (some 14, 0), (none, 0), (some 4, 0), (some 17, 0), (some 13, 0), (some 13, 0)], [45, 46, 41, 42, 43, 44, 15, 16, 58, 59]))
set_option maxRecDepth 20000 in
theorem v_xo_readC_1_0 {PT : PTy} (hp : HP12 PT) : vcOk PT w_xo_readC_1_0 := vc_iv [(4, 0, 8), (13, 0, 5), (14, 0, 3), (15, 0, 30), (16, 0, 60), (17, 0, 8), (18, 0, 60)] [15, 16, 41, 42, 43, 44, 45, 46, 58, 59] (by decide +kernel) (fun ρ α => by
  intro r4 g4 b4 r13 g13 b13 r14 g14 b14 r15 g15 b15 r16 g16 b16 r17 g17 b17 r18 g18 b18 a15 h15 a16 h16 a41 h41 a42 h42 a43 h43 a44 h44 a45 h45 a46 h46 a58 h58 a59 h59 f0 f1 f2 tt
  have e140 : PT 140 = P_rdX := pe140_12 hp
  have e141 : PT 141 = P_rdXI := pe141_12 hp
  simp only [hF3, hF20, hFp_140, hFp_141, e140, e141, P_rdX, P_rdXI, den_s, den_c, Int.add_zero, List.map_cons, List.map_nil, g4.eq, g13.eq, g14.eq, g15.eq, g16.eq, g17.eq, g18.eq, h15, h16, h41, h42, h43, h44, h45, h46, h58, h59] at f0 f1 f2 ⊢
  subst f1
  obtain ⟨i1, i2, i3, i4, i5⟩ := f2
  subst i1
  first
    | omega
    | (rcases (show r14 = 0 ∨ r14 = 1 ∨ r14 = 2 ∨ r14 = 3 by omega) with z | z | z | z <;> subst z <;> first | (exfalso; omega) | exact ⟨fun h => by omega, fun h h' => by omega, fun _ _ => ⟨by first | rfl | trivial, i5, by unfold okK; simp only [rowX_0, rowX_1, rowX_2, rowX_3]; omega⟩⟩)
    | (rcases (show r14 = 0 ∨ r14 = 1 ∨ r14 = 2 ∨ r14 = 3 by omega) with z | z | z | z <;> subst z <;> first | (exfalso; omega) | exact ⟨by omega, by omega, by omega, by omega, reI_s i5 (by omega) (by unfold okK; omega) (by omega) (by simp only [rowX_0, rowX_1, rowX_2, rowX_3]) (by simp only [rowX_0, rowX_1, rowX_2, rowX_3])⟩))
def w_xo_readC_1_1 : VC := ((bT ++ [(0, 0), (0, 30), (0, 58), (0, 8), (2, 60), ((-2147483648), (-1)), ((-2147483648), 2147483647)]), [(0, [(none, 0), (none, 0)], []), (0, [(none, 0), (none, 0)], []), (2, [(some 19, 0), (none, 0)], []), (20, [(some 20, 0), (some 16, 1)], [41]), (0, [(some 14, 0), (none, 0)], []), (20, [(some 19, 0), (some 16, 0)], [41]), (0, [(some 14, 0), (none, 0)], []), (2, [(some 16, 1), (some 18, 0)], []), (20, [(some 18, 0), (some 14, 0)], [45]), (141, [(some 15, 0), (some 16, 0), (some 4, 0), (some 17, 0), (some 14, 0)], [45, 46, 41, 42, 43, 44, 15, 16, 58, 59])], (140, [(some 15, 0), (some 14, 0), (none, 0), (some 4, 0), (some 17, 0), (some 13, 0), (some 13, 0)], [45, 46, 41, 42, 43, 44, 15, 16, 58, 59]))
set_option maxRecDepth 20000 in
theorem v_xo_readC_1_1 {PT : PTy} (hp : HP12 PT) : vcOk PT w_xo_readC_1_1 := vc_iv [(4, 0, 8), (13, 0, 5), (14, 0, 0), (15, 0, 30), (16, 0, 58), (17, 0, 8), (18, 2, 60), (19, (-2147483648), (-1)), (20, (-2147483648), 2147483647)] [15, 16, 41, 42, 43, 44, 45, 46, 58, 59] (by decide +kernel) (fun ρ α => by
  intro r4 g4 b4 r13 g13 b13 r14 g14 b14 r15 g15 b15 r16 g16 b16 r17 g17 b17 r18 g18 b18 r19 g19 b19 r20 g20 b20 a15 h15 a16 h16 a41 h41 a42 h42 a43 h43 a44 h44 a45 h45 a46 h46 a58 h58 a59 h59 f0 f1 f2 f3 f4 f5 f6 f7 f8 f9 tt
  clear f0 f1 f2 f6
  have e140 : PT 140 = P_rdX := pe140_12 hp
  have e141 : PT 141 = P_rdXI := pe141_12 hp
  simp only [hF0, hF2, hF20, hFp_140, hFp_141, e140, e141, P_rdX, P_rdXI, den_s, den_c, Int.add_zero, List.map_cons, List.map_nil, g4.eq, g13.eq, g14.eq, g15.eq, g16.eq, g17.eq, g18.eq, g19.eq, g20.eq, h15, h16, h41, h42, h43, h44, h45, h46, h58, h59] at f3 f4 f5 f7 f8 f9 ⊢
  subst f3
  subst f5
  subst f8
  obtain ⟨i1, i2, i3, i4, i5⟩ := f9
  subst i1
  first
    | omega
    | (rcases (show r14 = 0 ∨ r14 = 1 ∨ r14 = 2 ∨ r14 = 3 by omega) with z | z | z | z <;> subst z <;> first | (exfalso; omega) | exact ⟨fun h => by omega, fun h h' => by omega, fun _ _ => ⟨by first | rfl | trivial, i5, by unfold okK; simp only [rowX_0, rowX_1, rowX_2, rowX_3]; omega⟩⟩)
    | (rcases (show r14 = 0 ∨ r14 = 1 ∨ r14 = 2 ∨ r14 = 3 by omega) with z | z | z | z <;> subst z <;> first | (exfalso; omega) | exact ⟨by omega, by omega, by omega, by omega, reI_s i5 (by omega) (by unfold okK; omega) (by omega) (by simp only [rowX_0, rowX_1, rowX_2, rowX_3]) (by simp only [rowX_0, rowX_1, rowX_2, rowX_3])⟩))
def w_xo_readC_1_2 : VC := ((bT ++ [(0, 0), (0, 30), (0, 58), (0, 8), (2, 60), (24, 2147483647), ((-2147483648), 2147483647)]), [(0, [(none, 0), (none, 0)], []), (0, [(none, 0), (none, 0)], []), (2, [(none, 23), (some 19, 0)], []), (3, [(some 19, 0), (none, 0)], []), (20, [(some 20, 0), (some 16, 1)], [41]), (0, [(some 14, 0), (none, 0)], []), (20, [(some 19, 0), (some 16, 0)], [41]), (0, [(some 14, 0), (none, 0)], []), (2, [(some 16, 1), (some 18, 0)], []), (20, [(some 18, 0), (some 14, 0)], [45]), (141, [(some 15, 0), (some 16, 0), (some 4, 0), (some 17, 0), (some 14, 0)], [45, 46, 41, 42, 43, 44, 15, 16, 58, 59])], (140, [(some 15, 0), (some 14, 0), (none, 0), (some 4, 0), (some 17, 0), (some 13, 0), (some 13, 0)], [45, 46, 41, 42, 43, 44, 15, 16, 58, 59]))
set_option maxRecDepth 20000 in
theorem v_xo_readC_1_2 {PT : PTy} (hp : HP12 PT) : vcOk PT w_xo_readC_1_2 := vc_iv [(4, 0, 8), (13, 0, 5), (14, 0, 0), (15, 0, 30), (16, 0, 58), (17, 0, 8), (18, 2, 60), (19, 24, 2147483647), (20, (-2147483648), 2147483647)] [15, 16, 41, 42, 43, 44, 45, 46, 58, 59] (by decide +kernel) (fun ρ α => by
  intro r4 g4 b4 r13 g13 b13 r14 g14 b14 r15 g15 b15 r16 g16 b16 r17 g17 b17 r18 g18 b18 r19 g19 b19 r20 g20 b20 a15 h15 a16 h16 a41 h41 a42 h42 a43 h43 a44 h44 a45 h45 a46 h46 a58 h58 a59 h59 f0 f1 f2 f3 f4 f5 f6 f7 f8 f9 f10 tt
  clear f0 f1 f2 f3 f7
  have e140 : PT 140 = P_rdX := pe140_12 hp
  have e141 : PT 141 = P_rdXI := pe141_12 hp
  simp only [hF0, hF2, hF20, hFp_140, hFp_141, e140, e141, P_rdX, P_rdXI, den_s, den_c, Int.add_zero, List.map_cons, List.map_nil, g4.eq, g13.eq, g14.eq, g15.eq, g16.eq, g17.eq, g18.eq, g19.eq, g20.eq, h15, h16, h41, h42, h43, h44, h45, h46, h58, h59] at f4 f5 f6 f8 f9 f10 ⊢
  subst f4
  subst f6
  subst f9
  obtain ⟨i1, i2, i3, i4, i5⟩ := f10
  subst i1
  first
    | omega
    | (rcases (show r14 = 0 ∨ r14 = 1 ∨ r14 = 2 ∨ r14 = 3 by omega) with z | z | z | z <;> subst z <;> first | (exfalso; omega) | exact ⟨fun h => by omega, fun h h' => by omega, fun _ _ => ⟨by first | rfl | trivial, i5, by unfold okK; simp only [rowX_0, rowX_1, rowX_2, rowX_3]; omega⟩⟩)
    | (rcases (show r14 = 0 ∨ r14 = 1 ∨ r14 = 2 ∨ r14 = 3 by omega) with z | z | z | z <;> subst z <;> first | (exfalso; omega) | exact ⟨by omega, by omega, by omega, by omega, reI_s i5 (by omega) (by unfold okK; omega) (by omega) (by simp only [rowX_0, rowX_1, rowX_2, rowX_3]) (by simp only [rowX_0, rowX_1, rowX_2, rowX_3])⟩))
def w_xo_readC_1_3 : VC := ((bT ++ [(0, 0), (0, 30), (0, 58), (0, 8), (2, 60), (0, 23), ((-2147483648), (-1))]), [(0, [(none, 0), (none, 0)], []), (0, [(none, 0), (none, 0)], []), (2, [(some 20, 0), (none, 0)], []), (1, [(none, 1), (none, 0)], []), (3, [(none, 23), (some 19, 0)], []), (3, [(some 19, 0), (none, 0)], []), (20, [(some 20, 0), (some 16, 1)], [41]), (0, [(some 14, 0), (none, 0)], []), (20, [(some 19, 0), (some 16, 0)], [41]), (0, [(some 14, 0), (none, 0)], []), (2, [(some 16, 1), (some 18, 0)], []), (20, [(some 18, 0), (some 14, 0)], [45]), (141, [(some 15, 0), (some 16, 0), (some 4, 0), (some 17, 0), (some 14, 0)], [45, 46, 41, 42, 43, 44, 15, 16, 58, 59])], (140, [(some 15, 0), (some 14, 0), (none, 0), (some 4, 0), (some 17, 0), (some 13, 0), (some 13, 0)], [45, 46, 41, 42, 43, 44, 15, 16, 58, 59]))
set_option maxRecDepth 20000 in
theorem v_xo_readC_1_3 {PT : PTy} (hp : HP12 PT) : vcOk PT w_xo_readC_1_3 := vc_iv [(4, 0, 8), (13, 0, 5), (14, 0, 0), (15, 0, 30), (16, 0, 58), (17, 0, 8), (18, 2, 60), (19, 0, 23), (20, (-2147483648), (-1))] [15, 16, 41, 42, 43, 44, 45, 46, 58, 59] (by decide +kernel) (fun ρ α => by
  intro r4 g4 b4 r13 g13 b13 r14 g14 b14 r15 g15 b15 r16 g16 b16 r17 g17 b17 r18 g18 b18 r19 g19 b19 r20 g20 b20 a15 h15 a16 h16 a41 h41 a42 h42 a43 h43 a44 h44 a45 h45 a46 h46 a58 h58 a59 h59 f0 f1 f2 f3 f4 f5 f6 f7 f8 f9 f10 f11 f12 tt
  clear f0 f1 f2 f3 f4 f5 f9
  have e140 : PT 140 = P_rdX := pe140_12 hp
  have e141 : PT 141 = P_rdXI := pe141_12 hp
  simp only [hF0, hF2, hF20, hFp_140, hFp_141, e140, e141, P_rdX, P_rdXI, den_s, den_c, Int.add_zero, List.map_cons, List.map_nil, g4.eq, g13.eq, g14.eq, g15.eq, g16.eq, g17.eq, g18.eq, g19.eq, g20.eq, h15, h16, h41, h42, h43, h44, h45, h46, h58, h59] at f6 f7 f8 f10 f11 f12 ⊢
  subst f6
  subst f8
  subst f11
  obtain ⟨i1, i2, i3, i4, i5⟩ := f12
  subst i1
  first
    | omega
    | (rcases (show r14 = 0 ∨ r14 = 1 ∨ r14 = 2 ∨ r14 = 3 by omega) with z | z | z | z <;> subst z <;> first | (exfalso; omega) | exact ⟨fun h => by omega, fun h h' => by omega, fun _ _ => ⟨by first | rfl | trivial, i5, by unfold okK; simp only [rowX_0, rowX_1, rowX_2, rowX_3]; omega⟩⟩)
    | (rcases (show r14 = 0 ∨ r14 = 1 ∨ r14 = 2 ∨ r14 = 3 by omega) with z | z | z | z <;> subst z <;> first | (exfalso; omega) | exact ⟨by omega, by omega, by omega, by omega, reI_s i5 (by omega) (by unfold okK; omega) (by omega) (by simp only [rowX_0, rowX_1, rowX_2, rowX_3]) (by simp only [rowX_0, rowX_1, rowX_2, rowX_3])⟩))
def w_xo_readC_1_4 : VC := ((bT ++ [(0, 0), (0, 30), (0, 58), (0, 8), (2, 60), (0, 23), (10, 2147483647)]), [(0, [(none, 0), (none, 0)], []), (0, [(none, 0), (none, 0)], []), (2, [(none, 9), (some 20, 0)], []), (3, [(some 20, 0), (none, 0)], []), (1, [(none, 1), (none, 0)], []), (3, [(none, 23), (some 19, 0)], []), (3, [(some 19, 0), (none, 0)], []), (20, [(some 20, 0), (some 16, 1)], [41]), (0, [(some 14, 0), (none, 0)], []), (20, [(some 19, 0), (some 16, 0)], [41]), (0, [(some 14, 0), (none, 0)], []), (2, [(some 16, 1), (some 18, 0)], []), (20, [(some 18, 0), (some 14, 0)], [45]), (141, [(some 15, 0), (some 16, 0), (some 4, 0), (some 17, 0), (some 14, 0)], [45, 46, 41, 42, 43, 44, 15, 16, 58, 59])], (140, [(some 15, 0), (some 14, 0), (none, 0), (some 4, 0), (some 17, 0), (some 13, 0), (some 13, 0)], [45, 46, 41, 42, 43, 44, 15, 16, 58, 59]))
set_option maxRecDepth 20000 in
theorem v_xo_readC_1_4 {PT : PTy} (hp : HP12 PT) : vcOk PT w_xo_readC_1_4 := vc_iv [(4, 0, 8), (13, 0, 5), (14, 0, 0), (15, 0, 30), (16, 0, 58), (17, 0, 8), (18, 2, 60), (19, 0, 23), (20, 10, 2147483647)] [15, 16, 41, 42, 43, 44, 45, 46, 58, 59] (by decide +kernel) (fun ρ α => by
  intro r4 g4 b4 r13 g13 b13 r14 g14 b14 r15 g15 b15 r16 g16 b16 r17 g17 b17 r18 g18 b18 r19 g19 b19 r20 g20 b20 a15 h15 a16 h16 a41 h41 a42 h42 a43 h43 a44 h44 a45 h45 a46 h46 a58 h58 a59 h59 f0 f1 f2 f3 f4 f5 f6 f7 f8 f9 f10 f11 f12 f13 tt
  clear f0 f1 f2 f3 f4 f5 f6 f10
  have e140 : PT 140 = P_rdX := pe140_12 hp
  have e141 : PT 141 = P_rdXI := pe141_12 hp
  simp only [hF0, hF2, hF20, hFp_140, hFp_141, e140, e141, P_rdX, P_rdXI, den_s, den_c, Int.add_zero, List.map_cons, List.map_nil, g4.eq, g13.eq, g14.eq, g15.eq, g16.eq, g17.eq, g18.eq, g19.eq, g20.eq, h15, h16, h41, h42, h43, h44, h45, h46, h58, h59] at f7 f8 f9 f11 f12 f13 ⊢
  subst f7
  subst f9
  subst f12
  obtain ⟨i1, i2, i3, i4, i5⟩ := f13
  subst i1
  first
    | omega
    | (rcases (show r14 = 0 ∨ r14 = 1 ∨ r14 = 2 ∨ r14 = 3 by omega) with z | z | z | z <;> subst z <;> first | (exfalso; omega) | exact ⟨fun h => by omega, fun h h' => by omega, fun _ _ => ⟨by first | rfl | trivial, i5, by unfold okK; simp only [rowX_0, rowX_1, rowX_2, rowX_3]; omega⟩⟩)
    | (rcases (show r14 = 0 ∨ r14 = 1 ∨ r14 = 2 ∨ r14 = 3 by omega) with z | z | z | z <;> subst z <;> first | (exfalso; omega) | exact ⟨by omega, by omega, by omega, by omega, reI_s i5 (by omega) (by unfold okK; omega) (by omega) (by simp only [rowX_0, rowX_1, rowX_2, rowX_3]) (by simp only [rowX_0, rowX_1, rowX_2, rowX_3])⟩))
def w_xo_readC_1_5 : VC := ((bT ++ [(0, 0), (0, 30), (0, 58), (0, 7), (2, 60), (0, 23), (0, 9)]), [(21, [(some 17, 0), (none, 0)], [63, 60]), (21, [(some 17, 0), (some 20, 0)], [62, 59]), (21, [(some 17, 0), (some 19, 0)], [61, 58]), (2, [(some 17, 0), (none, 9)], []), (0, [(none, 0), (none, 0)], []), (2, [(some 17, 0), (none, 8)], []), (1, [(none, 1), (none, 0)], []), (1, [(none, 1), (none, 0)], []), (3, [(none, 9), (some 20, 0)], []), (3, [(some 20, 0), (none, 0)], []), (1, [(none, 1), (none, 0)], []), (3, [(none, 23), (some 19, 0)], []), (3, [(some 19, 0), (none, 0)], []), (20, [(some 20, 0), (some 16, 1)], [41]), (0, [(some 14, 0), (none, 0)], []), (20, [(some 19, 0), (some 16, 0)], [41]), (0, [(some 14, 0), (none, 0)], []), (2, [(some 16, 1), (some 18, 0)], []), (20, [(some 18, 0), (some 14, 0)], [45]), (141, [(some 15, 0), (some 16, 0), (some 4, 0), (some 17, 0), (some 14, 0)], [45, 46, 41, 42, 43, 44, 15, 16, 58, 59])], (3, [(some 15, 1), (none, 0)], []))
set_option maxRecDepth 20000 in
theorem v_xo_readC_1_5 {PT : PTy} (hp : HP12 PT) : vcOk PT w_xo_readC_1_5 := vc_iv [(4, 0, 8), (14, 0, 0), (15, 0, 30), (16, 0, 58), (17, 0, 7), (18, 2, 60), (19, 0, 23), (20, 0, 9)] [15, 16, 41, 42, 43, 44, 45, 46, 58, 59, 60, 61, 62, 63] (by decide +kernel) (fun ρ α => by
  intro r4 g4 b4 r14 g14 b14 r15 g15 b15 r16 g16 b16 r17 g17 b17 r18 g18 b18 r19 g19 b19 r20 g20 b20 a15 h15 a16 h16 a41 h41 a42 h42 a43 h43 a44 h44 a45 h45 a46 h46 a58 h58 a59 h59 a60 h60 a61 h61 a62 h62 a63 h63 f0 f1 f2 f3 f4 f5 f6 f7 f8 f9 f10 f11 f12 f13 f14 f15 f16 f17 f18 f19 tt
  clear f3 f4 f5 f6 f7 f8 f9 f10 f11 f12 f16
  have e141 : PT 141 = P_rdXI := pe141_12 hp
  simp only [hF0, hF2, hF3, hF20, hF21, hFp_141, e141, P_rdXI, den_s, den_c, Int.add_zero, List.map_cons, List.map_nil, g4.eq, g14.eq, g15.eq, g16.eq, g17.eq, g18.eq, g19.eq, g20.eq, h15, h16, h41, h42, h43, h44, h45, h46, h58, h59, h60, h61, h62, h63] at f0 f1 f2 f13 f14 f15 f17 f18 f19 ⊢
  subst f0
  subst f1
  subst f2
  subst f13
  subst f15
  subst f18
  obtain ⟨i1, i2, i3, i4, i5⟩ := f19
  subst i1
  first
    | omega
    | (rcases (show r14 = 0 ∨ r14 = 1 ∨ r14 = 2 ∨ r14 = 3 by omega) with z | z | z | z <;> subst z <;> first | (exfalso; omega) | exact ⟨fun h => by omega, fun h h' => by omega, fun _ _ => ⟨by first | rfl | trivial, i5, by unfold okK; simp only [rowX_0, rowX_1, rowX_2, rowX_3]; omega⟩⟩)
    | (rcases (show r14 = 0 ∨ r14 = 1 ∨ r14 = 2 ∨ r14 = 3 by omega) with z | z | z | z <;> subst z <;> first | (exfalso; omega) | exact ⟨by omega, by omega, by omega, by omega, reI_s i5 (by omega) (by unfold okK; omega) (by omega) (by simp only [rowX_0, rowX_1, rowX_2, rowX_3]) (by simp only [rowX_0, rowX_1, rowX_2, rowX_3])⟩))
def w_xo_readC_1_6 : VC := ((bT ++ [(0, 0), (0, 30), (0, 58), (0, 7), (2, 60), (0, 23), (0, 9)]), [(21, [(some 17, 0), (none, 0)], [63, 60]), (21, [(some 17, 0), (some 20, 0)], [62, 59]), (21, [(some 17, 0), (some 19, 0)], [61, 58]), (2, [(some 17, 0), (none, 9)], []), (0, [(none, 0), (none, 0)], []), (2, [(some 17, 0), (none, 8)], []), (1, [(none, 1), (none, 0)], []), (1, [(none, 1), (none, 0)], []), (3, [(none, 9), (some 20, 0)], []), (3, [(some 20, 0), (none, 0)], []), (1, [(none, 1), (none, 0)], []), (3, [(none, 23), (some 19, 0)], []), (3, [(some 19, 0), (none, 0)], []), (20, [(some 20, 0), (some 16, 1)], [41]), (0, [(some 14, 0), (none, 0)], []), (20, [(some 19, 0), (some 16, 0)], [41]), (0, [(some 14, 0), (none, 0)], []), (2, [(some 16, 1), (some 18, 0)], []), (20, [(some 18, 0), (some 14, 0)], [45]), (141, [(some 15, 0), (some 16, 0), (some 4, 0), (some 17, 0), (some 14, 0)], [45, 46, 41, 42, 43, 44, 15, 16, 58, 59])], (3, [(none, 30), (some 15, 1)], []))
set_option maxRecDepth 20000 in
theorem v_xo_readC_1_6 {PT : PTy} (hp : HP12 PT) : vcOk PT w_xo_readC_1_6 := vc_iv [(4, 0, 8), (14, 0, 0), (15, 0, 30), (16, 0, 58), (17, 0, 7), (18, 2, 60), (19, 0, 23), (20, 0, 9)] [15, 16, 41, 42, 43, 44, 45, 46, 58, 59, 60, 61, 62, 63] (by decide +kernel) (fun ρ α => by
  intro r4 g4 b4 r14 g14 b14 r15 g15 b15 r16 g16 b16 r17 g17 b17 r18 g18 b18 r19 g19 b19 r20 g20 b20 a15 h15 a16 h16 a41 h41 a42 h42 a43 h43 a44 h44 a45 h45 a46 h46 a58 h58 a59 h59 a60 h60 a61 h61 a62 h62 a63 h63 f0 f1 f2 f3 f4 f5 f6 f7 f8 f9 f10 f11 f12 f13 f14 f15 f16 f17 f18 f19 tt
  clear f3 f4 f5 f6 f7 f8 f9 f10 f11 f12 f16
  have e141 : PT 141 = P_rdXI := pe141_12 hp
  simp only [hF0, hF2, hF3, hF20, hF21, hFp_141, e141, P_rdXI, den_s, den_c, Int.add_zero, List.map_cons, List.map_nil, g4.eq, g14.eq, g15.eq, g16.eq, g17.eq, g18.eq, g19.eq, g20.eq, h15, h16, h41, h42, h43, h44, h45, h46, h58, h59, h60, h61, h62, h63] at f0 f1 f2 f13 f14 f15 f17 f18 f19 ⊢
  subst f0
  subst f1
  subst f2
  subst f13
  subst f15
  subst f18
  obtain ⟨i1, i2, i3, i4, i5⟩ := f19
  subst i1
  first
    | omega
    | (rcases (show r14 = 0 ∨ r14 = 1 ∨ r14 = 2 ∨ r14 = 3 by omega) with z | z | z | z <;> subst z <;> first | (exfalso; omega) | exact ⟨fun h => by omega, fun h h' => by omega, fun _ _ => ⟨by first | rfl | trivial, i5, by unfold okK; simp only [rowX_0, rowX_1, rowX_2, rowX_3]; omega⟩⟩)
    | (rcases (show r14 = 0 ∨ r14 = 1 ∨ r14 = 2 ∨ r14 = 3 by omega) with z | z | z | z <;> subst z <;> first | (exfalso; omega) | exact ⟨by omega, by omega, by omega, by omega, reI_s i5 (by omega) (by unfold okK; omega) (by omega) (by simp only [rowX_0, rowX_1, rowX_2, rowX_3]) (by simp only [rowX_0, rowX_1, rowX_2, rowX_3])⟩))
def w_xo_readC_1_7 : VC := ((bT ++ [(0, 0), (0, 30), (0, 58), (0, 7), (2, 60), (0, 23), (0, 9)]), [(21, [(some 17, 0), (none, 0)], [63, 60]), (21, [(some 17, 0), (some 20, 0)], [62, 59]), (21, [(some 17, 0), (some 19, 0)], [61, 58]), (2, [(some 17, 0), (none, 9)], []), (0, [(none, 0), (none, 0)], []), (2, [(some 17, 0), (none, 8)], []), (1, [(none, 1), (none, 0)], []), (1, [(none, 1), (none, 0)], []), (3, [(none, 9), (some 20, 0)], []), (3, [(some 20, 0), (none, 0)], []), (1, [(none, 1), (none, 0)], []), (3, [(none, 23), (some 19, 0)], []), (3, [(some 19, 0), (none, 0)], []), (20, [(some 20, 0), (some 16, 1)], [41]), (0, [(some 14, 0), (none, 0)], []), (20, [(some 19, 0), (some 16, 0)], [41]), (0, [(some 14, 0), (none, 0)], []), (2, [(some 16, 1), (some 18, 0)], []), (20, [(some 18, 0), (some 14, 0)], [45]), (141, [(some 15, 0), (some 16, 0), (some 4, 0), (some 17, 0), (some 14, 0)], [45, 46, 41, 42, 43, 44, 15, 16, 58, 59])], (141, [(some 15, 1), (some 16, 2), (some 4, 0), (some 17, 1), (some 14, 0)], [45, 46, 41, 42, 43, 44, 15, 16, 61, 62]))
set_option maxRecDepth 20000 in
theorem v_xo_readC_1_7 {PT : PTy} (hp : HP12 PT) : vcOk PT w_xo_readC_1_7 := vc_iv [(4, 0, 8), (14, 0, 0), (15, 0, 30), (16, 0, 58), (17, 0, 7), (18, 2, 60), (19, 0, 23), (20, 0, 9)] [15, 16, 41, 42, 43, 44, 45, 46, 58, 59, 60, 61, 62, 63] (by decide +kernel) (fun ρ α => by
  intro r4 g4 b4 r14 g14 b14 r15 g15 b15 r16 g16 b16 r17 g17 b17 r18 g18 b18 r19 g19 b19 r20 g20 b20 a15 h15 a16 h16 a41 h41 a42 h42 a43 h43 a44 h44 a45 h45 a46 h46 a58 h58 a59 h59 a60 h60 a61 h61 a62 h62 a63 h63 f0 f1 f2 f3 f4 f5 f6 f7 f8 f9 f10 f11 f12 f13 f14 f15 f16 f17 f18 f19 tt
  clear f3 f4 f5 f6 f7 f8 f9 f10 f11 f12 f16
  have e141 : PT 141 = P_rdXI := pe141_12 hp
  simp only [hF0, hF2, hF20, hF21, hFp_141, e141, P_rdXI, den_s, den_c, Int.add_zero, List.map_cons, List.map_nil, g4.eq, g14.eq, g15.eq, g16.eq, g17.eq, g18.eq, g19.eq, g20.eq, h15, h16, h41, h42, h43, h44, h45, h46, h58, h59, h60, h61, h62, h63] at f0 f1 f2 f13 f14 f15 f17 f18 f19 ⊢
  subst f0
  subst f1
  subst f2
  subst f13
  subst f15
  subst f18
  obtain ⟨i1, i2, i3, i4, i5⟩ := f19
  subst i1
  first
    | omega
    | (rcases (show r14 = 0 ∨ r14 = 1 ∨ r14 = 2 ∨ r14 = 3 by omega) with z | z | z | z <;> subst z <;> first | (exfalso; omega) | exact ⟨fun h => by omega, fun h h' => by omega, fun _ _ => ⟨by first | rfl | trivial, i5, by unfold okK; simp only [rowX_0, rowX_1, rowX_2, rowX_3]; omega⟩⟩)
    | (rcases (show r14 = 0 ∨ r14 = 1 ∨ r14 = 2 ∨ r14 = 3 by omega) with z | z | z | z <;> subst z <;> first | (exfalso; omega) | exact ⟨by omega, by omega, by omega, by omega, reI_s i5 (by omega) (by unfold okK; omega) (by omega) (by simp only [rowX_0, rowX_1, rowX_2, rowX_3]) (by simp only [rowX_0, rowX_1, rowX_2, rowX_3])⟩))
def w_xo_readC_1_8 : VC := ((bT ++ [(0, 0), (0, 30), (0, 58), (8, 8), (2, 60), (0, 23), (0, 9)]), [(1, [(none, 1), (none, 0)], []), (3, [(some 17, 0), (none, 8)], []), (1, [(none, 1), (none, 0)], []), (1, [(none, 1), (none, 0)], []), (3, [(none, 9), (some 20, 0)], []), (3, [(some 20, 0), (none, 0)], []), (1, [(none, 1), (none, 0)], []), (3, [(none, 23), (some 19, 0)], []), (3, [(some 19, 0), (none, 0)], []), (20, [(some 20, 0), (some 16, 1)], [41]), (0, [(some 14, 0), (none, 0)], []), (20, [(some 19, 0), (some 16, 0)], [41]), (0, [(some 14, 0), (none, 0)], []), (2, [(some 16, 1), (some 18, 0)], []), (20, [(some 18, 0), (some 14, 0)], [45]), (141, [(some 15, 0), (some 16, 0), (some 4, 0), (some 17, 0), (some 14, 0)], [45, 46, 41, 42, 43, 44, 15, 16, 58, 59])], (140, [(some 15, 0), (some 14, 0), (none, 0), (some 4, 0), (some 17, 0), (some 13, 0), (some 13, 0)], [45, 46, 41, 42, 43, 44, 15, 16, 58, 59]))
set_option maxRecDepth 20000 in
theorem v_xo_readC_1_8 {PT : PTy} (hp : HP12 PT) : vcOk PT w_xo_readC_1_8 := vc_iv [(4, 0, 8), (13, 0, 5), (14, 0, 0), (15, 0, 30), (16, 0, 58), (17, 8, 8), (18, 2, 60), (19, 0, 23), (20, 0, 9)] [15, 16, 41, 42, 43, 44, 45, 46, 58, 59] (by decide +kernel) (fun ρ α => by
  intro r4 g4 b4 r13 g13 b13 r14 g14 b14 r15 g15 b15 r16 g16 b16 r17 g17 b17 r18 g18 b18 r19 g19 b19 r20 g20 b20 a15 h15 a16 h16 a41 h41 a42 h42 a43 h43 a44 h44 a45 h45 a46 h46 a58 h58 a59 h59 f0 f1 f2 f3 f4 f5 f6 f7 f8 f9 f10 f11 f12 f13 f14 f15 tt
  clear f0 f1 f2 f3 f4 f5 f6 f7 f8 f12
  have e140 : PT 140 = P_rdX := pe140_12 hp
  have e141 : PT 141 = P_rdXI := pe141_12 hp
  simp only [hF0, hF2, hF20, hFp_140, hFp_141, e140, e141, P_rdX, P_rdXI, den_s, den_c, Int.add_zero, List.map_cons, List.map_nil, g4.eq, g13.eq, g14.eq, g15.eq, g16.eq, g17.eq, g18.eq, g19.eq, g20.eq, h15, h16, h41, h42, h43, h44, h45, h46, h58, h59] at f9 f10 f11 f13 f14 f15 ⊢
  subst f9
  subst f11
  subst f14
  obtain ⟨i1, i2, i3, i4, i5⟩ := f15
  subst i1
  first
    | omega
    | (rcases (show r14 = 0 ∨ r14 = 1 ∨ r14 = 2 ∨ r14 = 3 by omega) with z | z | z | z <;> subst z <;> first | (exfalso; omega) | exact ⟨fun h => by omega, fun h h' => by omega, fun _ _ => ⟨by first | rfl | trivial, i5, by unfold okK; simp only [rowX_0, rowX_1, rowX_2, rowX_3]; omega⟩⟩)
    | (rcases (show r14 = 0 ∨ r14 = 1 ∨ r14 = 2 ∨ r14 = 3 by omega) with z | z | z | z <;> subst z <;> first | (exfalso; omega) | exact ⟨by omega, by omega, by omega, by omega, reI_s i5 (by omega) (by unfold okK; omega) (by omega) (by simp only [rowX_0, rowX_1, rowX_2, rowX_3]) (by simp only [rowX_0, rowX_1, rowX_2, rowX_3])⟩))
def w_xo_readC_1_9 : VC := ((bT ++ [(1, 1), (0, 30), (0, 58), (0, 8), (2, 60), ((-2147483648), (-1)), ((-2147483648), 2147483647)]), [(0, [(none, 0), (none, 0)], []), (0, [(none, 0), (none, 0)], []), (2, [(some 19, 0), (none, 0)], []), (20, [(some 20, 0), (some 16, 1)], [42]), (0, [(some 14, 0), (none, 1)], []), (20, [(some 19, 0), (some 16, 0)], [42]), (0, [(some 14, 0), (none, 1)], []), (2, [(some 16, 1), (some 18, 0)], []), (20, [(some 18, 0), (some 14, 0)], [45]), (141, [(some 15, 0), (some 16, 0), (some 4, 0), (some 17, 0), (some 14, 0)], [45, 46, 41, 42, 43, 44, 15, 16, 58, 59])], (140, [(some 15, 0), (some 14, 0), (none, 0), (some 4, 0), (some 17, 0), (some 13, 0), (some 13, 0)], [45, 46, 41, 42, 43, 44, 15, 16, 58, 59]))
set_option maxRecDepth 20000 in
theorem v_xo_readC_1_9 {PT : PTy} (hp : HP12 PT) : vcOk PT w_xo_readC_1_9 := vc_iv [(4, 0, 8), (13, 0, 5), (14, 1, 1), (15, 0, 30), (16, 0, 58), (17, 0, 8), (18, 2, 60), (19, (-2147483648), (-1)), (20, (-2147483648), 2147483647)] [15, 16, 41, 42, 43, 44, 45, 46, 58, 59] (by decide +kernel) (fun ρ α => by
  intro r4 g4 b4 r13 g13 b13 r14 g14 b14 r15 g15 b15 r16 g16 b16 r17 g17 b17 r18 g18 b18 r19 g19 b19 r20 g20 b20 a15 h15 a16 h16 a41 h41 a42 h42 a43 h43 a44 h44 a45 h45 a46 h46 a58 h58 a59 h59 f0 f1 f2 f3 f4 f5 f6 f7 f8 f9 tt
  clear f0 f1 f2 f6
  have e140 : PT 140 = P_rdX := pe140_12 hp
  have e141 : PT 141 = P_rdXI := pe141_12 hp
  simp only [hF0, hF2, hF20, hFp_140, hFp_141, e140, e141, P_rdX, P_rdXI, den_s, den_c, Int.add_zero, List.map_cons, List.map_nil, g4.eq, g13.eq, g14.eq, g15.eq, g16.eq, g17.eq, g18.eq, g19.eq, g20.eq, h15, h16, h41, h42, h43, h44, h45, h46, h58, h59] at f3 f4 f5 f7 f8 f9 ⊢
  subst f3
  subst f5
  subst f8
  obtain ⟨i1, i2, i3, i4, i5⟩ := f9
  subst i1
  first
    | omega
    | (rcases (show r14 = 0 ∨ r14 = 1 ∨ r14 = 2 ∨ r14 = 3 by omega) with z | z | z | z <;> subst z <;> first | (exfalso; omega) | exact ⟨fun h => by omega, fun h h' => by omega, fun _ _ => ⟨by first | rfl | trivial, i5, by unfold okK; simp only [rowX_0, rowX_1, rowX_2, rowX_3]; omega⟩⟩)
    | (rcases (show r14 = 0 ∨ r14 = 1 ∨ r14 = 2 ∨ r14 = 3 by omega) with z | z | z | z <;> subst z <;> first | (exfalso; omega) | exact ⟨by omega, by omega, by omega, by omega, reI_s i5 (by omega) (by unfold okK; omega) (by omega) (by simp only [rowX_0, rowX_1, rowX_2, rowX_3]) (by simp only [rowX_0, rowX_1, rowX_2, rowX_3])⟩))
def w_xo_readC_1_10 : VC := ((bT ++ [(1, 1), (0, 30), (0, 58), (0, 8), (2, 60), (24, 2147483647), ((-2147483648), 2147483647)]), [(0, [(none, 0), (none, 0)], []), (0, [(none, 0), (none, 0)], []), (2, [(none, 23), (some 19, 0)], []), (3, [(some 19, 0), (none, 0)], []), (20, [(some 20, 0), (some 16, 1)], [42]), (0, [(some 14, 0), (none, 1)], []), (20, [(some 19, 0), (some 16, 0)], [42]), (0, [(some 14, 0), (none, 1)], []), (2, [(some 16, 1), (some 18, 0)], []), (20, [(some 18, 0), (some 14, 0)], [45]), (141, [(some 15, 0), (some 16, 0), (some 4, 0), (some 17, 0), (some 14, 0)], [45, 46, 41, 42, 43, 44, 15, 16, 58, 59])], (140, [(some 15, 0), (some 14, 0), (none, 0), (some 4, 0), (some 17, 0), (some 13, 0), (some 13, 0)], [45, 46, 41, 42, 43, 44, 15, 16, 58, 59]))
set_option maxRecDepth 20000 in
theorem v_xo_readC_1_10 {PT : PTy} (hp : HP12 PT) : vcOk PT w_xo_readC_1_10 := vc_iv [(4, 0, 8), (13, 0, 5), (14, 1, 1), (15, 0, 30), (16, 0, 58), (17, 0, 8), (18, 2, 60), (19, 24, 2147483647), (20, (-2147483648), 2147483647)] [15, 16, 41, 42, 43, 44, 45, 46, 58, 59] (by decide +kernel) (fun ρ α => by
  intro r4 g4 b4 r13 g13 b13 r14 g14 b14 r15 g15 b15 r16 g16 b16 r17 g17 b17 r18 g18 b18 r19 g19 b19 r20 g20 b20 a15 h15 a16 h16 a41 h41 a42 h42 a43 h43 a44 h44 a45 h45 a46 h46 a58 h58 a59 h59 f0 f1 f2 f3 f4 f5 f6 f7 f8 f9 f10 tt
  clear f0 f1 f2 f3 f7
  have e140 : PT 140 = P_rdX := pe140_12 hp
  have e141 : PT 141 = P_rdXI := pe141_12 hp
  simp only [hF0, hF2, hF20, hFp_140, hFp_141, e140, e141, P_rdX, P_rdXI, den_s, den_c, Int.add_zero, List.map_cons, List.map_nil, g4.eq, g13.eq, g14.eq, g15.eq, g16.eq, g17.eq, g18.eq, g19.eq, g20.eq, h15, h16, h41, h42, h43, h44, h45, h46, h58, h59] at f4 f5 f6 f8 f9 f10 ⊢
  subst f4
  subst f6
  subst f9
  obtain ⟨i1, i2, i3, i4, i5⟩ := f10
  subst i1
  first
    | omega
    | (rcases (show r14 = 0 ∨ r14 = 1 ∨ r14 = 2 ∨ r14 = 3 by omega) with z | z | z | z <;> subst z <;> first | (exfalso; omega) | exact ⟨fun h => by omega, fun h h' => by omega, fun _ _ => ⟨by first | rfl | trivial, i5, by unfold okK; simp only [rowX_0, rowX_1, rowX_2, rowX_3]; omega⟩⟩)
    | (rcases (show r14 = 0 ∨ r14 = 1 ∨ r14 = 2 ∨ r14 = 3 by omega) with z | z | z | z <;> subst z <;> first | (exfalso; omega) | exact ⟨by omega, by omega, by omega, by omega, reI_s i5 (by omega) (by unfold okK; omega) (by omega) (by simp only [rowX_0, rowX_1, rowX_2, rowX_3]) (by simp only [rowX_0, rowX_1, rowX_2, rowX_3])⟩))
def w_xo_readC_1_11 : VC := ((bT ++ [(1, 1), (0, 30), (0, 58), (0, 8), (2, 60), (0, 23), ((-2147483648), (-1))]), [(0, [(none, 0), (none, 0)], []), (0, [(none, 0), (none, 0)], []), (2, [(some 20, 0), (none, 0)], []), (1, [(none, 1), (none, 0)], []), (3, [(none, 23), (some 19, 0)], []), (3, [(some 19, 0), (none, 0)], []), (20, [(some 20, 0), (some 16, 1)], [42]), (0, [(some 14, 0), (none, 1)], []), (20, [(some 19, 0), (some 16, 0)], [42]), (0, [(some 14, 0), (none, 1)], []), (2, [(some 16, 1), (some 18, 0)], []), (20, [(some 18, 0), (some 14, 0)], [45]), (141, [(some 15, 0), (some 16, 0), (some 4, 0), (some 17, 0), (some 14, 0)], [45, 46, 41, 42, 43, 44, 15, 16, 58, 59])], (140, [(some 15, 0), (some 14, 0), (none, 0), (some 4, 0), (some 17, 0), (some 13, 0), (some 13, 0)], [45, 46, 41, 42, 43, 44, 15, 16, 58, 59]))
set_option maxRecDepth 20000 in
theorem v_xo_readC_1_11 {PT : PTy} (hp : HP12 PT) : vcOk PT w_xo_readC_1_11 := vc_iv [(4, 0, 8), (13, 0, 5), (14, 1, 1), (15, 0, 30), (16, 0, 58), (17, 0, 8), (18, 2, 60), (19, 0, 23), (20, (-2147483648), (-1))] [15, 16, 41, 42, 43, 44, 45, 46, 58, 59] (by decide +kernel) (fun ρ α => by
  intro r4 g4 b4 r13 g13 b13 r14 g14 b14 r15 g15 b15 r16 g16 b16 r17 g17 b17 r18 g18 b18 r19 g19 b19 r20 g20 b20 a15 h15 a16 h16 a41 h41 a42 h42 a43 h43 a44 h44 a45 h45 a46 h46 a58 h58 a59 h59 f0 f1 f2 f3 f4 f5 f6 f7 f8 f9 f10 f11 f12 tt
  clear f0 f1 f2 f3 f4 f5 f9
  have e140 : PT 140 = P_rdX := pe140_12 hp
  have e141 : PT 141 = P_rdXI := pe141_12 hp
  simp only [hF0, hF2, hF20, hFp_140, hFp_141, e140, e141, P_rdX, P_rdXI, den_s, den_c, Int.add_zero, List.map_cons, List.map_nil, g4.eq, g13.eq, g14.eq, g15.eq, g16.eq, g17.eq, g18.eq, g19.eq, g20.eq, h15, h16, h41, h42, h43, h44, h45, h46, h58, h59] at f6 f7 f8 f10 f11 f12 ⊢
  subst f6
  subst f8
  subst f11
  obtain ⟨i1, i2, i3, i4, i5⟩ := f12
  subst i1
  first
    | omega
    | (rcases (show r14 = 0 ∨ r14 = 1 ∨ r14 = 2 ∨ r14 = 3 by omega) with z | z | z | z <;> subst z <;> first | (exfalso; omega) | exact ⟨fun h => by omega, fun h h' => by omega, fun _ _ => ⟨by first | rfl | trivial, i5, by unfold okK; simp only [rowX_0, rowX_1, rowX_2, rowX_3]; omega⟩⟩)
    | (rcases (show r14 = 0 ∨ r14 = 1 ∨ r14 = 2 ∨ r14 = 3 by omega) with z | z | z | z <;> subst z <;> first | (exfalso; omega) | exact ⟨by omega, by omega, by omega, by omega, reI_s i5 (by omega) (by unfold okK; omega) (by omega) (by simp only [rowX_0, rowX_1, rowX_2, rowX_3]) (by simp only [rowX_0, rowX_1, rowX_2, rowX_3])⟩))
def w_xo_readC_1_12 : VC := ((bT ++ [(1, 1), (0, 30), (0, 58), (0, 8), (2, 60), (0, 23), (10, 2147483647)]), [(0, [(none, 0), (none, 0)], []), (0, [(none, 0), (none, 0)], []), (2, [(none, 9), (some 20, 0)], []), (3, [(some 20, 0), (none, 0)], []), (1, [(none, 1), (none, 0)], []), (3, [(none, 23), (some 19, 0)], []), (3, [(some 19, 0), (none, 0)], []), (20, [(some 20, 0), (some 16, 1)], [42]), (0, [(some 14, 0), (none, 1)], []), (20, [(some 19, 0), (some 16, 0)], [42]), (0, [(some 14, 0), (none, 1)], []), (2, [(some 16, 1), (some 18, 0)], []), (20, [(some 18, 0), (some 14, 0)], [45]), (141, [(some 15, 0), (some 16, 0), (some 4, 0), (some 17, 0), (some 14, 0)], [45, 46, 41, 42, 43, 44, 15, 16, 58, 59])], (140, [(some 15, 0), (some 14, 0), (none, 0), (some 4, 0), (some 17, 0), (some 13, 0), (some 13, 0)], [45, 46, 41, 42, 43, 44, 15, 16, 58, 59]))
set_option maxRecDepth 20000 in
theorem v_xo_readC_1_12 {PT : PTy} (hp : HP12 PT) : vcOk PT w_xo_readC_1_12 := vc_iv [(4, 0, 8), (13, 0, 5), (14, 1, 1), (15, 0, 30), (16, 0, 58), (17, 0, 8), (18, 2, 60), (19, 0, 23), (20, 10, 2147483647)] [15, 16, 41, 42, 43, 44, 45, 46, 58, 59] (by decide +kernel) (fun ρ α => by
  intro r4 g4 b4 r13 g13 b13 r14 g14 b14 r15 g15 b15 r16 g16 b16 r17 g17 b17 r18 g18 b18 r19 g19 b19 r20 g20 b20 a15 h15 a16 h16 a41 h41 a42 h42 a43 h43 a44 h44 a45 h45 a46 h46 a58 h58 a59 h59 f0 f1 f2 f3 f4 f5 f6 f7 f8 f9 f10 f11 f12 f13 tt
  clear f0 f1 f2 f3 f4 f5 f6 f10
  have e140 : PT 140 = P_rdX := pe140_12 hp
  have e141 : PT 141 = P_rdXI := pe141_12 hp
  simp only [hF0, hF2, hF20, hFp_140, hFp_141, e140, e141, P_rdX, P_rdXI, den_s, den_c, Int.add_zero, List.map_cons, List.map_nil, g4.eq, g13.eq, g14.eq, g15.eq, g16.eq, g17.eq, g18.eq, g19.eq, g20.eq, h15, h16, h41, h42, h43, h44, h45, h46, h58, h59] at f7 f8 f9 f11 f12 f13 ⊢
  subst f7
  subst f9
  subst f12
  obtain ⟨i1, i2, i3, i4, i5⟩ := f13
  subst i1
  first
    | omega
    | (rcases (show r14 = 0 ∨ r14 = 1 ∨ r14 = 2 ∨ r14 = 3 by omega) with z | z | z | z <;> subst z <;> first | (exfalso; omega) | exact ⟨fun h => by omega, fun h h' => by omega, fun _ _ => ⟨by first | rfl | trivial, i5, by unfold okK; simp only [rowX_0, rowX_1, rowX_2, rowX_3]; omega⟩⟩)
    | (rcases (show r14 = 0 ∨ r14 = 1 ∨ r14 = 2 ∨ r14 = 3 by omega) with z | z | z | z <;> subst z <;> first | (exfalso; omega) | exact ⟨by omega, by omega, by omega, by omega, reI_s i5 (by omega) (by unfold okK; omega) (by omega) (by simp only [rowX_0, rowX_1, rowX_2, rowX_3]) (by simp only [rowX_0, rowX_1, rowX_2, rowX_3])⟩))
def w_xo_readC_1_13 : VC := ((bT ++ [(1, 1), (0, 30), (0, 58), (0, 7), (2, 60), (0, 23), (0, 9)]), [(21, [(some 17, 0), (none, 0)], [63, 60]), (21, [(some 17, 0), (some 20, 0)], [62, 59]), (21, [(some 17, 0), (some 19, 0)], [61, 58]), (2, [(some 17, 0), (none, 9)], []), (0, [(none, 0), (none, 0)], []), (2, [(some 17, 0), (none, 8)], []), (1, [(none, 1), (none, 0)], []), (1, [(none, 1), (none, 0)], []), (3, [(none, 9), (some 20, 0)], []), (3, [(some 20, 0), (none, 0)], []), (1, [(none, 1), (none, 0)], []), (3, [(none, 23), (some 19, 0)], []), (3, [(some 19, 0), (none, 0)], []), (20, [(some 20, 0), (some 16, 1)], [42]), (0, [(some 14, 0), (none, 1)], []), (20, [(some 19, 0), (some 16, 0)], [42]), (0, [(some 14, 0), (none, 1)], []), (2, [(some 16, 1), (some 18, 0)], []), (20, [(some 18, 0), (some 14, 0)], [45]), (141, [(some 15, 0), (some 16, 0), (some 4, 0), (some 17, 0), (some 14, 0)], [45, 46, 41, 42, 43, 44, 15, 16, 58, 59])], (3, [(some 15, 1), (none, 0)], []))
set_option maxRecDepth 20000 in
theorem v_xo_readC_1_13 {PT : PTy} (hp : HP12 PT) : vcOk PT w_xo_readC_1_13 := vc_iv [(4, 0, 8), (14, 1, 1), (15, 0, 30), (16, 0, 58), (17, 0, 7), (18, 2, 60), (19, 0, 23), (20, 0, 9)] [15, 16, 41, 42, 43, 44, 45, 46, 58, 59, 60, 61, 62, 63] (by decide +kernel) (fun ρ α => by
  intro r4 g4 b4 r14 g14 b14 r15 g15 b15 r16 g16 b16 r17 g17 b17 r18 g18 b18 r19 g19 b19 r20 g20 b20 a15 h15 a16 h16 a41 h41 a42 h42 a43 h43 a44 h44 a45 h45 a46 h46 a58 h58 a59 h59 a60 h60 a61 h61 a62 h62 a63 h63 f0 f1 f2 f3 f4 f5 f6 f7 f8 f9 f10 f11 f12 f13 f14 f15 f16 f17 f18 f19 tt
  clear f3 f4 f5 f6 f7 f8 f9 f10 f11 f12 f16
  have e141 : PT 141 = P_rdXI := pe141_12 hp
  simp only [hF0, hF2, hF3, hF20, hF21, hFp_141, e141, P_rdXI, den_s, den_c, Int.add_zero, List.map_cons, List.map_nil, g4.eq, g14.eq, g15.eq, g16.eq, g17.eq, g18.eq, g19.eq, g20.eq, h15, h16, h41, h42, h43, h44, h45, h46, h58, h59, h60, h61, h62, h63] at f0 f1 f2 f13 f14 f15 f17 f18 f19 ⊢
  subst f0
  subst f1
  subst f2
  subst f13
  subst f15
  subst f18
  obtain ⟨i1, i2, i3, i4, i5⟩ := f19
  subst i1
  first
    | omega
    | (rcases (show r14 = 0 ∨ r14 = 1 ∨ r14 = 2 ∨ r14 = 3 by omega) with z | z | z | z <;> subst z <;> first | (exfalso; omega) | exact ⟨fun h => by omega, fun h h' => by omega, fun _ _ => ⟨by first | rfl | trivial, i5, by unfold okK; simp only [rowX_0, rowX_1, rowX_2, rowX_3]; omega⟩⟩)
    | (rcases (show r14 = 0 ∨ r14 = 1 ∨ r14 = 2 ∨ r14 = 3 by omega) with z | z | z | z <;> subst z <;> first | (exfalso; omega) | exact ⟨by omega, by omega, by omega, by omega, reI_s i5 (by omega) (by unfold okK; omega) (by omega) (by simp only [rowX_0, rowX_1, rowX_2, rowX_3]) (by simp only [rowX_0, rowX_1, rowX_2, rowX_3])⟩))
def w_xo_readC_1_14 : VC := ((bT ++ [(1, 1), (0, 30), (0, 58), (0, 7), (2, 60), (0, 23), (0, 9)]), [(21, [(some 17, 0), (none, 0)], [63, 60]), (21, [(some 17, 0), (some 20, 0)], [62, 59]), (21, [(some 17, 0), (some 19, 0)], [61, 58]), (2, [(some 17, 0), (none, 9)], []), (0, [(none, 0), (none, 0)], []), (2, [(some 17, 0), (none, 8)], []), (1, [(none, 1), (none, 0)], []), (1, [(none, 1), (none, 0)], []), (3, [(none, 9), (some 20, 0)], []), (3, [(some 20, 0), (none, 0)], []), (1, [(none, 1), (none, 0)], []), (3, [(none, 23), (some 19, 0)], []), (3, [(some 19, 0), (none, 0)], []), (20, [(some 20, 0), (some 16, 1)], [42]), (0, [(some 14, 0), (none, 1)], []), (20, [(some 19, 0), (some 16, 0)], [42]), (0, [(some 14, 0), (none, 1)], []), (2, [(some 16, 1), (some 18, 0)], []), (20, [(some 18, 0), (some 14, 0)], [45]), (141, [(some 15, 0), (some 16, 0), (some 4, 0), (some 17, 0), (some 14, 0)], [45, 46, 41, 42, 43, 44, 15, 16, 58, 59])], (3, [(none, 30), (some 15, 1)], []))
set_option maxRecDepth 20000 in
theorem v_xo_readC_1_14 {PT : PTy} (hp : HP12 PT) : vcOk PT w_xo_readC_1_14 := vc_iv [(4, 0, 8), (14, 1, 1), (15, 0, 30), (16, 0, 58), (17, 0, 7), (18, 2, 60), (19, 0, 23), (20, 0, 9)] [15, 16, 41, 42, 43, 44, 45, 46, 58, 59, 60, 61, 62, 63] (by decide +kernel) (fun ρ α => by
  intro r4 g4 b4 r14 g14 b14 r15 g15 b15 r16 g16 b16 r17 g17 b17 r18 g18 b18 r19 g19 b19 r20 g20 b20 a15 h15 a16 h16 a41 h41 a42 h42 a43 h43 a44 h44 a45 h45 a46 h46 a58 h58 a59 h59 a60 h60 a61 h61 a62 h62 a63 h63 f0 f1 f2 f3 f4 f5 f6 f7 f8 f9 f10 f11 f12 f13 f14 f15 f16 f17 f18 f19 tt
  clear f3 f4 f5 f6 f7 f8 f9 f10 f11 f12 f16
  have e141 : PT 141 = P_rdXI := pe141_12 hp
  simp only [hF0, hF2, hF3, hF20, hF21, hFp_141, e141, P_rdXI, den_s, den_c, Int.add_zero, List.map_cons, List.map_nil, g4.eq, g14.eq, g15.eq, g16.eq, g17.eq, g18.eq, g19.eq, g20.eq, h15, h16, h41, h42, h43, h44, h45, h46, h58, h59, h60, h61, h62, h63] at f0 f1 f2 f13 f14 f15 f17 f18 f19 ⊢
  subst f0
  subst f1
  subst f2
  subst f13
  subst f15
  subst f18
  obtain ⟨i1, i2, i3, i4, i5⟩ := f19
  subst i1
  first
    | omega
    | (rcases (show r14 = 0 ∨ r14 = 1 ∨ r14 = 2 ∨ r14 = 3 by omega) with z | z | z | z <;> subst z <;> first | (exfalso; omega) | exact ⟨fun h => by omega, fun h h' => by omega, fun _ _ => ⟨by first | rfl | trivial, i5, by unfold okK; simp only [rowX_0, rowX_1, rowX_2, rowX_3]; omega⟩⟩)
    | (rcases (show r14 = 0 ∨ r14 = 1 ∨ r14 = 2 ∨ r14 = 3 by omega) with z | z | z | z <;> subst z <;> first | (exfalso; omega) | exact ⟨by omega, by omega, by omega, by omega, reI_s i5 (by omega) (by unfold okK; omega) (by omega) (by simp only [rowX_0, rowX_1, rowX_2, rowX_3]) (by simp only [rowX_0, rowX_1, rowX_2, rowX_3])⟩))
def w_xo_readC_1_15 : VC := ((bT ++ [(1, 1), (0, 30), (0, 58), (0, 7), (2, 60), (0, 23), (0, 9)]), [(21, [(some 17, 0), (none, 0)], [63, 60]), (21, [(some 17, 0), (some 20, 0)], [62, 59]), (21, [(some 17, 0), (some 19, 0)], [61, 58]), (2, [(some 17, 0), (none, 9)], []), (0, [(none, 0), (none, 0)], []), (2, [(some 17, 0), (none, 8)], []), (1, [(none, 1), (none, 0)], []), (1, [(none, 1), (none, 0)], []), (3, [(none, 9), (some 20, 0)], []), (3, [(some 20, 0), (none, 0)], []), (1, [(none, 1), (none, 0)], []), (3, [(none, 23), (some 19, 0)], []), (3, [(some 19, 0), (none, 0)], []), (20, [(some 20, 0), (some 16, 1)], [42]), (0, [(some 14, 0), (none, 1)], []), (20, [(some 19, 0), (some 16, 0)], [42]), (0, [(some 14, 0), (none, 1)], []), (2, [(some 16, 1), (some 18, 0)], []), (20, [(some 18, 0), (some 14, 0)], [45]), (141, [(some 15, 0), (some 16, 0), (some 4, 0), (some 17, 0), (some 14, 0)], [45, 46, 41, 42, 43, 44, 15, 16, 58, 59])], (141, [(some 15, 1), (some 16, 2), (some 4, 0), (some 17, 1), (some 14, 0)], [45, 46, 41, 42, 43, 44, 15, 16, 61, 62]))
set_option maxRecDepth 20000 in
theorem v_xo_readC_1_15 {PT : PTy} (hp : HP12 PT) : vcOk PT w_xo_readC_1_15 := vc_iv [(4, 0, 8), (14, 1, 1), (15, 0, 30), (16, 0, 58), (17, 0, 7), (18, 2, 60), (19, 0, 23), (20, 0, 9)] [15, 16, 41, 42, 43, 44, 45, 46, 58, 59, 60, 61, 62, 63] (by decide +kernel) (fun ρ α => by
  intro r4 g4 b4 r14 g14 b14 r15 g15 b15 r16 g16 b16 r17 g17 b17 r18 g18 b18 r19 g19 b19 r20 g20 b20 a15 h15 a16 h16 a41 h41 a42 h42 a43 h43 a44 h44 a45 h45 a46 h46 a58 h58 a59 h59 a60 h60 a61 h61 a62 h62 a63 h63 f0 f1 f2 f3 f4 f5 f6 f7 f8 f9 f10 f11 f12 f13 f14 f15 f16 f17 f18 f19 tt
  clear f3 f4 f5 f6 f7 f8 f9 f10 f11 f12 f16
  have e141 : PT 141 = P_rdXI := pe141_12 hp
  simp only [hF0, hF2, hF20, hF21, hFp_141, e141, P_rdXI, den_s, den_c, Int.add_zero, List.map_cons, List.map_nil, g4.eq, g14.eq, g15.eq, g16.eq, g17.eq, g18.eq, g19.eq, g20.eq, h15, h16, h41, h42, h43, h44, h45, h46, h58, h59, h60, h61, h62, h63] at f0 f1 f2 f13 f14 f15 f17 f18 f19 ⊢
  subst f0
  subst f1
  subst f2
  subst f13
  subst f15
  subst f18
  obtain ⟨i1, i2, i3, i4, i5⟩ := f19
  subst i1
  first
    | omega
    | (rcases (show r14 = 0 ∨ r14 = 1 ∨ r14 = 2 ∨ r14 = 3 by omega) with z | z | z | z <;> subst z <;> first | (exfalso; omega) | exact ⟨fun h => by omega, fun h h' => by omega, fun _ _ => ⟨by first | rfl | trivial, i5, by unfold okK; simp only [rowX_0, rowX_1, rowX_2, rowX_3]; omega⟩⟩)
    | (rcases (show r14 = 0 ∨ r14 = 1 ∨ r14 = 2 ∨ r14 = 3 by omega) with z | z | z | z <;> subst z <;> first | (exfalso; omega) | exact ⟨by omega, by omega, by omega, by omega, reI_s i5 (by omega) (by unfold okK; omega) (by omega) (by simp only [rowX_0, rowX_1, rowX_2, rowX_3]) (by simp only [rowX_0, rowX_1, rowX_2, rowX_3])⟩))
def w_xo_readC_1_16 : VC := ((bT ++ [(1, 1), (0, 30), (0, 58), (8, 8), (2, 60), (0, 23), (0, 9)]), [(1, [(none, 1), (none, 0)], []), (3, [(some 17, 0), (none, 8)], []), (1, [(none, 1), (none, 0)], []), (1, [(none, 1), (none, 0)], []), (3, [(none, 9), (some 20, 0)], []), (3, [(some 20, 0), (none, 0)], []), (1, [(none, 1), (none, 0)], []), (3, [(none, 23), (some 19, 0)], []), (3, [(some 19, 0), (none, 0)], []), (20, [(some 20, 0), (some 16, 1)], [42]), (0, [(some 14, 0), (none, 1)], []), (20, [(some 19, 0), (some 16, 0)], [42]), (0, [(some 14, 0), (none, 1)], []), (2, [(some 16, 1), (some 18, 0)], []), (20, [(some 18, 0), (some 14, 0)], [45]), (141, [(some 15, 0), (some 16, 0), (some 4, 0), (some 17, 0), (some 14, 0)], [45, 46, 41, 42, 43, 44, 15, 16, 58, 59])], (140, [(some 15, 0), (some 14, 0), (none, 0), (some 4, 0), (some 17, 0), (some 13, 0), (some 13, 0)], [45, 46, 41, 42, 43, 44, 15, 16, 58, 59]))
set_option maxRecDepth 20000 in
theorem v_xo_readC_1_16 {PT : PTy} (hp : HP12 PT) : vcOk PT w_xo_readC_1_16 := vc_iv [(4, 0, 8), (13, 0, 5), (14, 1, 1), (15, 0, 30), (16, 0, 58), (17, 8, 8), (18, 2, 60), (19, 0, 23), (20, 0, 9)] [15, 16, 41, 42, 43, 44, 45, 46, 58, 59] (by decide +kernel) (fun ρ α => by
  intro r4 g4 b4 r13 g13 b13 r14 g14 b14 r15 g15 b15 r16 g16 b16 r17 g17 b17 r18 g18 b18 r19 g19 b19 r20 g20 b20 a15 h15 a16 h16 a41 h41 a42 h42 a43 h43 a44 h44 a45 h45 a46 h46 a58 h58 a59 h59 f0 f1 f2 f3 f4 f5 f6 f7 f8 f9 f10 f11 f12 f13 f14 f15 tt
  clear f0 f1 f2 f3 f4 f5 f6 f7 f8 f12
  have e140 : PT 140 = P_rdX := pe140_12 hp
  have e141 : PT 141 = P_rdXI := pe141_12 hp
  simp only [hF0, hF2, hF20, hFp_140, hFp_141, e140, e141, P_rdX, P_rdXI, den_s, den_c, Int.add_zero, List.map_cons, List.map_nil, g4.eq, g13.eq, g14.eq, g15.eq, g16.eq, g17.eq, g18.eq, g19.eq, g20.eq, h15, h16, h41, h42, h43, h44, h45, h46, h58, h59] at f9 f10 f11 f13 f14 f15 ⊢
  subst f9
  subst f11
  subst f14
  obtain ⟨i1, i2, i3, i4, i5⟩ := f15
  subst i1
  first
    | omega
    | (rcases (show r14 = 0 ∨ r14 = 1 ∨ r14 = 2 ∨ r14 = 3 by omega) with z | z | z | z <;> subst z <;> first | (exfalso; omega) | exact ⟨fun h => by omega, fun h h' => by omega, fun _ _ => ⟨by first | rfl | trivial, i5, by unfold okK; simp only [rowX_0, rowX_1, rowX_2, rowX_3]; omega⟩⟩)
    | (rcases (show r14 = 0 ∨ r14 = 1 ∨ r14 = 2 ∨ r14 = 3 by omega) with z | z | z | z <;> subst z <;> first | (exfalso; omega) | exact ⟨by omega, by omega, by omega, by omega, reI_s i5 (by omega) (by unfold okK; omega) (by omega) (by simp only [rowX_0, rowX_1, rowX_2, rowX_3]) (by simp only [rowX_0, rowX_1, rowX_2, rowX_3])⟩))
def w_xo_readC_1_17 : VC := ((bT ++ [(2, 2), (0, 30), (0, 58), (0, 8), (2, 60), ((-2147483648), (-1)), ((-2147483648), 2147483647)]), [(0, [(none, 0), (none, 0)], []), (0, [(none, 0), (none, 0)], []), (2, [(some 19, 0), (none, 0)], []), (20, [(some 20, 0), (some 16, 1)], [43]), (0, [(some 14, 0), (none, 2)], []), (20, [(some 19, 0), (some 16, 0)], [43]), (0, [(some 14, 0), (none, 2)], []), (2, [(some 16, 1), (some 18, 0)], []), (20, [(some 18, 0), (some 14, 0)], [45]), (141, [(some 15, 0), (some 16, 0), (some 4, 0), (some 17, 0), (some 14, 0)], [45, 46, 41, 42, 43, 44, 15, 16, 58, 59])], (140, [(some 15, 0), (some 14, 0), (none, 0), (some 4, 0), (some 17, 0), (some 13, 0), (some 13, 0)], [45, 46, 41, 42, 43, 44, 15, 16, 58, 59]))
set_option maxRecDepth 20000 in
theorem v_xo_readC_1_17 {PT : PTy} (hp : HP12 PT) : vcOk PT w_xo_readC_1_17 := vc_iv [(4, 0, 8), (13, 0, 5), (14, 2, 2), (15, 0, 30), (16, 0, 58), (17, 0, 8), (18, 2, 60), (19, (-2147483648), (-1)), (20, (-2147483648), 2147483647)] [15, 16, 41, 42, 43, 44, 45, 46, 58, 59] (by decide +kernel) (fun ρ α => by
  intro r4 g4 b4 r13 g13 b13 r14 g14 b14 r15 g15 b15 r16 g16 b16 r17 g17 b17 r18 g18 b18 r19 g19 b19 r20 g20 b20 a15 h15 a16 h16 a41 h41 a42 h42 a43 h43 a44 h44 a45 h45 a46 h46 a58 h58 a59 h59 f0 f1 f2 f3 f4 f5 f6 f7 f8 f9 tt
  clear f0 f1 f2 f6
  have e140 : PT 140 = P_rdX := pe140_12 hp
  have e141 : PT 141 = P_rdXI := pe141_12 hp
  simp only [hF0, hF2, hF20, hFp_140, hFp_141, e140, e141, P_rdX, P_rdXI, den_s, den_c, Int.add_zero, List.map_cons, List.map_nil, g4.eq, g13.eq, g14.eq, g15.eq, g16.eq, g17.eq, g18.eq, g19.eq, g20.eq, h15, h16, h41, h42, h43, h44, h45, h46, h58, h59] at f3 f4 f5 f7 f8 f9 ⊢
  subst f3
  subst f5
  subst f8
  obtain ⟨i1, i2, i3, i4, i5⟩ := f9
  subst i1
  first
    | omega
    | (rcases (show r14 = 0 ∨ r14 = 1 ∨ r14 = 2 ∨ r14 = 3 by omega) with z | z | z | z <;> subst z <;> first | (exfalso; omega) | exact ⟨fun h => by omega, fun h h' => by omega, fun _ _ => ⟨by first | rfl | trivial, i5, by unfold okK; simp only [rowX_0, rowX_1, rowX_2, rowX_3]; omega⟩⟩)
    | (rcases (show r14 = 0 ∨ r14 = 1 ∨ r14 = 2 ∨ r14 = 3 by omega) with z | z | z | z <;> subst z <;> first | (exfalso; omega) | exact ⟨by omega, by omega, by omega, by omega, reI_s i5 (by omega) (by unfold okK; omega) (by omega) (by simp only [rowX_0, rowX_1, rowX_2, rowX_3]) (by simp only [rowX_0, rowX_1, rowX_2, rowX_3])⟩))
def w_xo_readC_1_18 : VC := ((bT ++ [(2, 2), (0, 30), (0, 58), (0, 8), (2, 60), (24, 2147483647), ((-2147483648), 2147483647)]), [(0, [(none, 0), (none, 0)], []), (0, [(none, 0), (none, 0)], []), (2, [(none, 23), (some 19, 0)], []), (3, [(some 19, 0), (none, 0)], []), (20, [(some 20, 0), (some 16, 1)], [43]), (0, [(some 14, 0), (none, 2)], []), (20, [(some 19, 0), (some 16, 0)], [43]), (0, [(some 14, 0), (none, 2)], []), (2, [(some 16, 1), (some 18, 0)], []), (20, [(some 18, 0), (some 14, 0)], [45]), (141, [(some 15, 0), (some 16, 0), (some 4, 0), (some 17, 0), (some 14, 0)], [45, 46, 41, 42, 43, 44, 15, 16, 58, 59])], (140, [(some 15, 0), (some 14, 0), (none, 0), (some 4, 0), (some 17, 0), (some 13, 0), (some 13, 0)], [45, 46, 41, 42, 43, 44, 15, 16, 58, 59]))
set_option maxRecDepth 20000 in
theorem v_xo_readC_1_18 {PT : PTy} (hp : HP12 PT) : vcOk PT w_xo_readC_1_18 := vc_iv [(4, 0, 8), (13, 0, 5), (14, 2, 2), (15, 0, 30), (16, 0, 58), (17, 0, 8), (18, 2, 60), (19, 24, 2147483647), (20, (-2147483648), 2147483647)] [15, 16, 41, 42, 43, 44, 45, 46, 58, 59] (by decide +kernel) (fun ρ α => by
  intro r4 g4 b4 r13 g13 b13 r14 g14 b14 r15 g15 b15 r16 g16 b16 r17 g17 b17 r18 g18 b18 r19 g19 b19 r20 g20 b20 a15 h15 a16 h16 a41 h41 a42 h42 a43 h43 a44 h44 a45 h45 a46 h46 a58 h58 a59 h59 f0 f1 f2 f3 f4 f5 f6 f7 f8 f9 f10 tt
  clear f0 f1 f2 f3 f7
  have e140 : PT 140 = P_rdX := pe140_12 hp
  have e141 : PT 141 = P_rdXI := pe141_12 hp
  simp only [hF0, hF2, hF20, hFp_140, hFp_141, e140, e141, P_rdX, P_rdXI, den_s, den_c, Int.add_zero, List.map_cons, List.map_nil, g4.eq, g13.eq, g14.eq, g15.eq, g16.eq, g17.eq, g18.eq, g19.eq, g20.eq, h15, h16, h41, h42, h43, h44, h45, h46, h58, h59] at f4 f5 f6 f8 f9 f10 ⊢
  subst f4
  subst f6
  subst f9
  obtain ⟨i1, i2, i3, i4, i5⟩ := f10
  subst i1
  first
    | omega
    | (rcases (show r14 = 0 ∨ r14 = 1 ∨ r14 = 2 ∨ r14 = 3 by omega) with z | z | z | z <;> subst z <;> first | (exfalso; omega) | exact ⟨fun h => by omega, fun h h' => by omega, fun _ _ => ⟨by first | rfl | trivial, i5, by unfold okK; simp only [rowX_0, rowX_1, rowX_2, rowX_3]; omega⟩⟩)
    | (rcases (show r14 = 0 ∨ r14 = 1 ∨ r14 = 2 ∨ r14 = 3 by omega) with z | z | z | z <;> subst z <;> first | (exfalso; omega) | exact ⟨by omega, by omega, by omega, by omega, reI_s i5 (by omega) (by unfold okK; omega) (by omega) (by simp only [rowX_0, rowX_1, rowX_2, rowX_3]) (by simp only [rowX_0, rowX_1, rowX_2, rowX_3])⟩))
def w_xo_readC_1_19 : VC := ((bT ++ [(2, 2), (0, 30), (0, 58), (0, 8), (2, 60), (0, 23), ((-2147483648), (-1))]), [(0, [(none, 0), (none, 0)], []), (0, [(none, 0), (none, 0)], []), (2, [(some 20, 0), (none, 0)], []), (1, [(none, 1), (none, 0)], []), (3, [(none, 23), (some 19, 0)], []), (3, [(some 19, 0), (none, 0)], []), (20, [(some 20, 0), (some 16, 1)], [43]), (0, [(some 14, 0), (none, 2)], []), (20, [(some 19, 0), (some 16, 0)], [43]), (0, [(some 14, 0), (none, 2)], []), (2, [(some 16, 1), (some 18, 0)], []), (20, [(some 18, 0), (some 14, 0)], [45]), (141, [(some 15, 0), (some 16, 0), (some 4, 0), (some 17, 0), (some 14, 0)], [45, 46, 41, 42, 43, 44, 15, 16, 58, 59])], (140, [(some 15, 0), (some 14, 0), (none, 0), (some 4, 0), (some 17, 0), (some 13, 0), (some 13, 0)], [45, 46, 41, 42, 43, 44, 15, 16, 58, 59]))
set_option maxRecDepth 20000 in
theorem v_xo_readC_1_19 {PT : PTy} (hp : HP12 PT) : vcOk PT w_xo_readC_1_19 := vc_iv [(4, 0, 8), (13, 0, 5), (14, 2, 2), (15, 0, 30), (16, 0, 58), (17, 0, 8), (18, 2, 60), (19, 0, 23), (20, (-2147483648), (-1))] [15, 16, 41, 42, 43, 44, 45, 46, 58, 59] (by decide +kernel) (fun ρ α => by
  intro r4 g4 b4 r13 g13 b13 r14 g14 b14 r15 g15 b15 r16 g16 b16 r17 g17 b17 r18 g18 b18 r19 g19 b19 r20 g20 b20 a15 h15 a16 h16 a41 h41 a42 h42 a43 h43 a44 h44 a45 h45 a46 h46 a58 h58 a59 h59 f0 f1 f2 f3 f4 f5 f6 f7 f8 f9 f10 f11 f12 tt
  clear f0 f1 f2 f3 f4 f5 f9
  have e140 : PT 140 = P_rdX := pe140_12 hp
  have e141 : PT 141 = P_rdXI := pe141_12 hp
  simp only [hF0, hF2, hF20, hFp_140, hFp_141, e140, e141, P_rdX, P_rdXI, den_s, den_c, Int.add_zero, List.map_cons, List.map_nil, g4.eq, g13.eq, g14.eq, g15.eq, g16.eq, g17.eq, g18.eq, g19.eq, g20.eq, h15, h16, h41, h42, h43, h44, h45, h46, h58, h59] at f6 f7 f8 f10 f11 f12 ⊢
  subst f6
  subst f8
  subst f11
  obtain ⟨i1, i2, i3, i4, i5⟩ := f12
  subst i1
  first
    | omega
    | (rcases (show r14 = 0 ∨ r14 = 1 ∨ r14 = 2 ∨ r14 = 3 by omega) with z | z | z | z <;> subst z <;> first | (exfalso; omega) | exact ⟨fun h => by omega, fun h h' => by omega, fun _ _ => ⟨by first | rfl | trivial, i5, by unfold okK; simp only [rowX_0, rowX_1, rowX_2, rowX_3]; omega⟩⟩)
    | (rcases (show r14 = 0 ∨ r14 = 1 ∨ r14 = 2 ∨ r14 = 3 by omega) with z | z | z | z <;> subst z <;> first | (exfalso; omega) | exact ⟨by omega, by omega, by omega, by omega, reI_s i5 (by omega) (by unfold okK; omega) (by omega) (by simp only [rowX_0, rowX_1, rowX_2, rowX_3]) (by simp only [rowX_0, rowX_1, rowX_2, rowX_3])⟩))
def w_xo_readC_1_20 : VC := ((bT ++ [(2, 2), (0, 30), (0, 58), (0, 8), (2, 60), (0, 23), (10, 2147483647)]), [(0, [(none, 0), (none, 0)], []), (0, [(none, 0), (none, 0)], []), (2, [(none, 9), (some 20, 0)], []), (3, [(some 20, 0), (none, 0)], []), (1, [(none, 1), (none, 0)], []), (3, [(none, 23), (some 19, 0)], []), (3, [(some 19, 0), (none, 0)], []), (20, [(some 20, 0), (some 16, 1)], [43]), (0, [(some 14, 0), (none, 2)], []), (20, [(some 19, 0), (some 16, 0)], [43]), (0, [(some 14, 0), (none, 2)], []), (2, [(some 16, 1), (some 18, 0)], []), (20, [(some 18, 0), (some 14, 0)], [45]), (141, [(some 15, 0), (some 16, 0), (some 4, 0), (some 17, 0), (some 14, 0)], [45, 46, 41, 42, 43, 44, 15, 16, 58, 59])], (140, [(some 15, 0), (some 14, 0), (none, 0), (some 4, 0), (some 17, 0), (some 13, 0), (some 13, 0)], [45, 46, 41, 42, 43, 44, 15, 16, 58, 59]))
set_option maxRecDepth 20000 in
theorem v_xo_readC_1_20 {PT : PTy} (hp : HP12 PT) : vcOk PT w_xo_readC_1_20 := vc_iv [(4, 0, 8), (13, 0, 5), (14, 2, 2), (15, 0, 30), (16, 0, 58), (17, 0, 8), (18, 2, 60), (19, 0, 23), (20, 10, 2147483647)] [15, 16, 41, 42, 43, 44, 45, 46, 58, 59] (by decide +kernel) (fun ρ α => by
  intro r4 g4 b4 r13 g13 b13 r14 g14 b14 r15 g15 b15 r16 g16 b16 r17 g17 b17 r18 g18 b18 r19 g19 b19 r20 g20 b20 a15 h15 a16 h16 a41 h41 a42 h42 a43 h43 a44 h44 a45 h45 a46 h46 a58 h58 a59 h59 f0 f1 f2 f3 f4 f5 f6 f7 f8 f9 f10 f11 f12 f13 tt
  clear f0 f1 f2 f3 f4 f5 f6 f10
  have e140 : PT 140 = P_rdX := pe140_12 hp
  have e141 : PT 141 = P_rdXI := pe141_12 hp
  simp only [hF0, hF2, hF20, hFp_140, hFp_141, e140, e141, P_rdX, P_rdXI, den_s, den_c, Int.add_zero, List.map_cons, List.map_nil, g4.eq, g13.eq, g14.eq, g15.eq, g16.eq, g17.eq, g18.eq, g19.eq, g20.eq, h15, h16, h41, h42, h43, h44, h45, h46, h58, h59] at f7 f8 f9 f11 f12 f13 ⊢
  subst f7
  subst f9
  subst f12
  obtain ⟨i1, i2, i3, i4, i5⟩ := f13
  subst i1
  first
    | omega
    | (rcases (show r14 = 0 ∨ r14 = 1 ∨ r14 = 2 ∨ r14 = 3 by omega) with z | z | z | z <;> subst z <;> first | (exfalso; omega) | exact ⟨fun h => by omega, fun h h' => by omega, fun _ _ => ⟨by first | rfl | trivial, i5, by unfold okK; simp only [rowX_0, rowX_1, rowX_2, rowX_3]; omega⟩⟩)
    | (rcases (show r14 = 0 ∨ r14 = 1 ∨ r14 = 2 ∨ r14 = 3 by omega) with z | z | z | z <;> subst z <;> first | (exfalso; omega) | exact ⟨by omega, by omega, by omega, by omega, reI_s i5 (by omega) (by unfold okK; omega) (by omega) (by simp only [rowX_0, rowX_1, rowX_2, rowX_3]) (by simp only [rowX_0, rowX_1, rowX_2, rowX_3])⟩))
def w_xo_readC_1_21 : VC := ((bT ++ [(2, 2), (0, 30), (0, 58), (0, 7), (2, 60), (0, 23), (0, 9)]), [(21, [(some 17, 0), (none, 0)], [63, 60]), (21, [(some 17, 0), (some 20, 0)], [62, 59]), (21, [(some 17, 0), (some 19, 0)], [61, 58]), (2, [(some 17, 0), (none, 9)], []), (0, [(none, 0), (none, 0)], []), (2, [(some 17, 0), (none, 8)], []), (1, [(none, 1), (none, 0)], []), (1, [(none, 1), (none, 0)], []), (3, [(none, 9), (some 20, 0)], []), (3, [(some 20, 0), (none, 0)], []), (1, [(none, 1), (none, 0)], []), (3, [(none, 23), (some 19, 0)], []), (3, [(some 19, 0), (none, 0)], []), (20, [(some 20, 0), (some 16, 1)], [43]), (0, [(some 14, 0), (none, 2)], []), (20, [(some 19, 0), (some 16, 0)], [43]), (0, [(some 14, 0), (none, 2)], []), (2, [(some 16, 1), (some 18, 0)], []), (20, [(some 18, 0), (some 14, 0)], [45]), (141, [(some 15, 0), (some 16, 0), (some 4, 0), (some 17, 0), (some 14, 0)], [45, 46, 41, 42, 43, 44, 15, 16, 58, 59])], (3, [(some 15, 1), (none, 0)], []))
set_option maxRecDepth 20000 in
theorem v_xo_readC_1_21 {PT : PTy} (hp : HP12 PT) : vcOk PT w_xo_readC_1_21 := vc_iv [(4, 0, 8), (14, 2, 2), (15, 0, 30), (16, 0, 58), (17, 0, 7), (18, 2, 60), (19, 0, 23), (20, 0, 9)] [15, 16, 41, 42, 43, 44, 45, 46, 58, 59, 60, 61, 62, 63] (by decide +kernel) (fun ρ α => by
  intro r4 g4 b4 r14 g14 b14 r15 g15 b15 r16 g16 b16 r17 g17 b17 r18 g18 b18 r19 g19 b19 r20 g20 b20 a15 h15 a16 h16 a41 h41 a42 h42 a43 h43 a44 h44 a45 h45 a46 h46 a58 h58 a59 h59 a60 h60 a61 h61 a62 h62 a63 h63 f0 f1 f2 f3 f4 f5 f6 f7 f8 f9 f10 f11 f12 f13 f14 f15 f16 f17 f18 f19 tt
  clear f3 f4 f5 f6 f7 f8 f9 f10 f11 f12 f16
  have e141 : PT 141 = P_rdXI := pe141_12 hp
  simp only [hF0, hF2, hF3, hF20, hF21, hFp_141, e141, P_rdXI, den_s, den_c, Int.add_zero, List.map_cons, List.map_nil, g4.eq, g14.eq, g15.eq, g16.eq, g17.eq, g18.eq, g19.eq, g20.eq, h15, h16, h41, h42, h43, h44, h45, h46, h58, h59, h60, h61, h62, h63] at f0 f1 f2 f13 f14 f15 f17 f18 f19 ⊢
  subst f0
  subst f1
  subst f2
  subst f13
  subst f15
  subst f18
  obtain ⟨i1, i2, i3, i4, i5⟩ := f19
  subst i1
  first
    | omega
    | (rcases (show r14 = 0 ∨ r14 = 1 ∨ r14 = 2 ∨ r14 = 3 by omega) with z | z | z | z <;> subst z <;> first | (exfalso; omega) | exact ⟨fun h => by omega, fun h h' => by omega, fun _ _ => ⟨by first | rfl | trivial, i5, by unfold okK; simp only [rowX_0, rowX_1, rowX_2, rowX_3]; omega⟩⟩)
    | (rcases (show r14 = 0 ∨ r14 = 1 ∨ r14 = 2 ∨ r14 = 3 by omega) with z | z | z | z <;> subst z <;> first | (exfalso; omega) | exact ⟨by omega, by omega, by omega, by omega, reI_s i5 (by omega) (by unfold okK; omega) (by omega) (by simp only [rowX_0, rowX_1, rowX_2, rowX_3]) (by simp only [rowX_0, rowX_1, rowX_2, rowX_3])⟩))
def w_xo_readC_1_22 : VC := ((bT ++ [(2, 2), (0, 30), (0, 58), (0, 7), (2, 60), (0, 23), (0, 9)]), [(21, [(some 17, 0), (none, 0)], [63, 60]), (21, [(some 17, 0), (some 20, 0)], [62, 59]), (21, [(some 17, 0), (some 19, 0)], [61, 58]), (2, [(some 17, 0), (none, 9)], []), (0, [(none, 0), (none, 0)], []), (2, [(some 17, 0), (none, 8)], []), (1, [(none, 1), (none, 0)], []), (1, [(none, 1), (none, 0)], []), (3, [(none, 9), (some 20, 0)], []), (3, [(some 20, 0), (none, 0)], []), (1, [(none, 1), (none, 0)], []), (3, [(none, 23), (some 19, 0)], []), (3, [(some 19, 0), (none, 0)], []), (20, [(some 20, 0), (some 16, 1)], [43]), (0, [(some 14, 0), (none, 2)], []), (20, [(some 19, 0), (some 16, 0)], [43]), (0, [(some 14, 0), (none, 2)], []), (2, [(some 16, 1), (some 18, 0)], []), (20, [(some 18, 0), (some 14, 0)], [45]), (141, [(some 15, 0), (some 16, 0), (some 4, 0), (some 17, 0), (some 14, 0)], [45, 46, 41, 42, 43, 44, 15, 16, 58, 59])], (3, [(none, 30), (some 15, 1)], []))
set_option maxRecDepth 20000 in
theorem v_xo_readC_1_22 {PT : PTy} (hp : HP12 PT) : vcOk PT w_xo_readC_1_22 := vc_iv [(4, 0, 8), (14, 2, 2), (15, 0, 30), (16, 0, 58), (17, 0, 7), (18, 2, 60), (19, 0, 23), (20, 0, 9)] [15, 16, 41, 42, 43, 44, 45, 46, 58, 59, 60, 61, 62, 63] (by decide +kernel) (fun ρ α => by
  intro r4 g4 b4 r14 g14 b14 r15 g15 b15 r16 g16 b16 r17 g17 b17 r18 g18 b18 r19 g19 b19 r20 g20 b20 a15 h15 a16 h16 a41 h41 a42 h42 a43 h43 a44 h44 a45 h45 a46 h46 a58 h58 a59 h59 a60 h60 a61 h61 a62 h62 a63 h63 f0 f1 f2 f3 f4 f5 f6 f7 f8 f9 f10 f11 f12 f13 f14 f15 f16 f17 f18 f19 tt
  clear f3 f4 f5 f6 f7 f8 f9 f10 f11 f12 f16
  have e141 : PT 141 = P_rdXI := pe141_12 hp
  simp only [hF0, hF2, hF3, hF20, hF21, hFp_141, e141, P_rdXI, den_s, den_c, Int.add_zero, List.map_cons, List.map_nil, g4.eq, g14.eq, g15.eq, g16.eq, g17.eq, g18.eq, g19.eq, g20.eq, h15, h16, h41, h42, h43, h44, h45, h46, h58, h59, h60, h61, h62, h63] at f0 f1 f2 f13 f14 f15 f17 f18 f19 ⊢
  subst f0
  subst f1
  subst f2
  subst f13
  subst f15
  subst f18
  obtain ⟨i1, i2, i3, i4, i5⟩ := f19
  subst i1
  first
    | omega
    | (rcases (show r14 = 0 ∨ r14 = 1 ∨ r14 = 2 ∨ r14 = 3 by omega) with z | z | z | z <;> subst z <;> first | (exfalso; omega) | exact ⟨fun h => by omega, fun h h' => by omega, fun _ _ => ⟨by first | rfl | trivial, i5, by unfold okK; simp only [rowX_0, rowX_1, rowX_2, rowX_3]; omega⟩⟩)
    | (rcases (show r14 = 0 ∨ r14 = 1 ∨ r14 = 2 ∨ r14 = 3 by omega) with z | z | z | z <;> subst z <;> first | (exfalso; omega) | exact ⟨by omega, by omega, by omega, by omega, reI_s i5 (by omega) (by unfold okK; omega) (by omega) (by simp only [rowX_0, rowX_1, rowX_2, rowX_3]) (by simp only [rowX_0, rowX_1, rowX_2, rowX_3])⟩))
def w_xo_readC_1_23 : VC := ((bT ++ [(2, 2), (0, 30), (0, 58), (0, 7), (2, 60), (0, 23), (0, 9)]), [(21, [(some 17, 0), (none, 0)], [63, 60]), (21, [(some 17, 0), (some 20, 0)], [62, 59]), (21, [(some 17, 0), (some 19, 0)], [61, 58]), (2, [(some 17, 0), (none, 9)], []), (0, [(none, 0), (none, 0)], []), (2, [(some 17, 0), (none, 8)], []), (1, [(none, 1), (none, 0)], []), (1, [(none, 1), (none, 0)], []), (3, [(none, 9), (some 20, 0)], []), (3, [(some 20, 0), (none, 0)], []), (1, [(none, 1), (none, 0)], []), (3, [(none, 23), (some 19, 0)], []), (3, [(some 19, 0), (none, 0)], []), (20, [(some 20, 0), (some 16, 1)], [43]), (0, [(some 14, 0), (none, 2)], []), (20, [(some 19, 0), (some 16, 0)], [43]), (0, [(some 14, 0), (none, 2)], []), (2, [(some 16, 1), (some 18, 0)], []), (20, [(some 18, 0), (some 14, 0)], [45]), (141, [(some 15, 0), (some 16, 0), (some 4, 0), (some 17, 0), (some 14, 0)], [45, 46, 41, 42, 43, 44, 15, 16, 58, 59])], (141, [(some 15, 1), (some 16, 2), (some 4, 0), (some 17, 1), (some 14, 0)], [45, 46, 41, 42, 43, 44, 15, 16, 61, 62]))
set_option maxRecDepth 20000 in
theorem v_xo_readC_1_23 {PT : PTy} (hp : HP12 PT) : vcOk PT w_xo_readC_1_23 := vc_iv [(4, 0, 8), (14, 2, 2), (15, 0, 30), (16, 0, 58), (17, 0, 7), (18, 2, 60), (19, 0, 23), (20, 0, 9)] [15, 16, 41, 42, 43, 44, 45, 46, 58, 59, 60, 61, 62, 63] (by decide +kernel) (fun ρ α => by
  intro r4 g4 b4 r14 g14 b14 r15 g15 b15 r16 g16 b16 r17 g17 b17 r18 g18 b18 r19 g19 b19 r20 g20 b20 a15 h15 a16 h16 a41 h41 a42 h42 a43 h43 a44 h44 a45 h45 a46 h46 a58 h58 a59 h59 a60 h60 a61 h61 a62 h62 a63 h63 f0 f1 f2 f3 f4 f5 f6 f7 f8 f9 f10 f11 f12 f13 f14 f15 f16 f17 f18 f19 tt
  clear f3 f4 f5 f6 f7 f8 f9 f10 f11 f12 f16
  have e141 : PT 141 = P_rdXI := pe141_12 hp
  simp only [hF0, hF2, hF20, hF21, hFp_141, e141, P_rdXI, den_s, den_c, Int.add_zero, List.map_cons, List.map_nil, g4.eq, g14.eq, g15.eq, g16.eq, g17.eq, g18.eq, g19.eq, g20.eq, h15, h16, h41, h42, h43, h44, h45, h46, h58, h59, h60, h61, h62, h63] at f0 f1 f2 f13 f14 f15 f17 f18 f19 ⊢
  subst f0
  subst f1
  subst f2
  subst f13
  subst f15
  subst f18
  obtain ⟨i1, i2, i3, i4, i5⟩ := f19
  subst i1
  first
    | omega
    | (rcases (show r14 = 0 ∨ r14 = 1 ∨ r14 = 2 ∨ r14 = 3 by omega) with z | z | z | z <;> subst z <;> first | (exfalso; omega) | exact ⟨fun h => by omega, fun h h' => by omega, fun _ _ => ⟨by first | rfl | trivial, i5, by unfold okK; simp only [rowX_0, rowX_1, rowX_2, rowX_3]; omega⟩⟩)
    | (rcases (show r14 = 0 ∨ r14 = 1 ∨ r14 = 2 ∨ r14 = 3 by omega) with z | z | z | z <;> subst z <;> first | (exfalso; omega) | exact ⟨by omega, by omega, by omega, by omega, reI_s i5 (by omega) (by unfold okK; omega) (by omega) (by simp only [rowX_0, rowX_1, rowX_2, rowX_3]) (by simp only [rowX_0, rowX_1, rowX_2, rowX_3])⟩))
def w_xo_readC_1_24 : VC := ((bT ++ [(2, 2), (0, 30), (0, 58), (8, 8), (2, 60), (0, 23), (0, 9)]), [(1, [(none, 1), (none, 0)], []), (3, [(some 17, 0), (none, 8)], []), (1, [(none, 1), (none, 0)], []), (1, [(none, 1), (none, 0)], []), (3, [(none, 9), (some 20, 0)], []), (3, [(some 20, 0), (none, 0)], []), (1, [(none, 1), (none, 0)], []), (3, [(none, 23), (some 19, 0)], []), (3, [(some 19, 0), (none, 0)], []), (20, [(some 20, 0), (some 16, 1)], [43]), (0, [(some 14, 0), (none, 2)], []), (20, [(some 19, 0), (some 16, 0)], [43]), (0, [(some 14, 0), (none, 2)], []), (2, [(some 16, 1), (some 18, 0)], []), (20, [(some 18, 0), (some 14, 0)], [45]), (141, [(some 15, 0), (some 16, 0), (some 4, 0), (some 17, 0), (some 14, 0)], [45, 46, 41, 42, 43, 44, 15, 16, 58, 59])], (140, [(some 15, 0), (some 14, 0), (none, 0), (some 4, 0), (some 17, 0), (some 13, 0), (some 13, 0)], [45, 46, 41, 42, 43, 44, 15, 16, 58, 59]))
set_option maxRecDepth 20000 in
theorem v_xo_readC_1_24 {PT : PTy} (hp : HP12 PT) : vcOk PT w_xo_readC_1_24 := vc_iv [(4, 0, 8), (13, 0, 5), (14, 2, 2), (15, 0, 30), (16, 0, 58), (17, 8, 8), (18, 2, 60), (19, 0, 23), (20, 0, 9)] [15, 16, 41, 42, 43, 44, 45, 46, 58, 59] (by decide +kernel) (fun ρ α => by
  intro r4 g4 b4 r13 g13 b13 r14 g14 b14 r15 g15 b15 r16 g16 b16 r17 g17 b17 r18 g18 b18 r19 g19 b19 r20 g20 b20 a15 h15 a16 h16 a41 h41 a42 h42 a43 h43 a44 h44 a45 h45 a46 h46 a58 h58 a59 h59 f0 f1 f2 f3 f4 f5 f6 f7 f8 f9 f10 f11 f12 f13 f14 f15 tt
  clear f0 f1 f2 f3 f4 f5 f6 f7 f8 f12
  have e140 : PT 140 = P_rdX := pe140_12 hp
  have e141 : PT 141 = P_rdXI := pe141_12 hp
  simp only [hF0, hF2, hF20, hFp_140, hFp_141, e140, e141, P_rdX, P_rdXI, den_s, den_c, Int.add_zero, List.map_cons, List.map_nil, g4.eq, g13.eq, g14.eq, g15.eq, g16.eq, g17.eq, g18.eq, g19.eq, g20.eq, h15, h16, h41, h42, h43, h44, h45, h46, h58, h59] at f9 f10 f11 f13 f14 f15 ⊢
  subst f9
  subst f11
  subst f14
  obtain ⟨i1, i2, i3, i4, i5⟩ := f15
  subst i1
  first
    | omega
    | (rcases (show r14 = 0 ∨ r14 = 1 ∨ r14 = 2 ∨ r14 = 3 by omega) with z | z | z | z <;> subst z <;> first | (exfalso; omega) | exact ⟨fun h => by omega, fun h h' => by omega, fun _ _ => ⟨by first | rfl | trivial, i5, by unfold okK; simp only [rowX_0, rowX_1, rowX_2, rowX_3]; omega⟩⟩)
    | (rcases (show r14 = 0 ∨ r14 = 1 ∨ r14 = 2 ∨ r14 = 3 by omega) with z | z | z | z <;> subst z <;> first | (exfalso; omega) | exact ⟨by omega, by omega, by omega, by omega, reI_s i5 (by omega) (by unfold okK; omega) (by omega) (by simp only [rowX_0, rowX_1, rowX_2, rowX_3]) (by simp only [rowX_0, rowX_1, rowX_2, rowX_3])⟩))
def w_xo_readC_1_25 : VC := ((bT ++ [(3, 3), (0, 30), (0, 58), (0, 8), (2, 60), ((-2147483648), (-1)), ((-2147483648), 2147483647)]), [(0, [(none, 0), (none, 0)], []), (0, [(none, 0), (none, 0)], []), (2, [(some 19, 0), (none, 0)], []), (20, [(some 20, 0), (some 16, 1)], [44]), (0, [(some 14, 0), (none, 3)], []), (20, [(some 19, 0), (some 16, 0)], [44]), (0, [(some 14, 0), (none, 3)], []), (2, [(some 16, 1), (some 18, 0)], []), (20, [(some 18, 0), (some 14, 0)], [45]), (141, [(some 15, 0), (some 16, 0), (some 4, 0), (some 17, 0), (some 14, 0)], [45, 46, 41, 42, 43, 44, 15, 16, 58, 59])], (140, [(some 15, 0), (some 14, 0), (none, 0), (some 4, 0), (some 17, 0), (some 13, 0), (some 13, 0)], [45, 46, 41, 42, 43, 44, 15, 16, 58, 59]))
set_option maxRecDepth 20000 in
theorem v_xo_readC_1_25 {PT : PTy} (hp : HP12 PT) : vcOk PT w_xo_readC_1_25 := vc_iv [(4, 0, 8), (13, 0, 5), (14, 3, 3), (15, 0, 30), (16, 0, 58), (17, 0, 8), (18, 2, 60), (19, (-2147483648), (-1)), (20, (-2147483648), 2147483647)] [15, 16, 41, 42, 43, 44, 45, 46, 58, 59] (by decide +kernel) (fun ρ α => by
  intro r4 g4 b4 r13 g13 b13 r14 g14 b14 r15 g15 b15 r16 g16 b16 r17 g17 b17 r18 g18 b18 r19 g19 b19 r20 g20 b20 a15 h15 a16 h16 a41 h41 a42 h42 a43 h43 a44 h44 a45 h45 a46 h46 a58 h58 a59 h59 f0 f1 f2 f3 f4 f5 f6 f7 f8 f9 tt
  clear f0 f1 f2 f6
  have e140 : PT 140 = P_rdX := pe140_12 hp
  have e141 : PT 141 = P_rdXI := pe141_12 hp
  simp only [hF0, hF2, hF20, hFp_140, hFp_141, e140, e141, P_rdX, P_rdXI, den_s, den_c, Int.add_zero, List.map_cons, List.map_nil, g4.eq, g13.eq, g14.eq, g15.eq, g16.eq, g17.eq, g18.eq, g19.eq, g20.eq, h15, h16, h41, h42, h43, h44, h45, h46, h58, h59] at f3 f4 f5 f7 f8 f9 ⊢
  subst f3
  subst f5
  subst f8
  obtain ⟨i1, i2, i3, i4, i5⟩ := f9
  subst i1
  first
    | omega
    | (rcases (show r14 = 0 ∨ r14 = 1 ∨ r14 = 2 ∨ r14 = 3 by omega) with z | z | z | z <;> subst z <;> first | (exfalso; omega) | exact ⟨fun h => by omega, fun h h' => by omega, fun _ _ => ⟨by first | rfl | trivial, i5, by unfold okK; simp only [rowX_0, rowX_1, rowX_2, rowX_3]; omega⟩⟩)
    | (rcases (show r14 = 0 ∨ r14 = 1 ∨ r14 = 2 ∨ r14 = 3 by omega) with z | z | z | z <;> subst z <;> first | (exfalso; omega) | exact ⟨by omega, by omega, by omega, by omega, reI_s i5 (by omega) (by unfold okK; omega) (by omega) (by simp only [rowX_0, rowX_1, rowX_2, rowX_3]) (by simp only [rowX_0, rowX_1, rowX_2, rowX_3])⟩))
def w_xo_readC_1_26 : VC := ((bT ++ [(3, 3), (0, 30), (0, 58), (0, 8), (2, 60), (24, 2147483647), ((-2147483648), 2147483647)]), [(0, [(none, 0), (none, 0)], []), (0, [(none, 0), (none, 0)], []), (2, [(none, 23), (some 19, 0)], []), (3, [(some 19, 0), (none, 0)], []), (20, [(some 20, 0), (some 16, 1)], [44]), (0, [(some 14, 0), (none, 3)], []), (20, [(some 19, 0), (some 16, 0)], [44]), (0, [(some 14, 0), (none, 3)], []), (2, [(some 16, 1), (some 18, 0)], []), (20, [(some 18, 0), (some 14, 0)], [45]), (141, [(some 15, 0), (some 16, 0), (some 4, 0), (some 17, 0), (some 14, 0)], [45, 46, 41, 42, 43, 44, 15, 16, 58, 59])], (140, [(some 15, 0), (some 14, 0), (none, 0), (some 4, 0), (some 17, 0), (some 13, 0), (some 13, 0)], [45, 46, 41, 42, 43, 44, 15, 16, 58, 59]))
set_option maxRecDepth 20000 in
theorem v_xo_readC_1_26 {PT : PTy} (hp : HP12 PT) : vcOk PT w_xo_readC_1_26 := vc_iv [(4, 0, 8), (13, 0, 5), (14, 3, 3), (15, 0, 30), (16, 0, 58), (17, 0, 8), (18, 2, 60), (19, 24, 2147483647), (20, (-2147483648), 2147483647)] [15, 16, 41, 42, 43, 44, 45, 46, 58, 59] (by decide +kernel) (fun ρ α => by
  intro r4 g4 b4 r13 g13 b13 r14 g14 b14 r15 g15 b15 r16 g16 b16 r17 g17 b17 r18 g18 b18 r19 g19 b19 r20 g20 b20 a15 h15 a16 h16 a41 h41 a42 h42 a43 h43 a44 h44 a45 h45 a46 h46 a58 h58 a59 h59 f0 f1 f2 f3 f4 f5 f6 f7 f8 f9 f10 tt
  clear f0 f1 f2 f3 f7
  have e140 : PT 140 = P_rdX := pe140_12 hp
  have e141 : PT 141 = P_rdXI := pe141_12 hp
  simp only [hF0, hF2, hF20, hFp_140, hFp_141, e140, e141, P_rdX, P_rdXI, den_s, den_c, Int.add_zero, List.map_cons, List.map_nil, g4.eq, g13.eq, g14.eq, g15.eq, g16.eq, g17.eq, g18.eq, g19.eq, g20.eq, h15, h16, h41, h42, h43, h44, h45, h46, h58, h59] at f4 f5 f6 f8 f9 f10 ⊢
  subst f4
  subst f6
  subst f9
  obtain ⟨i1, i2, i3, i4, i5⟩ := f10
  subst i1
  first
    | omega
    | (rcases (show r14 = 0 ∨ r14 = 1 ∨ r14 = 2 ∨ r14 = 3 by omega) with z | z | z | z <;> subst z <;> first | (exfalso; omega) | exact ⟨fun h => by omega, fun h h' => by omega, fun _ _ => ⟨by first | rfl | trivial, i5, by unfold okK; simp only [rowX_0, rowX_1, rowX_2, rowX_3]; omega⟩⟩)
    | (rcases (show r14 = 0 ∨ r14 = 1 ∨ r14 = 2 ∨ r14 = 3 by omega) with z | z | z | z <;> subst z <;> first | (exfalso; omega) | exact ⟨by omega, by omega, by omega, by omega, reI_s i5 (by omega) (by unfold okK; omega) (by omega) (by simp only [rowX_0, rowX_1, rowX_2, rowX_3]) (by simp only [rowX_0, rowX_1, rowX_2, rowX_3])⟩))
def w_xo_readC_1_27 : VC := ((bT ++ [(3, 3), (0, 30), (0, 58), (0, 8), (2, 60), (0, 23), ((-2147483648), (-1))]), [(0, [(none, 0), (none, 0)], []), (0, [(none, 0), (none, 0)], []), (2, [(some 20, 0), (none, 0)], []), (1, [(none, 1), (none, 0)], []), (3, [(none, 23), (some 19, 0)], []), (3, [(some 19, 0), (none, 0)], []), (20, [(some 20, 0), (some 16, 1)], [44]), (0, [(some 14, 0), (none, 3)], []), (20, [(some 19, 0), (some 16, 0)], [44]), (0, [(some 14, 0), (none, 3)], []), (2, [(some 16, 1), (some 18, 0)], []), (20, [(some 18, 0), (some 14, 0)], [45]), (141, [(some 15, 0), (some 16, 0), (some 4, 0), (some 17, 0), (some 14, 0)], [45, 46, 41, 42, 43, 44, 15, 16, 58, 59])], (140, [(some 15, 0), (some 14, 0), (none, 0), (some 4, 0), (some 17, 0), (some 13, 0), (some 13, 0)], [45, 46, 41, 42, 43, 44, 15, 16, 58, 59]))
set_option maxRecDepth 20000 in
theorem v_xo_readC_1_27 {PT : PTy} (hp : HP12 PT) : vcOk PT w_xo_readC_1_27 := vc_iv [(4, 0, 8), (13, 0, 5), (14, 3, 3), (15, 0, 30), (16, 0, 58), (17, 0, 8), (18, 2, 60), (19, 0, 23), (20, (-2147483648), (-1))] [15, 16, 41, 42, 43, 44, 45, 46, 58, 59] (by decide +kernel) (fun ρ α => by
  intro r4 g4 b4 r13 g13 b13 r14 g14 b14 r15 g15 b15 r16 g16 b16 r17 g17 b17 r18 g18 b18 r19 g19 b19 r20 g20 b20 a15 h15 a16 h16 a41 h41 a42 h42 a43 h43 a44 h44 a45 h45 a46 h46 a58 h58 a59 h59 f0 f1 f2 f3 f4 f5 f6 f7 f8 f9 f10 f11 f12 tt
  clear f0 f1 f2 f3 f4 f5 f9
  have e140 : PT 140 = P_rdX := pe140_12 hp
  have e141 : PT 141 = P_rdXI := pe141_12 hp
  simp only [hF0, hF2, hF20, hFp_140, hFp_141, e140, e141, P_rdX, P_rdXI, den_s, den_c, Int.add_zero, List.map_cons, List.map_nil, g4.eq, g13.eq, g14.eq, g15.eq, g16.eq, g17.eq, g18.eq, g19.eq, g20.eq, h15, h16, h41, h42, h43, h44, h45, h46, h58, h59] at f6 f7 f8 f10 f11 f12 ⊢
  subst f6
  subst f8
  subst f11
  obtain ⟨i1, i2, i3, i4, i5⟩ := f12
  subst i1
  first
    | omega
    | (rcases (show r14 = 0 ∨ r14 = 1 ∨ r14 = 2 ∨ r14 = 3 by omega) with z | z | z | z <;> subst z <;> first | (exfalso; omega) | exact ⟨fun h => by omega, fun h h' => by omega, fun _ _ => ⟨by first | rfl | trivial, i5, by unfold okK; simp only [rowX_0, rowX_1, rowX_2, rowX_3]; omega⟩⟩)
    | (rcases (show r14 = 0 ∨ r14 = 1 ∨ r14 = 2 ∨ r14 = 3 by omega) with z | z | z | z <;> subst z <;> first | (exfalso; omega) | exact ⟨by omega, by omega, by omega, by omega, reI_s i5 (by omega) (by unfold okK; omega) (by omega) (by simp only [rowX_0, rowX_1, rowX_2, rowX_3]) (by simp only [rowX_0, rowX_1, rowX_2, rowX_3])⟩))
def w_xo_readC_1_28 : VC := ((bT ++ [(3, 3), (0, 30), (0, 58), (0, 8), (2, 60), (0, 23), (10, 2147483647)]), [(0, [(none, 0), (none, 0)], []), (0, [(none, 0), (none, 0)], []), (2, [(none, 9), (some 20, 0)], []), (3, [(some 20, 0), (none, 0)], []), (1, [(none, 1), (none, 0)], []), (3, [(none, 23), (some 19, 0)], []), (3, [(some 19, 0), (none, 0)], []), (20, [(some 20, 0), (some 16, 1)], [44]), (0, [(some 14, 0), (none, 3)], []), (20, [(some 19, 0), (some 16, 0)], [44]), (0, [(some 14, 0), (none, 3)], []), (2, [(some 16, 1), (some 18, 0)], []), (20, [(some 18, 0), (some 14, 0)], [45]), (141, [(some 15, 0), (some 16, 0), (some 4, 0), (some 17, 0), (some 14, 0)], [45, 46, 41, 42, 43, 44, 15, 16, 58, 59])], (140, [(some 15, 0), (some 14, 0), (none, 0), (some 4, 0), (some 17, 0), (some 13, 0), (some 13, 0)], [45, 46, 41, 42, 43, 44, 15, 16, 58, 59]))
set_option maxRecDepth 20000 in
theorem v_xo_readC_1_28 {PT : PTy} (hp : HP12 PT) : vcOk PT w_xo_readC_1_28 := vc_iv [(4, 0, 8), (13, 0, 5), (14, 3, 3), (15, 0, 30), (16, 0, 58), (17, 0, 8), (18, 2, 60), (19, 0, 23), (20, 10, 2147483647)] [15, 16, 41, 42, 43, 44, 45, 46, 58, 59] (by decide +kernel) (fun ρ α => by
  intro r4 g4 b4 r13 g13 b13 r14 g14 b14 r15 g15 b15 r16 g16 b16 r17 g17 b17 r18 g18 b18 r19 g19 b19 r20 g20 b20 a15 h15 a16 h16 a41 h41 a42 h42 a43 h43 a44 h44 a45 h45 a46 h46 a58 h58 a59 h59 f0 f1 f2 f3 f4 f5 f6 f7 f8 f9 f10 f11 f12 f13 tt
  clear f0 f1 f2 f3 f4 f5 f6 f10
  have e140 : PT 140 = P_rdX := pe140_12 hp
  have e141 : PT 141 = P_rdXI := pe141_12 hp
  simp only [hF0, hF2, hF20, hFp_140, hFp_141, e140, e141, P_rdX, P_rdXI, den_s, den_c, Int.add_zero, List.map_cons, List.map_nil, g4.eq, g13.eq, g14.eq, g15.eq, g16.eq, g17.eq, g18.eq, g19.eq, g20.eq, h15, h16, h41, h42, h43, h44, h45, h46, h58, h59] at f7 f8 f9 f11 f12 f13 ⊢
  subst f7
  subst f9
  subst f12
  obtain ⟨i1, i2, i3, i4, i5⟩ := f13
  subst i1
  first
    | omega
    | (rcases (show r14 = 0 ∨ r14 = 1 ∨ r14 = 2 ∨ r14 = 3 by omega) with z | z | z | z <;> subst z <;> first | (exfalso; omega) | exact ⟨fun h => by omega, fun h h' => by omega, fun _ _ => ⟨by first | rfl | trivial, i5, by unfold okK; simp only [rowX_0, rowX_1, rowX_2, rowX_3]; omega⟩⟩)
    | (rcases (show r14 = 0 ∨ r14 = 1 ∨ r14 = 2 ∨ r14 = 3 by omega) with z | z | z | z <;> subst z <;> first | (exfalso; omega) | exact ⟨by omega, by omega, by omega, by omega, reI_s i5 (by omega) (by unfold okK; omega) (by omega) (by simp only [rowX_0, rowX_1, rowX_2, rowX_3]) (by simp only [rowX_0, rowX_1, rowX_2, rowX_3])⟩))
def w_xo_readC_1_29 : VC := ((bT ++ [(3, 3), (0, 30), (0, 58), (0, 7), (2, 60), (0, 23), (0, 9)]), [(21, [(some 17, 0), (none, 0)], [63, 60]), (21, [(some 17, 0), (some 20, 0)], [62, 59]), (21, [(some 17, 0), (some 19, 0)], [61, 58]), (2, [(some 17, 0), (none, 9)], []), (0, [(none, 0), (none, 0)], []), (2, [(some 17, 0), (none, 8)], []), (1, [(none, 1), (none, 0)], []), (1, [(none, 1), (none, 0)], []), (3, [(none, 9), (some 20, 0)], []), (3, [(some 20, 0), (none, 0)], []), (1, [(none, 1), (none, 0)], []), (3, [(none, 23), (some 19, 0)], []), (3, [(some 19, 0), (none, 0)], []), (20, [(some 20, 0), (some 16, 1)], [44]), (0, [(some 14, 0), (none, 3)], []), (20, [(some 19, 0), (some 16, 0)], [44]), (0, [(some 14, 0), (none, 3)], []), (2, [(some 16, 1), (some 18, 0)], []), (20, [(some 18, 0), (some 14, 0)], [45]), (141, [(some 15, 0), (some 16, 0), (some 4, 0), (some 17, 0), (some 14, 0)], [45, 46, 41, 42, 43, 44, 15, 16, 58, 59])], (3, [(some 15, 1), (none, 0)], []))
set_option maxRecDepth 20000 in
theorem v_xo_readC_1_29 {PT : PTy} (hp : HP12 PT) : vcOk PT w_xo_readC_1_29 := vc_iv [(4, 0, 8), (14, 3, 3), (15, 0, 30), (16, 0, 58), (17, 0, 7), (18, 2, 60), (19, 0, 23), (20, 0, 9)] [15, 16, 41, 42, 43, 44, 45, 46, 58, 59, 60, 61, 62, 63] (by decide +kernel) (fun ρ α => by
  intro r4 g4 b4 r14 g14 b14 r15 g15 b15 r16 g16 b16 r17 g17 b17 r18 g18 b18 r19 g19 b19 r20 g20 b20 a15 h15 a16 h16 a41 h41 a42 h42 a43 h43 a44 h44 a45 h45 a46 h46 a58 h58 a59 h59 a60 h60 a61 h61 a62 h62 a63 h63 f0 f1 f2 f3 f4 f5 f6 f7 f8 f9 f10 f11 f12 f13 f14 f15 f16 f17 f18 f19 tt
  clear f3 f4 f5 f6 f7 f8 f9 f10 f11 f12 f16
  have e141 : PT 141 = P_rdXI := pe141_12 hp
  simp only [hF0, hF2, hF3, hF20, hF21, hFp_141, e141, P_rdXI, den_s, den_c, Int.add_zero, List.map_cons, List.map_nil, g4.eq, g14.eq, g15.eq, g16.eq, g17.eq, g18.eq, g19.eq, g20.eq, h15, h16, h41, h42, h43, h44, h45, h46, h58, h59, h60, h61, h62, h63] at f0 f1 f2 f13 f14 f15 f17 f18 f19 ⊢
  subst f0
  subst f1
  subst f2
  subst f13
  subst f15
  subst f18
  obtain ⟨i1, i2, i3, i4, i5⟩ := f19
  subst i1
  first
    | omega
    | (rcases (show r14 = 0 ∨ r14 = 1 ∨ r14 = 2 ∨ r14 = 3 by omega) with z | z | z | z <;> subst z <;> first | (exfalso; omega) | exact ⟨fun h => by omega, fun h h' => by omega, fun _ _ => ⟨by first | rfl | trivial, i5, by unfold okK; simp only [rowX_0, rowX_1, rowX_2, rowX_3]; omega⟩⟩)
    | (rcases (show r14 = 0 ∨ r14 = 1 ∨ r14 = 2 ∨ r14 = 3 by omega) with z | z | z | z <;> subst z <;> first | (exfalso; omega) | exact ⟨by omega, by omega, by omega, by omega, reI_s i5 (by omega) (by unfold okK; omega) (by omega) (by simp only [rowX_0, rowX_1, rowX_2, rowX_3]) (by simp only [rowX_0, rowX_1, rowX_2, rowX_3])⟩))
def w_xo_readC_1_30 : VC := ((bT ++ [(3, 3), (0, 30), (0, 58), (0, 7), (2, 60), (0, 23), (0, 9)]), [(21, [(some 17, 0), (none, 0)], [63, 60]), (21, [(some 17, 0), (some 20, 0)], [62, 59]), (21, [(some 17, 0), (some 19, 0)], [61, 58]), (2, [(some 17, 0), (none, 9)], []), (0, [(none, 0), (none, 0)], []), (2, [(some 17, 0), (none, 8)], []), (1, [(none, 1), (none, 0)], []), (1, [(none, 1), (none, 0)], []), (3, [(none, 9), (some 20, 0)], []), (3, [(some 20, 0), (none, 0)], []), (1, [(none, 1), (none, 0)], []), (3, [(none, 23), (some 19, 0)], []), (3, [(some 19, 0), (none, 0)], []), (20, [(some 20, 0), (some 16, 1)], [44]), (0, [(some 14, 0), (none, 3)], []), (20, [(some 19, 0), (some 16, 0)], [44]), (0, [(some 14, 0), (none, 3)], []), (2, [(some 16, 1), (some 18, 0)], []), (20, [(some 18, 0), (some 14, 0)], [45]), (141, [(some 15, 0), (some 16, 0), (some 4, 0), (some 17, 0), (some 14, 0)], [45, 46, 41, 42, 43, 44, 15, 16, 58, 59])], (3, [(none, 30), (some 15, 1)], []))
set_option maxRecDepth 20000 in
theorem v_xo_readC_1_30 {PT : PTy} (hp : HP12 PT) : vcOk PT w_xo_readC_1_30 := vc_iv [(4, 0, 8), (14, 3, 3), (15, 0, 30), (16, 0, 58), (17, 0, 7), (18, 2, 60), (19, 0, 23), (20, 0, 9)] [15, 16, 41, 42, 43, 44, 45, 46, 58, 59, 60, 61, 62, 63] (by decide +kernel) (fun ρ α => by
  intro r4 g4 b4 r14 g14 b14 r15 g15 b15 r16 g16 b16 r17 g17 b17 r18 g18 b18 r19 g19 b19 r20 g20 b20 a15 h15 a16 h16 a41 h41 a42 h42 a43 h43 a44 h44 a45 h45 a46 h46 a58 h58 a59 h59 a60 h60 a61 h61 a62 h62 a63 h63 f0 f1 f2 f3 f4 f5 f6 f7 f8 f9 f10 f11 f12 f13 f14 f15 f16 f17 f18 f19 tt
  clear f3 f4 f5 f6 f7 f8 f9 f10 f11 f12 f16
  have e141 : PT 141 = P_rdXI := pe141_12 hp
  simp only [hF0, hF2, hF3, hF20, hF21, hFp_141, e141, P_rdXI, den_s, den_c, Int.add_zero, List.map_cons, List.map_nil, g4.eq, g14.eq, g15.eq, g16.eq, g17.eq, g18.eq, g19.eq, g20.eq, h15, h16, h41, h42, h43, h44, h45, h46, h58, h59, h60, h61, h62, h63] at f0 f1 f2 f13 f14 f15 f17 f18 f19 ⊢
  subst f0
  subst f1
  subst f2
  subst f13
  subst f15
  subst f18
  obtain ⟨i1, i2, i3, i4, i5⟩ := f19
  subst i1
  first
    | omega
    | (rcases (show r14 = 0 ∨ r14 = 1 ∨ r14 = 2 ∨ r14 = 3 by omega) with z | z | z | z <;> subst z <;> first | (exfalso; omega) | exact ⟨fun h => by omega, fun h h' => by omega, fun _ _ => ⟨by first | rfl | trivial, i5, by unfold okK; simp only [rowX_0, rowX_1, rowX_2, rowX_3]; omega⟩⟩)
    | (rcases (show r14 = 0 ∨ r14 = 1 ∨ r14 = 2 ∨ r14 = 3 by omega) with z | z | z | z <;> subst z <;> first | (exfalso; omega) | exact ⟨by omega, by omega, by omega, by omega, reI_s i5 (by omega) (by unfold okK; omega) (by omega) (by simp only [rowX_0, rowX_1, rowX_2, rowX_3]) (by simp only [rowX_0, rowX_1, rowX_2, rowX_3])⟩))
def w_xo_readC_1_31 : VC := ((bT ++ [(3, 3), (0, 30), (0, 58), (0, 7), (2, 60), (0, 23), (0, 9)]), [(21, [(some 17, 0), (none, 0)], [63, 60]), (21, [(some 17, 0), (some 20, 0)], [62, 59]), (21, [(some 17, 0), (some 19, 0)], [61, 58]), (2, [(some 17, 0), (none, 9)], []), (0, [(none, 0), (none, 0)], []), (2, [(some 17, 0), (none, 8)], []), (1, [(none, 1), (none, 0)], []), (1, [(none, 1), (none, 0)], []), (3, [(none, 9), (some 20, 0)], []), (3, [(some 20, 0), (none, 0)], []), (1, [(none, 1), (none, 0)], []), (3, [(none, 23), (some 19, 0)], []), (3, [(some 19, 0), (none, 0)], []), (20, [(some 20, 0), (some 16, 1)], [44]), (0, [(some 14, 0), (none, 3)], []), (20, [(some 19, 0), (some 16, 0)], [44]), (0, [(some 14, 0), (none, 3)], []), (2, [(some 16, 1), (some 18, 0)], []), (20, [(some 18, 0), (some 14, 0)], [45]), (141, [(some 15, 0), (some 16, 0), (some 4, 0), (some 17, 0), (some 14, 0)], [45, 46, 41, 42, 43, 44, 15, 16, 58, 59])], (141, [(some 15, 1), (some 16, 2), (some 4, 0), (some 17, 1), (some 14, 0)], [45, 46, 41, 42, 43, 44, 15, 16, 61, 62]))
set_option maxRecDepth 20000 in
theorem v_xo_readC_1_31 {PT : PTy} (hp : HP12 PT) : vcOk PT w_xo_readC_1_31 := vc_iv [(4, 0, 8), (14, 3, 3), (15, 0, 30), (16, 0, 58), (17, 0, 7), (18, 2, 60), (19, 0, 23), (20, 0, 9)] [15, 16, 41, 42, 43, 44, 45, 46, 58, 59, 60, 61, 62, 63] (by decide +kernel) (fun ρ α => by
  intro r4 g4 b4 r14 g14 b14 r15 g15 b15 r16 g16 b16 r17 g17 b17 r18 g18 b18 r19 g19 b19 r20 g20 b20 a15 h15 a16 h16 a41 h41 a42 h42 a43 h43 a44 h44 a45 h45 a46 h46 a58 h58 a59 h59 a60 h60 a61 h61 a62 h62 a63 h63 f0 f1 f2 f3 f4 f5 f6 f7 f8 f9 f10 f11 f12 f13 f14 f15 f16 f17 f18 f19 tt
  clear f3 f4 f5 f6 f7 f8 f9 f10 f11 f12 f16
  have e141 : PT 141 = P_rdXI := pe141_12 hp
  simp only [hF0, hF2, hF20, hF21, hFp_141, e141, P_rdXI, den_s, den_c, Int.add_zero, List.map_cons, List.map_nil, g4.eq, g14.eq, g15.eq, g16.eq, g17.eq, g18.eq, g19.eq, g20.eq, h15, h16, h41, h42, h43, h44, h45, h46, h58, h59, h60, h61, h62, h63] at f0 f1 f2 f13 f14 f15 f17 f18 f19 ⊢
  subst f0
  subst f1
  subst f2
  subst f13
  subst f15
  subst f18
  obtain ⟨i1, i2, i3, i4, i5⟩ := f19
  subst i1
  first
    | omega
    | (rcases (show r14 = 0 ∨ r14 = 1 ∨ r14 = 2 ∨ r14 = 3 by omega) with z | z | z | z <;> subst z <;> first | (exfalso; omega) | exact ⟨fun h => by omega, fun h h' => by omega, fun _ _ => ⟨by first | rfl | trivial, i5, by unfold okK; simp only [rowX_0, rowX_1, rowX_2, rowX_3]; omega⟩⟩)
    | (rcases (show r14 = 0 ∨ r14 = 1 ∨ r14 = 2 ∨ r14 = 3 by omega) with z | z | z | z <;> subst z <;> first | (exfalso; omega) | exact ⟨by omega, by omega, by omega, by omega, reI_s i5 (by omega) (by unfold okK; omega) (by omega) (by simp only [rowX_0, rowX_1, rowX_2, rowX_3]) (by simp only [rowX_0, rowX_1, rowX_2, rowX_3])⟩))
def w_xo_readC_1_32 : VC := ((bT ++ [(3, 3), (0, 30), (0, 58), (8, 8), (2, 60), (0, 23), (0, 9)]), [(1, [(none, 1), (none, 0)], []), (3, [(some 17, 0), (none, 8)], []), (1, [(none, 1), (none, 0)], []), (1, [(none, 1), (none, 0)], []), (3, [(none, 9), (some 20, 0)], []), (3, [(some 20, 0), (none, 0)], []), (1, [(none, 1), (none, 0)], []), (3, [(none, 23), (some 19, 0)], []), (3, [(some 19, 0), (none, 0)], []), (20, [(some 20, 0), (some 16, 1)], [44]), (0, [(some 14, 0), (none, 3)], []), (20, [(some 19, 0), (some 16, 0)], [44]), (0, [(some 14, 0), (none, 3)], []), (2, [(some 16, 1), (some 18, 0)], []), (20, [(some 18, 0), (some 14, 0)], [45]), (141, [(some 15, 0), (some 16, 0), (some 4, 0), (some 17, 0), (some 14, 0)], [45, 46, 41, 42, 43, 44, 15, 16, 58, 59])], (140, [(some 15, 0), (some 14, 0), (none, 0), (some 4, 0), (some 17, 0), (some 13, 0), (some 13, 0)], [45, 46, 41, 42, 43, 44, 15, 16, 58, 59]))
set_option maxRecDepth 20000 in
theorem v_xo_readC_1_32 {PT : PTy} (hp : HP12 PT) : vcOk PT w_xo_readC_1_32 := vc_iv [(4, 0, 8), (13, 0, 5), (14, 3, 3), (15, 0, 30), (16, 0, 58), (17, 8, 8), (18, 2, 60), (19, 0, 23), (20, 0, 9)] [15, 16, 41, 42, 43, 44, 45, 46, 58, 59] (by decide +kernel) (fun ρ α => by
  intro r4 g4 b4 r13 g13 b13 r14 g14 b14 r15 g15 b15 r16 g16 b16 r17 g17 b17 r18 g18 b18 r19 g19 b19 r20 g20 b20 a15 h15 a16 h16 a41 h41 a42 h42 a43 h43 a44 h44 a45 h45 a46 h46 a58 h58 a59 h59 f0 f1 f2 f3 f4 f5 f6 f7 f8 f9 f10 f11 f12 f13 f14 f15 tt
  clear f0 f1 f2 f3 f4 f5 f6 f7 f8 f12
  have e140 : PT 140 = P_rdX := pe140_12 hp
  have e141 : PT 141 = P_rdXI := pe141_12 hp
  simp only [hF0, hF2, hF20, hFp_140, hFp_141, e140, e141, P_rdX, P_rdXI, den_s, den_c, Int.add_zero, List.map_cons, List.map_nil, g4.eq, g13.eq, g14.eq, g15.eq, g16.eq, g17.eq, g18.eq, g19.eq, g20.eq, h15, h16, h41, h42, h43, h44, h45, h46, h58, h59] at f9 f10 f11 f13 f14 f15 ⊢
  subst f9
  subst f11
  subst f14
  obtain ⟨i1, i2, i3, i4, i5⟩ := f15
  subst i1
  first
    | omega
    | (rcases (show r14 = 0 ∨ r14 = 1 ∨ r14 = 2 ∨ r14 = 3 by omega) with z | z | z | z <;> subst z <;> first | (exfalso; omega) | exact ⟨fun h => by omega, fun h h' => by omega, fun _ _ => ⟨by first | rfl | trivial, i5, by unfold okK; simp only [rowX_0, rowX_1, rowX_2, rowX_3]; omega⟩⟩)
    | (rcases (show r14 = 0 ∨ r14 = 1 ∨ r14 = 2 ∨ r14 = 3 by omega) with z | z | z | z <;> subst z <;> first | (exfalso; omega) | exact ⟨by omega, by omega, by omega, by omega, reI_s i5 (by omega) (by unfold okK; omega) (by omega) (by simp only [rowX_0, rowX_1, rowX_2, rowX_3]) (by simp only [rowX_0, rowX_1, rowX_2, rowX_3])⟩))
set_option maxRecDepth 1000000 in
theorem k_xo_readC {PT : PTy} (hp : HP12 PT) : wfX c_xo_readC = true ∧ xcOk PT c_xo_readC := xctr (xl0) c_xo_readC 134 mX6_read rfl h_xo_readC (by decide +kernel) (by decide +kernel) (by decide) (vcs_by [w_xo_readC_0_0, w_xo_readC_0_1, w_xo_readC_0_2, w_xo_readC_0_3] (by decide +kernel) (vc (v_xo_readC_0_0 hp) (vc (v_xo_readC_0_1 hp) (vc (v_xo_readC_0_2 hp) (vc (v_xo_readC_0_3 hp) vn))))) (fmc (vcs_by [w_xo_readC_1_0, w_xo_readC_1_1, w_xo_readC_1_2, w_xo_readC_1_3, w_xo_readC_1_4, w_xo_readC_1_5, w_xo_readC_1_6, w_xo_readC_1_7, w_xo_readC_1_8, w_xo_readC_1_9, w_xo_readC_1_10, w_xo_readC_1_11, w_xo_readC_1_12, w_xo_readC_1_13, w_xo_readC_1_14, w_xo_readC_1_15, w_xo_readC_1_16, w_xo_readC_1_17, w_xo_readC_1_18, w_xo_readC_1_19, w_xo_readC_1_20, w_xo_readC_1_21, w_xo_readC_1_22, w_xo_readC_1_23, w_xo_readC_1_24, w_xo_readC_1_25, w_xo_readC_1_26, w_xo_readC_1_27, w_xo_readC_1_28, w_xo_readC_1_29, w_xo_readC_1_30, w_xo_readC_1_31, w_xo_readC_1_32] (by decide +kernel) (vc (v_xo_readC_1_0 hp) (vc (v_xo_readC_1_1 hp) (vc (v_xo_readC_1_2 hp) (vc (v_xo_readC_1_3 hp) (vc (v_xo_readC_1_4 hp) (vc (v_xo_readC_1_5 hp) (vc (v_xo_readC_1_6 hp) (vc (v_xo_readC_1_7 hp) (vc (v_xo_readC_1_8 hp) (vc (v_xo_readC_1_9 hp) (vc (v_xo_readC_1_10 hp) (vc (v_xo_readC_1_11 hp) (vc (v_xo_readC_1_12 hp) (vc (v_xo_readC_1_13 hp) (vc (v_xo_readC_1_14 hp) (vc (v_xo_readC_1_15 hp) (vc (v_xo_readC_1_16 hp) (vc (v_xo_readC_1_17 hp) (vc (v_xo_readC_1_18 hp) (vc (v_xo_readC_1_19 hp) (vc (v_xo_readC_1_20 hp) (vc (v_xo_readC_1_21 hp) (vc (v_xo_readC_1_22 hp) (vc (v_xo_readC_1_23 hp) (vc (v_xo_readC_1_24 hp) (vc (v_xo_readC_1_25 hp) (vc (v_xo_readC_1_26 hp) (vc (v_xo_readC_1_27 hp) (vc (v_xo_readC_1_28 hp) (vc (v_xo_readC_1_29 hp) (vc (v_xo_readC_1_30 hp) (vc (v_xo_readC_1_31 hp) (vc (v_xo_readC_1_32 hp) vn)))))))))))))))))))))))))))))))))) fmn)
def c_yo_readC : XC := (131, 3, (bY ++ [((-2147483648), 2147483647)]), [.inr (.inl 0), .inl (some 13, 0)], gY2, [], [((bY ++ [((-2147483648), 2147483647), ((-11), 30), (0, 8), (0, 5)]), some (.inl (some 14, 0)), (hst gY2 [(0, .inr (.inr (.inr (7, [.inr (.inl 1), .inr (.inl 2), .inl (some 2, 0), .inr (.inl 3), .inr (.inl 4), .inl (some 3, 0), .inr (.inl 5), .inr (.inl 6), .inr (.inl 7), .inr (.inl 8), .inl (some 15, 0), .inr (.inl 9), .inr (.inl 10), .inl (some 5, 0), .inr (.inl 11), .inr (.inl 12), .inr (.inl 13), .inl (some 6, 0), .inr (.inl 14), .inr (.inl 15), .inr (.inl 16), .inl (some 8, 0), .inl (some 9, 0), .inr (.inl 17), .inr (.inl 18), .inl (some 10, 0), .inl (some 11, 0), .inr (.inl 19), .inr (.inl 20), .inr (.inl 21), .inr (.inl 22), .inr (.inl 23), .inr (.inl 24), .inr (.inl 25), .inl (some 7, 0), .inr (.inl 26), .inr (.inl 27), .inr (.inl 28), .inr (.inl 29), .inr (.inl 30), .inr (.inl 31), .inr (.inl 32), .inr (.inl 33), .inr (.inl 34), .inl (some 16, 0)]))))]), (ansT 35 [(9, 35), (10, 36)]), 37, [(142, [(some 14, 0), (some 13, 0), (some 4, 0), (some 15, 0), (some 12, 0), (some 16, 0)], [30, 32, 33, 9, 10, 35, 36])])])
def h_yo_readC : List XH := [(27, (bY ++ [(0, 3), (0, 30), (0, 8)]), [some (.inr (.inl 0)), some (.inl (some 13, 0)), some (.inl (some 14, 0))], (hst gY2 [(0, .inr (.inr (.inr (7, [.inr (.inl 1), .inr (.inl 2), .inl (some 2, 0), .inr (.inl 3), .inr (.inl 4), .inl (some 3, 0), .inr (.inl 5), .inr (.inl 6), .inr (.inl 7), .inr (.inl 8), .inl (some 15, 0), .inr (.inl 9), .inr (.inl 10), .inl (some 5, 0), .inr (.inl 11), .inr (.inl 12), .inr (.inl 13), .inl (some 6, 0), .inr (.inl 14), .inr (.inl 15), .inr (.inl 16), .inl (some 8, 0), .inl (some 9, 0), .inr (.inl 17), .inr (.inl 18), .inl (some 10, 0), .inl (some 11, 0), .inr (.inl 19), .inr (.inl 20), .inr (.inl 21), .inr (.inl 22), .inr (.inl 23), .inr (.inl 24), .inr (.inl 25), .inl (some 7, 0), .inr (.inl 26), .inr (.inl 27), .inr (.inl 28), .inr (.inl 29), .inr (.inl 30), .inr (.inl 31), .inr (.inl 32), .inr (.inl 33), .inr (.inl 34), .inl (some 12, 0)]))))]), (ansT 35 [(9, 35), (10, 36)]), 37, [(143, [(some 14, 0), (some 4, 0), (some 15, 0), (some 13, 0)], [30, 32, 33, 9, 10, 35, 36])], [(true, (none, 1)), (true, (some 14, 0))])]
def w_yo_readC_0_0 : VC := ((bY ++ [((-2147483648), (-1))]), [(0, [(none, 0), (none, 0)], []), (2, [(some 13, 0), (none, 0)], [])], (142, [(none, (-2)), (some 13, 0), (some 4, 0), (some 4, 0), (some 12, 0), (some 12, 0)], [30, 32, 33, 9, 10, 9, 10]))
theorem pe142_12 {PT : PTy} (hp : HP12 PT) : PT 142 = P_rdY := hp.1.1.1.2.2.2.2.2.2.2.2.1
set_option maxRecDepth 20000 in
theorem v_yo_readC_0_0 {PT : PTy} (hp : HP12 PT) : vcOk PT w_yo_readC_0_0 := vc_iv [(4, 0, 8), (12, 0, 5), (13, (-2147483648), (-1))] [9, 10, 30, 32, 33] (by decide +kernel) (fun ρ α => by
  intro r4 g4 b4 r12 g12 b12 r13 g13 b13 a9 h9 a10 h10 a30 h30 a32 h32 a33 h33 f0 f1 tt
  clear f0 f1
  have e142 : PT 142 = P_rdY := pe142_12 hp
  simp only [hFp_142, e142, P_rdY, den_s, den_c, Int.add_zero, List.map_cons, List.map_nil, g4.eq, g12.eq, g13.eq, h9, h10, h30, h32, h33] at ⊢
  first
    | omega
    | exact ⟨by omega, by omega, by omega, reI_z⟩
    | ((repeat' (first | apply And.intro | intro h)) <;> first | omega | rfl | trivial | (exfalso; omega) | (congr 1; omega) | (congr 1; (repeat' split) <;> first | rfl | (exfalso; omega))))
def w_yo_readC_0_1 : VC := ((bY ++ [(4, 2147483647)]), [(0, [(none, 0), (none, 0)], []), (2, [(none, 3), (some 13, 0)], []), (3, [(some 13, 0), (none, 0)], [])], (142, [(none, (-2)), (some 13, 0), (some 4, 0), (some 4, 0), (some 12, 0), (some 12, 0)], [30, 32, 33, 9, 10, 9, 10]))
set_option maxRecDepth 20000 in
theorem v_yo_readC_0_1 {PT : PTy} (hp : HP12 PT) : vcOk PT w_yo_readC_0_1 := vc_iv [(4, 0, 8), (12, 0, 5), (13, 4, 2147483647)] [9, 10, 30, 32, 33] (by decide +kernel) (fun ρ α => by
  intro r4 g4 b4 r12 g12 b12 r13 g13 b13 a9 h9 a10 h10 a30 h30 a32 h32 a33 h33 f0 f1 f2 tt
  clear f0 f1 f2
  have e142 : PT 142 = P_rdY := pe142_12 hp
  simp only [hFp_142, e142, P_rdY, den_s, den_c, Int.add_zero, List.map_cons, List.map_nil, g4.eq, g12.eq, g13.eq, h9, h10, h30, h32, h33] at ⊢
  first
    | omega
    | exact ⟨by omega, by omega, by omega, reI_z⟩
    | ((repeat' (first | apply And.intro | intro h)) <;> first | omega | rfl | trivial | (exfalso; omega) | (congr 1; omega) | (congr 1; (repeat' split) <;> first | rfl | (exfalso; omega))))
def w_yo_readC_0_2 : VC := ((bY ++ [(0, 3), (1, 1)]), [(1, [(some 14, 0), (none, 0)], []), (20, [(some 14, 0), (some 13, 0)], [30]), (1, [(none, 1), (none, 0)], []), (3, [(none, 3), (some 13, 0)], []), (3, [(some 13, 0), (none, 0)], [])], (143, [(none, 0), (some 4, 0), (some 4, 0), (some 13, 0)], [30, 32, 33, 9, 10, 9, 10]))
theorem pe143_12 {PT : PTy} (hp : HP12 PT) : PT 143 = P_rdYI := hp.1.1.1.2.2.2.2.2.2.2.2.2.1
set_option maxRecDepth 20000 in
theorem v_yo_readC_0_2 {PT : PTy} (hp : HP12 PT) : vcOk PT w_yo_readC_0_2 := vc_iv [(4, 0, 8), (13, 0, 3), (14, 1, 1)] [9, 10, 30, 32, 33] (by decide +kernel) (fun ρ α => by
  intro r4 g4 b4 r13 g13 b13 r14 g14 b14 a9 h9 a10 h10 a30 h30 a32 h32 a33 h33 f0 f1 f2 f3 f4 tt
  clear f0 f2 f3 f4
  have e143 : PT 143 = P_rdYI := pe143_12 hp
  simp only [hF20, hFp_143, e143, P_rdYI, den_s, den_c, Int.add_zero, List.map_cons, List.map_nil, g4.eq, g13.eq, g14.eq, h9, h10, h30, h32, h33] at f1 ⊢
  subst f1
  first
    | omega
    | exact ⟨by omega, by omega, by omega, reI_z⟩
    | ((repeat' (first | apply And.intro | intro h)) <;> first | omega | rfl | trivial | (exfalso; omega) | (congr 1; omega) | (congr 1; (repeat' split) <;> first | rfl | (exfalso; omega))))
def w_yo_readC_0_3 : VC := ((bY ++ [(0, 3), (0, 0)]), [(0, [(some 14, 0), (none, 0)], []), (20, [(some 14, 0), (some 13, 0)], [30]), (1, [(none, 1), (none, 0)], []), (3, [(none, 3), (some 13, 0)], []), (3, [(some 13, 0), (none, 0)], [])], (142, [(none, (-11)), (some 13, 0), (some 4, 0), (some 4, 0), (some 12, 0), (none, 1)], [30, 32, 33, 9, 10, 9, 10]))
set_option maxRecDepth 20000 in
theorem v_yo_readC_0_3 {PT : PTy} (hp : HP12 PT) : vcOk PT w_yo_readC_0_3 := vc_iv [(4, 0, 8), (12, 0, 5), (13, 0, 3), (14, 0, 0)] [9, 10, 30, 32, 33] (by decide +kernel) (fun ρ α => by
  intro r4 g4 b4 r12 g12 b12 r13 g13 b13 r14 g14 b14 a9 h9 a10 h10 a30 h30 a32 h32 a33 h33 f0 f1 f2 f3 f4 tt
  clear f2 f3 f4
  have e142 : PT 142 = P_rdY := pe142_12 hp
  simp only [hF0, hF20, hFp_142, e142, P_rdY, den_s, den_c, Int.add_zero, List.map_cons, List.map_nil, g4.eq, g12.eq, g13.eq, g14.eq, h9, h10, h30, h32, h33] at f0 f1 ⊢
  subst f1
  first
    | omega
    | exact ⟨by omega, by omega, by omega, reI_z⟩
    | ((repeat' (first | apply And.intro | intro h)) <;> first | omega | rfl | trivial | (exfalso; omega) | (congr 1; omega) | (congr 1; (repeat' split) <;> first | rfl | (exfalso; omega))))
def w_yo_readC_1_0 : VC := ((bY ++ [(0, 3), (0, 30), (0, 8), (0, 60), (0, 60)]), [(3, [(some 16, 1), (some 17, 0)], []), (20, [(some 17, 0), (some 13, 0)], [32]), (6, [(some 16, 0), (none, 2), (some 14, 0)], []), (143, [(some 14, 0), (some 4, 0), (some 15, 0), (some 13, 0)], [30, 32, 33, 9, 10, 35, 36])], (142, [(some 14, 0), (some 13, 0), (some 4, 0), (some 15, 0), (some 12, 0), (some 12, 0)], [30, 32, 33, 9, 10, 35, 36]))
set_option maxRecDepth 20000 in
theorem v_yo_readC_1_0 {PT : PTy} (hp : HP12 PT) : vcOk PT w_yo_readC_1_0 := vc_iv [(4, 0, 8), (12, 0, 5), (13, 0, 3), (14, 0, 30), (15, 0, 8), (16, 0, 60), (17, 0, 60)] [9, 10, 30, 32, 33, 35, 36] (by decide +kernel) (fun ρ α => by
  intro r4 g4 b4 r12 g12 b12 r13 g13 b13 r14 g14 b14 r15 g15 b15 r16 g16 b16 r17 g17 b17 a9 h9 a10 h10 a30 h30 a32 h32 a33 h33 a35 h35 a36 h36 f0 f1 f2 f3 tt
  have e142 : PT 142 = P_rdY := pe142_12 hp
  have e143 : PT 143 = P_rdYI := pe143_12 hp
  simp only [hF3, hF6, hF20, hFp_142, hFp_143, e142, e143, P_rdY, P_rdYI, den_s, den_c, Int.add_zero, List.map_cons, List.map_nil, g4.eq, g12.eq, g13.eq, g14.eq, g15.eq, g16.eq, g17.eq, h9, h10, h30, h32, h33, h35, h36] at f0 f1 f2 f3 ⊢
  subst f1
  subst f2
  obtain ⟨i1, i2, i3, i4⟩ := f3
  first
    | omega
    | exact ⟨fun h => by omega, fun h h' => by omega, fun _ _ => ⟨by first | rfl | trivial, i4, fun h => by have := h.1; omega⟩⟩
    | (obtain ⟨y1, y2, y3⟩ := MISSING
       rw [show 60 * r13 + 2 * r14 + 1 = 60 * r13 + (2 * r14 + 1) by omega] at y1 y2 y3
       by_cases ok : 0 ≤ a33 (60 * r13 + 2 * r14) ∧ a33 (60 * r13 + 2 * r14) ≤ 23 ∧ 0 ≤ a33 (60 * r13 + (2 * r14 + 1)) ∧ a33 (60 * r13 + (2 * r14 + 1)) ≤ 9
       · by_cases f : r15 < 8
         · obtain ⟨u1, u2, u3, u4⟩ := y2 ok f
           subst u2 u3 u4
           first
             | (exfalso; omega)
             | exact ⟨i1, i2, i3, reI_s i4 (by omega) ok f rfl rfl⟩
         · obtain ⟨u1, u2, u3, u4⟩ := y3 ok (by omega)
           subst u2 u3 u4
           first
             | (exfalso; omega)
             | exact ⟨fun h => by omega, fun h h' => by omega, fun _ _ => ⟨by first | rfl | trivial, i4, fun q => f q.2.2⟩⟩
       · obtain ⟨u1, u2, u3, u4⟩ := y1 ok
         subst u2 u3 u4
         first
           | (exfalso; omega)
           | exact ⟨fun h => by omega, fun h h' => by omega, fun _ _ => ⟨by first | rfl | trivial, i4, fun q => ok q.2.1⟩⟩))
def w_yo_readC_1_1 : VC := ((bY ++ [(0, 3), (0, 30), (0, 8), (0, 58), (2, 60), (0, 180), (0, 60), (0, 240)]), [(4, [(some 20, 0), (some 18, 0), (some 19, 0)], []), (6, [(some 19, 0), (none, 2), (some 14, 0)], []), (6, [(some 18, 0), (none, 60), (some 13, 0)], []), (2, [(some 16, 1), (some 17, 0)], []), (20, [(some 17, 0), (some 13, 0)], [32]), (6, [(some 16, 0), (none, 2), (some 14, 0)], []), (143, [(some 14, 0), (some 4, 0), (some 15, 0), (some 13, 0)], [30, 32, 33, 9, 10, 35, 36])], (3, [(some 20, 0), (none, 0)], []))
set_option maxRecDepth 20000 in
theorem v_yo_readC_1_1 {PT : PTy} (hp : HP12 PT) : vcOk PT w_yo_readC_1_1 := vc_iv [(4, 0, 8), (13, 0, 3), (14, 0, 30), (15, 0, 8), (16, 0, 58), (17, 2, 60), (18, 0, 180), (19, 0, 60), (20, 0, 240)] [9, 10, 30, 32, 33, 35, 36] (by decide +kernel) (fun ρ α => by
  intro r4 g4 b4 r13 g13 b13 r14 g14 b14 r15 g15 b15 r16 g16 b16 r17 g17 b17 r18 g18 b18 r19 g19 b19 r20 g20 b20 a9 h9 a10 h10 a30 h30 a32 h32 a33 h33 a35 h35 a36 h36 f0 f1 f2 f3 f4 f5 f6 tt
  have e143 : PT 143 = P_rdYI := pe143_12 hp
  simp only [hF2, hF3, hF4, hF6, hF20, hFp_143, e143, P_rdYI, den_s, den_c, Int.add_zero, List.map_cons, List.map_nil, g4.eq, g13.eq, g14.eq, g15.eq, g16.eq, g17.eq, g18.eq, g19.eq, g20.eq, h9, h10, h30, h32, h33, h35, h36] at f0 f1 f2 f3 f4 f5 f6 ⊢
  subst f0
  subst f1
  subst f2
  subst f4
  subst f5
  obtain ⟨i1, i2, i3, i4⟩ := f6
  first
    | omega
    | exact ⟨fun h => by omega, fun h h' => by omega, fun _ _ => ⟨by first | rfl | trivial, i4, fun h => by have := h.1; omega⟩⟩
    | (obtain ⟨y1, y2, y3⟩ := MISSING
       rw [show 60 * r13 + 2 * r14 + 1 = 60 * r13 + (2 * r14 + 1) by omega] at y1 y2 y3
       by_cases ok : 0 ≤ a33 (60 * r13 + 2 * r14) ∧ a33 (60 * r13 + 2 * r14) ≤ 23 ∧ 0 ≤ a33 (60 * r13 + (2 * r14 + 1)) ∧ a33 (60 * r13 + (2 * r14 + 1)) ≤ 9
       · by_cases f : r15 < 8
         · obtain ⟨u1, u2, u3, u4⟩ := y2 ok f
           subst u2 u3 u4
           first
             | (exfalso; omega)
             | exact ⟨i1, i2, i3, reI_s i4 (by omega) ok f rfl rfl⟩
         · obtain ⟨u1, u2, u3, u4⟩ := y3 ok (by omega)
           subst u2 u3 u4
           first
             | (exfalso; omega)
             | exact ⟨fun h => by omega, fun h h' => by omega, fun _ _ => ⟨by first | rfl | trivial, i4, fun q => f q.2.2⟩⟩
       · obtain ⟨u1, u2, u3, u4⟩ := y1 ok
         subst u2 u3 u4
         first
           | (exfalso; omega)
           | exact ⟨fun h => by omega, fun h h' => by omega, fun _ _ => ⟨by first | rfl | trivial, i4, fun q => ok q.2.1⟩⟩))
def w_yo_readC_1_2 : VC := ((bY ++ [(0, 3), (0, 30), (0, 8), (0, 58), (2, 60), (0, 180), (0, 60), (0, 240)]), [(4, [(some 20, 0), (some 18, 0), (some 19, 0)], []), (6, [(some 19, 0), (none, 2), (some 14, 0)], []), (6, [(some 18, 0), (none, 60), (some 13, 0)], []), (2, [(some 16, 1), (some 17, 0)], []), (20, [(some 17, 0), (some 13, 0)], [32]), (6, [(some 16, 0), (none, 2), (some 14, 0)], []), (143, [(some 14, 0), (some 4, 0), (some 15, 0), (some 13, 0)], [30, 32, 33, 9, 10, 35, 36])], (3, [(none, 239), (some 20, 0)], []))
set_option maxRecDepth 20000 in
theorem v_yo_readC_1_2 {PT : PTy} (hp : HP12 PT) : vcOk PT w_yo_readC_1_2 := vc_iv [(4, 0, 8), (13, 0, 3), (14, 0, 30), (15, 0, 8), (16, 0, 58), (17, 2, 60), (18, 0, 180), (19, 0, 60), (20, 0, 240)] [9, 10, 30, 32, 33, 35, 36] (by decide +kernel) (fun ρ α => by
  intro r4 g4 b4 r13 g13 b13 r14 g14 b14 r15 g15 b15 r16 g16 b16 r17 g17 b17 r18 g18 b18 r19 g19 b19 r20 g20 b20 a9 h9 a10 h10 a30 h30 a32 h32 a33 h33 a35 h35 a36 h36 f0 f1 f2 f3 f4 f5 f6 tt
  have e143 : PT 143 = P_rdYI := pe143_12 hp
  simp only [hF2, hF3, hF4, hF6, hF20, hFp_143, e143, P_rdYI, den_s, den_c, Int.add_zero, List.map_cons, List.map_nil, g4.eq, g13.eq, g14.eq, g15.eq, g16.eq, g17.eq, g18.eq, g19.eq, g20.eq, h9, h10, h30, h32, h33, h35, h36] at f0 f1 f2 f3 f4 f5 f6 ⊢
  subst f0
  subst f1
  subst f2
  subst f4
  subst f5
  obtain ⟨i1, i2, i3, i4⟩ := f6
  first
    | omega
    | exact ⟨fun h => by omega, fun h h' => by omega, fun _ _ => ⟨by first | rfl | trivial, i4, fun h => by have := h.1; omega⟩⟩
    | (obtain ⟨y1, y2, y3⟩ := MISSING
       rw [show 60 * r13 + 2 * r14 + 1 = 60 * r13 + (2 * r14 + 1) by omega] at y1 y2 y3
       by_cases ok : 0 ≤ a33 (60 * r13 + 2 * r14) ∧ a33 (60 * r13 + 2 * r14) ≤ 23 ∧ 0 ≤ a33 (60 * r13 + (2 * r14 + 1)) ∧ a33 (60 * r13 + (2 * r14 + 1)) ≤ 9
       · by_cases f : r15 < 8
         · obtain ⟨u1, u2, u3, u4⟩ := y2 ok f
           subst u2 u3 u4
           first
             | (exfalso; omega)
             | exact ⟨i1, i2, i3, reI_s i4 (by omega) ok f rfl rfl⟩
         · obtain ⟨u1, u2, u3, u4⟩ := y3 ok (by omega)
           subst u2 u3 u4
           first
             | (exfalso; omega)
             | exact ⟨fun h => by omega, fun h h' => by omega, fun _ _ => ⟨by first | rfl | trivial, i4, fun q => f q.2.2⟩⟩
       · obtain ⟨u1, u2, u3, u4⟩ := y1 ok
         subst u2 u3 u4
         first
           | (exfalso; omega)
           | exact ⟨fun h => by omega, fun h h' => by omega, fun _ _ => ⟨by first | rfl | trivial, i4, fun q => ok q.2.1⟩⟩))
def w_yo_readC_1_3 : VC := ((bY ++ [(0, 3), (0, 30), (0, 8), (0, 58), (2, 60), (0, 180), (0, 60), (0, 239), ((-2147483648), 2147483647), (0, 180), (0, 60), (0, 240)]), [(4, [(some 24, 0), (some 22, 0), (some 23, 0)], []), (6, [(some 23, 0), (none, 2), (some 14, 0)], []), (6, [(some 22, 0), (none, 60), (some 13, 0)], []), (20, [(some 21, 0), (some 20, 0)], [33]), (4, [(some 20, 0), (some 18, 0), (some 19, 0)], []), (6, [(some 19, 0), (none, 2), (some 14, 0)], []), (6, [(some 18, 0), (none, 60), (some 13, 0)], []), (2, [(some 16, 1), (some 17, 0)], []), (20, [(some 17, 0), (some 13, 0)], [32]), (6, [(some 16, 0), (none, 2), (some 14, 0)], []), (143, [(some 14, 0), (some 4, 0), (some 15, 0), (some 13, 0)], [30, 32, 33, 9, 10, 35, 36])], (3, [(some 24, 1), (none, 0)], []))
set_option maxRecDepth 20000 in
theorem v_yo_readC_1_3 {PT : PTy} (hp : HP12 PT) : vcOk PT w_yo_readC_1_3 := vc_iv [(4, 0, 8), (13, 0, 3), (14, 0, 30), (15, 0, 8), (16, 0, 58), (17, 2, 60), (18, 0, 180), (19, 0, 60), (20, 0, 239), (21, (-2147483648), 2147483647), (22, 0, 180), (23, 0, 60), (24, 0, 240)] [9, 10, 30, 32, 33, 35, 36] (by decide +kernel) (fun ρ α => by
  intro r4 g4 b4 r13 g13 b13 r14 g14 b14 r15 g15 b15 r16 g16 b16 r17 g17 b17 r18 g18 b18 r19 g19 b19 r20 g20 b20 r21 g21 b21 r22 g22 b22 r23 g23 b23 r24 g24 b24 a9 h9 a10 h10 a30 h30 a32 h32 a33 h33 a35 h35 a36 h36 f0 f1 f2 f3 f4 f5 f6 f7 f8 f9 f10 tt
  have e143 : PT 143 = P_rdYI := pe143_12 hp
  simp only [hF2, hF3, hF4, hF6, hF20, hFp_143, e143, P_rdYI, den_s, den_c, Int.add_zero, List.map_cons, List.map_nil, g4.eq, g13.eq, g14.eq, g15.eq, g16.eq, g17.eq, g18.eq, g19.eq, g20.eq, g21.eq, g22.eq, g23.eq, g24.eq, h9, h10, h30, h32, h33, h35, h36] at f0 f1 f2 f3 f4 f5 f6 f7 f8 f9 f10 ⊢
  subst f0
  subst f1
  subst f2
  subst f3
  subst f4
  subst f5
  subst f6
  subst f8
  subst f9
  obtain ⟨i1, i2, i3, i4⟩ := f10
  first
    | omega
    | exact ⟨fun h => by omega, fun h h' => by omega, fun _ _ => ⟨by first | rfl | trivial, i4, fun h => by have := h.1; omega⟩⟩
    | (obtain ⟨y1, y2, y3⟩ := MISSING
       rw [show 60 * r13 + 2 * r14 + 1 = 60 * r13 + (2 * r14 + 1) by omega] at y1 y2 y3
       by_cases ok : 0 ≤ a33 (60 * r13 + 2 * r14) ∧ a33 (60 * r13 + 2 * r14) ≤ 23 ∧ 0 ≤ a33 (60 * r13 + (2 * r14 + 1)) ∧ a33 (60 * r13 + (2 * r14 + 1)) ≤ 9
       · by_cases f : r15 < 8
         · obtain ⟨u1, u2, u3, u4⟩ := y2 ok f
           subst u2 u3 u4
           first
             | (exfalso; omega)
             | exact ⟨i1, i2, i3, reI_s i4 (by omega) ok f rfl rfl⟩
         · obtain ⟨u1, u2, u3, u4⟩ := y3 ok (by omega)
           subst u2 u3 u4
           first
             | (exfalso; omega)
             | exact ⟨fun h => by omega, fun h h' => by omega, fun _ _ => ⟨by first | rfl | trivial, i4, fun q => f q.2.2⟩⟩
       · obtain ⟨u1, u2, u3, u4⟩ := y1 ok
         subst u2 u3 u4
         first
           | (exfalso; omega)
           | exact ⟨fun h => by omega, fun h h' => by omega, fun _ _ => ⟨by first | rfl | trivial, i4, fun q => ok q.2.1⟩⟩))
def w_yo_readC_1_4 : VC := ((bY ++ [(0, 3), (0, 30), (0, 8), (0, 58), (2, 60), (0, 180), (0, 60), (0, 239), ((-2147483648), 2147483647), (0, 180), (0, 60), (0, 240)]), [(4, [(some 24, 0), (some 22, 0), (some 23, 0)], []), (6, [(some 23, 0), (none, 2), (some 14, 0)], []), (6, [(some 22, 0), (none, 60), (some 13, 0)], []), (20, [(some 21, 0), (some 20, 0)], [33]), (4, [(some 20, 0), (some 18, 0), (some 19, 0)], []), (6, [(some 19, 0), (none, 2), (some 14, 0)], []), (6, [(some 18, 0), (none, 60), (some 13, 0)], []), (2, [(some 16, 1), (some 17, 0)], []), (20, [(some 17, 0), (some 13, 0)], [32]), (6, [(some 16, 0), (none, 2), (some 14, 0)], []), (143, [(some 14, 0), (some 4, 0), (some 15, 0), (some 13, 0)], [30, 32, 33, 9, 10, 35, 36])], (3, [(none, 239), (some 24, 1)], []))
set_option maxRecDepth 20000 in
theorem v_yo_readC_1_4 {PT : PTy} (hp : HP12 PT) : vcOk PT w_yo_readC_1_4 := vc_iv [(4, 0, 8), (13, 0, 3), (14, 0, 30), (15, 0, 8), (16, 0, 58), (17, 2, 60), (18, 0, 180), (19, 0, 60), (20, 0, 239), (21, (-2147483648), 2147483647), (22, 0, 180), (23, 0, 60), (24, 0, 240)] [9, 10, 30, 32, 33, 35, 36] (by decide +kernel) (fun ρ α => by
  intro r4 g4 b4 r13 g13 b13 r14 g14 b14 r15 g15 b15 r16 g16 b16 r17 g17 b17 r18 g18 b18 r19 g19 b19 r20 g20 b20 r21 g21 b21 r22 g22 b22 r23 g23 b23 r24 g24 b24 a9 h9 a10 h10 a30 h30 a32 h32 a33 h33 a35 h35 a36 h36 f0 f1 f2 f3 f4 f5 f6 f7 f8 f9 f10 tt
  have e143 : PT 143 = P_rdYI := pe143_12 hp
  simp only [hF2, hF3, hF4, hF6, hF20, hFp_143, e143, P_rdYI, den_s, den_c, Int.add_zero, List.map_cons, List.map_nil, g4.eq, g13.eq, g14.eq, g15.eq, g16.eq, g17.eq, g18.eq, g19.eq, g20.eq, g21.eq, g22.eq, g23.eq, g24.eq, h9, h10, h30, h32, h33, h35, h36] at f0 f1 f2 f3 f4 f5 f6 f7 f8 f9 f10 ⊢
  subst f0
  subst f1
  subst f2
  subst f3
  subst f4
  subst f5
  subst f6
  subst f8
  subst f9
  obtain ⟨i1, i2, i3, i4⟩ := f10
  first
    | omega
    | exact ⟨fun h => by omega, fun h h' => by omega, fun _ _ => ⟨by first | rfl | trivial, i4, fun h => by have := h.1; omega⟩⟩
    | (obtain ⟨y1, y2, y3⟩ := MISSING
       rw [show 60 * r13 + 2 * r14 + 1 = 60 * r13 + (2 * r14 + 1) by omega] at y1 y2 y3
       by_cases ok : 0 ≤ a33 (60 * r13 + 2 * r14) ∧ a33 (60 * r13 + 2 * r14) ≤ 23 ∧ 0 ≤ a33 (60 * r13 + (2 * r14 + 1)) ∧ a33 (60 * r13 + (2 * r14 + 1)) ≤ 9
       · by_cases f : r15 < 8
         · obtain ⟨u1, u2, u3, u4⟩ := y2 ok f
           subst u2 u3 u4
           first
             | (exfalso; omega)
             | exact ⟨i1, i2, i3, reI_s i4 (by omega) ok f rfl rfl⟩
         · obtain ⟨u1, u2, u3, u4⟩ := y3 ok (by omega)
           subst u2 u3 u4
           first
             | (exfalso; omega)
             | exact ⟨fun h => by omega, fun h h' => by omega, fun _ _ => ⟨by first | rfl | trivial, i4, fun q => f q.2.2⟩⟩
       · obtain ⟨u1, u2, u3, u4⟩ := y1 ok
         subst u2 u3 u4
         first
           | (exfalso; omega)
           | exact ⟨fun h => by omega, fun h h' => by omega, fun _ _ => ⟨by first | rfl | trivial, i4, fun q => ok q.2.1⟩⟩))
def w_yo_readC_1_5 : VC := ((bY ++ [(0, 3), (0, 30), (0, 8), (0, 58), (2, 60), (0, 180), (0, 60), (0, 239), ((-2147483648), 2147483647), (0, 180), (0, 60), (0, 238), ((-2147483648), 2147483647), ((-4), 0), (0, 8)]), [(3, [(none, 0), (some 26, 0)], []), (114, [(some 26, 0), (some 21, 0), (some 25, 0), (some 15, 0), (some 27, 0)], [35, 36, 37, 38]), (20, [(some 25, 0), (some 24, 1)], [33]), (4, [(some 24, 0), (some 22, 0), (some 23, 0)], []), (6, [(some 23, 0), (none, 2), (some 14, 0)], []), (6, [(some 22, 0), (none, 60), (some 13, 0)], []), (20, [(some 21, 0), (some 20, 0)], [33]), (4, [(some 20, 0), (some 18, 0), (some 19, 0)], []), (6, [(some 19, 0), (none, 2), (some 14, 0)], []), (6, [(some 18, 0), (none, 60), (some 13, 0)], []), (2, [(some 16, 1), (some 17, 0)], []), (20, [(some 17, 0), (some 13, 0)], [32]), (6, [(some 16, 0), (none, 2), (some 14, 0)], []), (143, [(some 14, 0), (some 4, 0), (some 15, 0), (some 13, 0)], [30, 32, 33, 9, 10, 35, 36])], (142, [(some 14, 0), (some 13, 0), (some 4, 0), (some 27, 0), (some 12, 0), (some 12, 0)], [30, 32, 33, 9, 10, 37, 38]))
theorem pe114_12 {PT : PTy} (hp : HP12 PT) : PT 114 = P_kgA := hp.1.1.1.1.1.1.2.2.2.2.2.2.2.2.1
set_option maxRecDepth 20000 in
theorem v_yo_readC_1_5 {PT : PTy} (hp : HP12 PT) : vcOk PT w_yo_readC_1_5 := vc_iv [(4, 0, 8), (12, 0, 5), (13, 0, 3), (14, 0, 30), (15, 0, 8), (16, 0, 58), (17, 2, 60), (18, 0, 180), (19, 0, 60), (20, 0, 239), (21, (-2147483648), 2147483647), (22, 0, 180), (23, 0, 60), (24, 0, 238), (25, (-2147483648), 2147483647), (26, (-4), 0), (27, 0, 8)] [9, 10, 30, 32, 33, 35, 36, 37, 38] (by decide +kernel) (fun ρ α => by
  intro r4 g4 b4 r12 g12 b12 r13 g13 b13 r14 g14 b14 r15 g15 b15 r16 g16 b16 r17 g17 b17 r18 g18 b18 r19 g19 b19 r20 g20 b20 r21 g21 b21 r22 g22 b22 r23 g23 b23 r24 g24 b24 r25 g25 b25 r26 g26 b26 r27 g27 b27 a9 h9 a10 h10 a30 h30 a32 h32 a33 h33 a35 h35 a36 h36 a37 h37 a38 h38 f0 f1 f2 f3 f4 f5 f6 f7 f8 f9 f10 f11 f12 f13 tt
  clear f0
  have e114 : PT 114 = P_kgA := pe114_12 hp
  have e142 : PT 142 = P_rdY := pe142_12 hp
  have e143 : PT 143 = P_rdYI := pe143_12 hp
  simp only [hF2, hF4, hF6, hF20, hFp_114, hFp_142, hFp_143, e114, e142, e143, P_kgA, P_rdY, P_rdYI, den_s, den_c, Int.add_zero, List.map_cons, List.map_nil, g4.eq, g12.eq, g13.eq, g14.eq, g15.eq, g16.eq, g17.eq, g18.eq, g19.eq, g20.eq, g21.eq, g22.eq, g23.eq, g24.eq, g25.eq, g26.eq, g27.eq, h9, h10, h30, h32, h33, h35, h36, h37, h38] at f1 f2 f3 f4 f5 f6 f7 f8 f9 f10 f11 f12 f13 ⊢
  subst f2
  subst f3
  subst f4
  subst f5
  subst f6
  subst f7
  subst f8
  subst f9
  subst f11
  subst f12
  obtain ⟨i1, i2, i3, i4⟩ := f13
  first
    | omega
    | exact ⟨fun h => by omega, fun h h' => by omega, fun _ _ => ⟨by first | rfl | trivial, i4, fun h => by have := h.1; omega⟩⟩
    | (obtain ⟨y1, y2, y3⟩ := f1
       rw [show 60 * r13 + 2 * r14 + 1 = 60 * r13 + (2 * r14 + 1) by omega] at y1 y2 y3
       by_cases ok : 0 ≤ a33 (60 * r13 + 2 * r14) ∧ a33 (60 * r13 + 2 * r14) ≤ 23 ∧ 0 ≤ a33 (60 * r13 + (2 * r14 + 1)) ∧ a33 (60 * r13 + (2 * r14 + 1)) ≤ 9
       · by_cases f : r15 < 8
         · obtain ⟨u1, u2, u3, u4⟩ := y2 ok f
           subst u2 u3 u4
           first
             | (exfalso; omega)
             | exact ⟨i1, i2, i3, reI_s i4 (by omega) ok f rfl rfl⟩
         · obtain ⟨u1, u2, u3, u4⟩ := y3 ok (by omega)
           subst u2 u3 u4
           first
             | (exfalso; omega)
             | exact ⟨fun h => by omega, fun h h' => by omega, fun _ _ => ⟨by first | rfl | trivial, i4, fun q => f q.2.2⟩⟩
       · obtain ⟨u1, u2, u3, u4⟩ := y1 ok
         subst u2 u3 u4
         first
           | (exfalso; omega)
           | exact ⟨fun h => by omega, fun h h' => by omega, fun _ _ => ⟨by first | rfl | trivial, i4, fun q => ok q.2.1⟩⟩))
def w_yo_readC_1_6 : VC := ((bY ++ [(0, 3), (0, 30), (0, 8), (0, 58), (2, 60), (0, 180), (0, 60), (0, 239), ((-2147483648), 2147483647), (0, 180), (0, 60), (0, 238), ((-2147483648), 2147483647), (1, 8), (0, 8)]), [(2, [(none, 0), (some 26, 0)], []), (114, [(some 26, 0), (some 21, 0), (some 25, 0), (some 15, 0), (some 27, 0)], [35, 36, 37, 38]), (20, [(some 25, 0), (some 24, 1)], [33]), (4, [(some 24, 0), (some 22, 0), (some 23, 0)], []), (6, [(some 23, 0), (none, 2), (some 14, 0)], []), (6, [(some 22, 0), (none, 60), (some 13, 0)], []), (20, [(some 21, 0), (some 20, 0)], [33]), (4, [(some 20, 0), (some 18, 0), (some 19, 0)], []), (6, [(some 19, 0), (none, 2), (some 14, 0)], []), (6, [(some 18, 0), (none, 60), (some 13, 0)], []), (2, [(some 16, 1), (some 17, 0)], []), (20, [(some 17, 0), (some 13, 0)], [32]), (6, [(some 16, 0), (none, 2), (some 14, 0)], []), (143, [(some 14, 0), (some 4, 0), (some 15, 0), (some 13, 0)], [30, 32, 33, 9, 10, 35, 36])], (3, [(some 14, 1), (none, 0)], []))
set_option maxRecDepth 20000 in
theorem v_yo_readC_1_6 {PT : PTy} (hp : HP12 PT) : vcOk PT w_yo_readC_1_6 := vc_iv [(4, 0, 8), (13, 0, 3), (14, 0, 30), (15, 0, 8), (16, 0, 58), (17, 2, 60), (18, 0, 180), (19, 0, 60), (20, 0, 239), (21, (-2147483648), 2147483647), (22, 0, 180), (23, 0, 60), (24, 0, 238), (25, (-2147483648), 2147483647), (26, 1, 8), (27, 0, 8)] [9, 10, 30, 32, 33, 35, 36, 37, 38] (by decide +kernel) (fun ρ α => by
  intro r4 g4 b4 r13 g13 b13 r14 g14 b14 r15 g15 b15 r16 g16 b16 r17 g17 b17 r18 g18 b18 r19 g19 b19 r20 g20 b20 r21 g21 b21 r22 g22 b22 r23 g23 b23 r24 g24 b24 r25 g25 b25 r26 g26 b26 r27 g27 b27 a9 h9 a10 h10 a30 h30 a32 h32 a33 h33 a35 h35 a36 h36 a37 h37 a38 h38 f0 f1 f2 f3 f4 f5 f6 f7 f8 f9 f10 f11 f12 f13 tt
  clear f0
  have e114 : PT 114 = P_kgA := pe114_12 hp
  have e143 : PT 143 = P_rdYI := pe143_12 hp
  simp only [hF2, hF3, hF4, hF6, hF20, hFp_114, hFp_143, e114, e143, P_kgA, P_rdYI, den_s, den_c, Int.add_zero, List.map_cons, List.map_nil, g4.eq, g13.eq, g14.eq, g15.eq, g16.eq, g17.eq, g18.eq, g19.eq, g20.eq, g21.eq, g22.eq, g23.eq, g24.eq, g25.eq, g26.eq, g27.eq, h9, h10, h30, h32, h33, h35, h36, h37, h38] at f1 f2 f3 f4 f5 f6 f7 f8 f9 f10 f11 f12 f13 ⊢
  subst f2
  subst f3
  subst f4
  subst f5
  subst f6
  subst f7
  subst f8
  subst f9
  subst f11
  subst f12
  obtain ⟨i1, i2, i3, i4⟩ := f13
  first
    | omega
    | exact ⟨fun h => by omega, fun h h' => by omega, fun _ _ => ⟨by first | rfl | trivial, i4, fun h => by have := h.1; omega⟩⟩
    | (obtain ⟨y1, y2, y3⟩ := f1
       rw [show 60 * r13 + 2 * r14 + 1 = 60 * r13 + (2 * r14 + 1) by omega] at y1 y2 y3
       by_cases ok : 0 ≤ a33 (60 * r13 + 2 * r14) ∧ a33 (60 * r13 + 2 * r14) ≤ 23 ∧ 0 ≤ a33 (60 * r13 + (2 * r14 + 1)) ∧ a33 (60 * r13 + (2 * r14 + 1)) ≤ 9
       · by_cases f : r15 < 8
         · obtain ⟨u1, u2, u3, u4⟩ := y2 ok f
           subst u2 u3 u4
           first
             | (exfalso; omega)
             | exact ⟨i1, i2, i3, reI_s i4 (by omega) ok f rfl rfl⟩
         · obtain ⟨u1, u2, u3, u4⟩ := y3 ok (by omega)
           subst u2 u3 u4
           first
             | (exfalso; omega)
             | exact ⟨fun h => by omega, fun h h' => by omega, fun _ _ => ⟨by first | rfl | trivial, i4, fun q => f q.2.2⟩⟩
       · obtain ⟨u1, u2, u3, u4⟩ := y1 ok
         subst u2 u3 u4
         first
           | (exfalso; omega)
           | exact ⟨fun h => by omega, fun h h' => by omega, fun _ _ => ⟨by first | rfl | trivial, i4, fun q => ok q.2.1⟩⟩))
def w_yo_readC_1_7 : VC := ((bY ++ [(0, 3), (0, 30), (0, 8), (0, 58), (2, 60), (0, 180), (0, 60), (0, 239), ((-2147483648), 2147483647), (0, 180), (0, 60), (0, 238), ((-2147483648), 2147483647), (1, 8), (0, 8)]), [(2, [(none, 0), (some 26, 0)], []), (114, [(some 26, 0), (some 21, 0), (some 25, 0), (some 15, 0), (some 27, 0)], [35, 36, 37, 38]), (20, [(some 25, 0), (some 24, 1)], [33]), (4, [(some 24, 0), (some 22, 0), (some 23, 0)], []), (6, [(some 23, 0), (none, 2), (some 14, 0)], []), (6, [(some 22, 0), (none, 60), (some 13, 0)], []), (20, [(some 21, 0), (some 20, 0)], [33]), (4, [(some 20, 0), (some 18, 0), (some 19, 0)], []), (6, [(some 19, 0), (none, 2), (some 14, 0)], []), (6, [(some 18, 0), (none, 60), (some 13, 0)], []), (2, [(some 16, 1), (some 17, 0)], []), (20, [(some 17, 0), (some 13, 0)], [32]), (6, [(some 16, 0), (none, 2), (some 14, 0)], []), (143, [(some 14, 0), (some 4, 0), (some 15, 0), (some 13, 0)], [30, 32, 33, 9, 10, 35, 36])], (3, [(none, 30), (some 14, 1)], []))
set_option maxRecDepth 20000 in
theorem v_yo_readC_1_7 {PT : PTy} (hp : HP12 PT) : vcOk PT w_yo_readC_1_7 := vc_iv [(4, 0, 8), (13, 0, 3), (14, 0, 30), (15, 0, 8), (16, 0, 58), (17, 2, 60), (18, 0, 180), (19, 0, 60), (20, 0, 239), (21, (-2147483648), 2147483647), (22, 0, 180), (23, 0, 60), (24, 0, 238), (25, (-2147483648), 2147483647), (26, 1, 8), (27, 0, 8)] [9, 10, 30, 32, 33, 35, 36, 37, 38] (by decide +kernel) (fun ρ α => by
  intro r4 g4 b4 r13 g13 b13 r14 g14 b14 r15 g15 b15 r16 g16 b16 r17 g17 b17 r18 g18 b18 r19 g19 b19 r20 g20 b20 r21 g21 b21 r22 g22 b22 r23 g23 b23 r24 g24 b24 r25 g25 b25 r26 g26 b26 r27 g27 b27 a9 h9 a10 h10 a30 h30 a32 h32 a33 h33 a35 h35 a36 h36 a37 h37 a38 h38 f0 f1 f2 f3 f4 f5 f6 f7 f8 f9 f10 f11 f12 f13 tt
  clear f0
  have e114 : PT 114 = P_kgA := pe114_12 hp
  have e143 : PT 143 = P_rdYI := pe143_12 hp
  simp only [hF2, hF3, hF4, hF6, hF20, hFp_114, hFp_143, e114, e143, P_kgA, P_rdYI, den_s, den_c, Int.add_zero, List.map_cons, List.map_nil, g4.eq, g13.eq, g14.eq, g15.eq, g16.eq, g17.eq, g18.eq, g19.eq, g20.eq, g21.eq, g22.eq, g23.eq, g24.eq, g25.eq, g26.eq, g27.eq, h9, h10, h30, h32, h33, h35, h36, h37, h38] at f1 f2 f3 f4 f5 f6 f7 f8 f9 f10 f11 f12 f13 ⊢
  subst f2
  subst f3
  subst f4
  subst f5
  subst f6
  subst f7
  subst f8
  subst f9
  subst f11
  subst f12
  obtain ⟨i1, i2, i3, i4⟩ := f13
  first
    | omega
    | exact ⟨fun h => by omega, fun h h' => by omega, fun _ _ => ⟨by first | rfl | trivial, i4, fun h => by have := h.1; omega⟩⟩
    | (obtain ⟨y1, y2, y3⟩ := f1
       rw [show 60 * r13 + 2 * r14 + 1 = 60 * r13 + (2 * r14 + 1) by omega] at y1 y2 y3
       by_cases ok : 0 ≤ a33 (60 * r13 + 2 * r14) ∧ a33 (60 * r13 + 2 * r14) ≤ 23 ∧ 0 ≤ a33 (60 * r13 + (2 * r14 + 1)) ∧ a33 (60 * r13 + (2 * r14 + 1)) ≤ 9
       · by_cases f : r15 < 8
         · obtain ⟨u1, u2, u3, u4⟩ := y2 ok f
           subst u2 u3 u4
           first
             | (exfalso; omega)
             | exact ⟨i1, i2, i3, reI_s i4 (by omega) ok f rfl rfl⟩
         · obtain ⟨u1, u2, u3, u4⟩ := y3 ok (by omega)
           subst u2 u3 u4
           first
             | (exfalso; omega)
             | exact ⟨fun h => by omega, fun h h' => by omega, fun _ _ => ⟨by first | rfl | trivial, i4, fun q => f q.2.2⟩⟩
       · obtain ⟨u1, u2, u3, u4⟩ := y1 ok
         subst u2 u3 u4
         first
           | (exfalso; omega)
           | exact ⟨fun h => by omega, fun h h' => by omega, fun _ _ => ⟨by first | rfl | trivial, i4, fun q => ok q.2.1⟩⟩))
def w_yo_readC_1_8 : VC := ((bY ++ [(0, 3), (0, 30), (0, 8), (0, 58), (2, 60), (0, 180), (0, 60), (0, 239), ((-2147483648), 2147483647), (0, 180), (0, 60), (0, 238), ((-2147483648), 2147483647), (1, 8), (0, 8)]), [(2, [(none, 0), (some 26, 0)], []), (114, [(some 26, 0), (some 21, 0), (some 25, 0), (some 15, 0), (some 27, 0)], [35, 36, 37, 38]), (20, [(some 25, 0), (some 24, 1)], [33]), (4, [(some 24, 0), (some 22, 0), (some 23, 0)], []), (6, [(some 23, 0), (none, 2), (some 14, 0)], []), (6, [(some 22, 0), (none, 60), (some 13, 0)], []), (20, [(some 21, 0), (some 20, 0)], [33]), (4, [(some 20, 0), (some 18, 0), (some 19, 0)], []), (6, [(some 19, 0), (none, 2), (some 14, 0)], []), (6, [(some 18, 0), (none, 60), (some 13, 0)], []), (2, [(some 16, 1), (some 17, 0)], []), (20, [(some 17, 0), (some 13, 0)], [32]), (6, [(some 16, 0), (none, 2), (some 14, 0)], []), (143, [(some 14, 0), (some 4, 0), (some 15, 0), (some 13, 0)], [30, 32, 33, 9, 10, 35, 36])], (143, [(some 14, 1), (some 4, 0), (some 27, 0), (some 13, 0)], [30, 32, 33, 9, 10, 37, 38]))
set_option maxRecDepth 20000 in
theorem v_yo_readC_1_8 {PT : PTy} (hp : HP12 PT) : vcOk PT w_yo_readC_1_8 := vc_iv [(4, 0, 8), (13, 0, 3), (14, 0, 30), (15, 0, 8), (16, 0, 58), (17, 2, 60), (18, 0, 180), (19, 0, 60), (20, 0, 239), (21, (-2147483648), 2147483647), (22, 0, 180), (23, 0, 60), (24, 0, 238), (25, (-2147483648), 2147483647), (26, 1, 8), (27, 0, 8)] [9, 10, 30, 32, 33, 35, 36, 37, 38] (by decide +kernel) (fun ρ α => by
  intro r4 g4 b4 r13 g13 b13 r14 g14 b14 r15 g15 b15 r16 g16 b16 r17 g17 b17 r18 g18 b18 r19 g19 b19 r20 g20 b20 r21 g21 b21 r22 g22 b22 r23 g23 b23 r24 g24 b24 r25 g25 b25 r26 g26 b26 r27 g27 b27 a9 h9 a10 h10 a30 h30 a32 h32 a33 h33 a35 h35 a36 h36 a37 h37 a38 h38 f0 f1 f2 f3 f4 f5 f6 f7 f8 f9 f10 f11 f12 f13 tt
  clear f0
  have e114 : PT 114 = P_kgA := pe114_12 hp
  have e143 : PT 143 = P_rdYI := pe143_12 hp
  simp only [hF2, hF4, hF6, hF20, hFp_114, hFp_143, e114, e143, P_kgA, P_rdYI, den_s, den_c, Int.add_zero, List.map_cons, List.map_nil, g4.eq, g13.eq, g14.eq, g15.eq, g16.eq, g17.eq, g18.eq, g19.eq, g20.eq, g21.eq, g22.eq, g23.eq, g24.eq, g25.eq, g26.eq, g27.eq, h9, h10, h30, h32, h33, h35, h36, h37, h38] at f1 f2 f3 f4 f5 f6 f7 f8 f9 f10 f11 f12 f13 ⊢
  subst f2
  subst f3
  subst f4
  subst f5
  subst f6
  subst f7
  subst f8
  subst f9
  subst f11
  subst f12
  obtain ⟨i1, i2, i3, i4⟩ := f13
  first
    | omega
    | exact ⟨fun h => by omega, fun h h' => by omega, fun _ _ => ⟨by first | rfl | trivial, i4, fun h => by have := h.1; omega⟩⟩
    | (obtain ⟨y1, y2, y3⟩ := f1
       rw [show 60 * r13 + 2 * r14 + 1 = 60 * r13 + (2 * r14 + 1) by omega] at y1 y2 y3
       by_cases ok : 0 ≤ a33 (60 * r13 + 2 * r14) ∧ a33 (60 * r13 + 2 * r14) ≤ 23 ∧ 0 ≤ a33 (60 * r13 + (2 * r14 + 1)) ∧ a33 (60 * r13 + (2 * r14 + 1)) ≤ 9
       · by_cases f : r15 < 8
         · obtain ⟨u1, u2, u3, u4⟩ := y2 ok f
           subst u2 u3 u4
           first
             | (exfalso; omega)
             | exact ⟨i1, i2, i3, reI_s i4 (by omega) ok f rfl rfl⟩
         · obtain ⟨u1, u2, u3, u4⟩ := y3 ok (by omega)
           subst u2 u3 u4
           first
             | (exfalso; omega)
             | exact ⟨fun h => by omega, fun h h' => by omega, fun _ _ => ⟨by first | rfl | trivial, i4, fun q => f q.2.2⟩⟩
       · obtain ⟨u1, u2, u3, u4⟩ := y1 ok
         subst u2 u3 u4
         first
           | (exfalso; omega)
           | exact ⟨fun h => by omega, fun h h' => by omega, fun _ _ => ⟨by first | rfl | trivial, i4, fun q => ok q.2.1⟩⟩))
set_option maxRecDepth 1000000 in
theorem k_yo_readC {PT : PTy} (hp : HP12 PT) : wfX c_yo_readC = true ∧ xcOk PT c_yo_readC := xctr (xl (k_yo_keeping hp.1.1.1.1.1) (xl0)) c_yo_readC 58 mX7_read rfl h_yo_readC (by decide +kernel) (by decide +kernel) (by decide) (vcs_by [w_yo_readC_0_0, w_yo_readC_0_1, w_yo_readC_0_2, w_yo_readC_0_3] (by decide +kernel) (vc (v_yo_readC_0_0 hp) (vc (v_yo_readC_0_1 hp) (vc (v_yo_readC_0_2 hp) (vc (v_yo_readC_0_3 hp) vn))))) (fmc (vcs_by [w_yo_readC_1_0, w_yo_readC_1_1, w_yo_readC_1_2, w_yo_readC_1_3, w_yo_readC_1_4, w_yo_readC_1_5, w_yo_readC_1_6, w_yo_readC_1_7, w_yo_readC_1_8] (by decide +kernel) (vc (v_yo_readC_1_0 hp) (vc (v_yo_readC_1_1 hp) (vc (v_yo_readC_1_2 hp) (vc (v_yo_readC_1_3 hp) (vc (v_yo_readC_1_4 hp) (vc (v_yo_readC_1_5 hp) (vc (v_yo_readC_1_6 hp) (vc (v_yo_readC_1_7 hp) (vc (v_yo_readC_1_8 hp) vn)))))))))) fmn)
