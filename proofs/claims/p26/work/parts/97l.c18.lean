/-! ===== plans; printed by wip/gen/x ===== -/
def P_sbX (l : List Int) (a : List (Int → Int)) : Prop := match l, a with
  | [r, d, ns, n], [sd, sw, sm, C] => (r = 1 ∧ ∀ j, 0 ≤ j → j < ns → sd j = d → okS n C sw sm j) ∨ (r = 0 ∧ ∃ j, 0 ≤ j ∧ j < ns ∧ sd j = d ∧ ¬ okS n C sw sm j)
  | _, _ => False
theorem hFp_194 {PT : PTy} {ρ : Nat → Int} {α : Nat → Int → Int} (l : List AN) (a : List Nat) : hF PT ρ α (194, l, a) = PT 194 (l.map (den ρ)) (a.map α) := rfl
def P_sbI (l : List Int) (a : List (Int → Int)) : Prop := match l, a with
  | [i, d, n], [sd, sw, sm, C] => ∀ j, 0 ≤ j → j < i → sd j = d → okS n C sw sm j
  | _, _ => False
theorem hFp_195 {PT : PTy} {ρ : Nat → Int} {α : Nat → Int → Int} (l : List AN) (a : List Nat) : hF PT ρ α (195, l, a) = PT 195 (l.map (den ρ)) (a.map α) := rfl
def P_saI (l : List Int) (a : List (Int → Int)) : Prop := match l, a with
  | [d, ns, n, m, nk, nl, nt, u, h], [so, sz, wh, gr, md, du, kd, ko, ld, lw, lm, td, tw, tm, sd, sw, sm] => ∀ j, 0 ≤ j → j < ns → 0 ≤ sd j → sd j < d → shX1 n m nk nl nt u h so sz wh gr md du kd ko ld lw lm td tw tm sd sw sm j
  | _, _ => False
theorem hFp_196 {PT : PTy} {ρ : Nat → Int} {α : Nat → Int → Int} (l : List AN) (a : List Nat) : hF PT ρ α (196, l, a) = PT 196 (l.map (den ρ)) (a.map α) := rfl
def P_saX (l : List Int) (a : List (Int → Int)) : Prop := match l, a with
  | [r, ns, n, m, nk, nl, nt, u, h], [so, sz, wh, gr, md, du, kd, ko, ld, lw, lm, td, tw, tm, sd, sw, sm] => shQ ns n m nk nl nt u h so sz wh gr md du kd ko ld lw lm td tw tm sd sw sm r
  | _, _ => False
theorem hFp_197 {PT : PTy} {ρ : Nat → Int} {α : Nat → Int → Int} (l : List AN) (a : List Nat) : hF PT ρ α (197, l, a) = PT 197 (l.map (den ρ)) (a.map α) := rfl
def P_nvI (l : List Int) (a : List (Int → Int)) : Prop := match l, a with
  | [i, b, ns, n, m, nk, nl, nt], [so, sz, wh, gr, md, du, kd, ko, ld, lw, lm, td, tw, tm, sd, sw, sm] => obB (fun j v => shQ ns n m nk nl nt (mShl 1 j) 0 so sz wh gr md du kd ko ld lw lm td tw tm sd sw sm v) i b
  | _, _ => False
theorem hFp_198 {PT : PTy} {ρ : Nat → Int} {α : Nat → Int → Int} (l : List AN) (a : List Nat) : hF PT ρ α (198, l, a) = PT 198 (l.map (den ρ)) (a.map α) := rfl
def P_onvX (l : List Int) (a : List (Int → Int)) : Prop := match l, a with
  | [r, ns, n, m, nk, nl, nt], [so, sz, wh, gr, md, du, kd, ko, ld, lw, lm, td, tw, tm, sd, sw, sm] => obB (fun j v => shQ ns n m nk nl nt (mShl 1 j) 0 so sz wh gr md du kd ko ld lw lm td tw tm sd sw sm v) nk r
  | _, _ => False
theorem hFp_199 {PT : PTy} {ρ : Nat → Int} {α : Nat → Int → Int} (l : List AN) (a : List Nat) : hF PT ρ α (199, l, a) = PT 199 (l.map (den ρ)) (a.map α) := rfl
def P_sy (l : List Int) (a : List (Int → Int)) : Prop := match l, a with
  | [r, ns, n], [sd, sw, sm, CA] => shT ns n CA sd sw sm r
  | _, _ => False
theorem hFp_200 {PT : PTy} {ρ : Nat → Int} {α : Nat → Int → Int} (l : List AN) (a : List Nat) : hF PT ρ α (200, l, a) = PT 200 (l.map (den ρ)) (a.map α) := rfl
def P_nyI (l : List Int) (a : List (Int → Int)) : Prop := match l, a with
  | [i, b, ns, n, m, nk, nl, nt], [so, sz, wh, gr, md, du, KD, KO, ld, lw, lm, td, tw, tm, sd, sw, sm] => obB (fun j v => shYQ ns n m nk nl nt (mShl 1 j) 0 so sz wh gr md du KD KO ld lw lm td tw tm sd sw sm v) i b
  | _, _ => False
theorem hFp_201 {PT : PTy} {ρ : Nat → Int} {α : Nat → Int → Int} (l : List AN) (a : List Nat) : hF PT ρ α (201, l, a) = PT 201 (l.map (den ρ)) (a.map α) := rfl
def P_onvY (l : List Int) (a : List (Int → Int)) : Prop := match l, a with
  | [r, ns, n, m, nk, nl, nt], [L, T, so, sz, wh, gr, md, du, KD, KO, kd, ko, ld, lw, lm, td, tw, tm, sd, sw, sm] => toY n m nk L T so sz wh gr md du KD KO kd ko ∧ obB (fun j v => shYQ ns n m nk nl nt (mShl 1 j) 0 so sz wh gr md du KD KO ld lw lm td tw tm sd sw sm v) nk r
  | _, _ => False
theorem hFp_202 {PT : PTy} {ρ : Nat → Int} {α : Nat → Int → Int} (l : List AN) (a : List Nat) : hF PT ρ α (202, l, a) = PT 202 (l.map (den ρ)) (a.map α) := rfl
def HP15 (PT : PTy) : Prop := HP14 PT ∧ (PT 194 = P_sbX ∧ PT 195 = P_sbI ∧ PT 196 = P_saI ∧ PT 197 = P_saX ∧ PT 198 = P_nvI ∧ PT 199 = P_onvX ∧ PT 200 = P_sy ∧ PT 201 = P_nyI ∧ PT 202 = P_onvY ∧ True)
def c_showsBehind : XC := (16, 1, (bX ++ [(0, 23)]), [.inr (.inl 5), .inl (some 14, 0), .inr (.inl 31)], (gX 14), [], [((bX ++ [(0, 23), (0, 1)]), some (.inl (some 15, 0)), (gX 14), (List.range 58), 58, [(194, [(some 15, 0), (some 14, 0), (some 7, 0), (some 2, 0)], [32, 33, 34, 28])])])
def h_showsBehind : List XH := [(2, (bX ++ [(0, 23), (0, 8)]), [some (.inr (.inl 5)), some (.inl (some 14, 0)), some (.inr (.inl 31)), some (.inl (some 15, 0)), none], (gX 14), (List.range 58), 58, [(195, [(some 15, 0), (some 14, 0), (some 2, 0)], [32, 33, 34, 28]), (3, [(some 7, 0), (some 15, 0)], [])], [(true, (none, 1)), (true, (some 15, 0))])]
def w_showsBehind_0_0 : VC := ((bX ++ [(0, 23)]), [], (195, [(none, 0), (some 14, 0), (some 2, 0)], [32, 33, 34, 28]))
theorem pe195_15 {PT : PTy} (hp : HP15 PT) : PT 195 = P_sbI := hp.2.2.1
set_option maxRecDepth 20000 in
theorem v_showsBehind_0_0 {PT : PTy} (hp : HP15 PT) : vcOk PT w_showsBehind_0_0 := vc_iv [(2, 0, 8), (14, 0, 23)] [28, 32, 33, 34] (by decide +kernel) (fun ρ α => by
  intro r2 g2 b2 r14 g14 b14 a28 h28 a32 h32 a33 h33 a34 h34 tt
  have e195 : PT 195 = P_sbI := pe195_15 hp
  simp only [hFp_195, e195, P_sbI, den_s, den_c, Int.add_zero, List.map_cons, List.map_nil, g2.eq, g14.eq, h28, h32, h33, h34] at ⊢
  first
    | omega
    | (intro j h1 h2; exfalso; omega))
def w_showsBehind_0_1 : VC := ((bX ++ [(0, 23)]), [], (3, [(some 7, 0), (none, 0)], []))
set_option maxRecDepth 20000 in
theorem v_showsBehind_0_1 {PT : PTy} (hp : HP15 PT) : vcOk PT w_showsBehind_0_1 := vc_iv [(7, 0, 8)] [] (by decide +kernel) (fun ρ α => by
  intro r7 g7 b7 tt
  simp only [hF3, den_s, den_c, Int.add_zero, List.map_cons, List.map_nil, g7.eq] at ⊢
  first
    | omega
    | (intro j h1 h2; exfalso; omega))
def w_showsBehind_1_0 : VC := ((bX ++ [(0, 23), (0, 8)]), [(3, [(some 15, 0), (some 7, 0)], []), (195, [(some 15, 0), (some 14, 0), (some 2, 0)], [32, 33, 34, 28]), (3, [(some 7, 0), (some 15, 0)], [])], (194, [(none, 1), (some 14, 0), (some 7, 0), (some 2, 0)], [32, 33, 34, 28]))
theorem pe194_15 {PT : PTy} (hp : HP15 PT) : PT 194 = P_sbX := hp.2.1
set_option maxRecDepth 20000 in
theorem v_showsBehind_1_0 {PT : PTy} (hp : HP15 PT) : vcOk PT w_showsBehind_1_0 := vc_iv [(2, 0, 8), (7, 0, 8), (14, 0, 23), (15, 0, 8)] [28, 32, 33, 34] (by decide +kernel) (fun ρ α => by
  intro r2 g2 b2 r7 g7 b7 r14 g14 b14 r15 g15 b15 a28 h28 a32 h32 a33 h33 a34 h34 f0 f1 f2 tt
  have e194 : PT 194 = P_sbX := pe194_15 hp
  have e195 : PT 195 = P_sbI := pe195_15 hp
  simp only [hF3, hFp_194, hFp_195, e194, e195, P_sbX, P_sbI, den_s, den_c, Int.add_zero, List.map_cons, List.map_nil, g2.eq, g7.eq, g14.eq, g15.eq, h28, h32, h33, h34] at f0 f1 f2 ⊢
  first
    | exact Or.inl ⟨by first | rfl | trivial, fun j h1 h2 hd => f1 j h1 (by omega) hd⟩
    | exact Or.inr ⟨by first | rfl | trivial, r15, by omega, by omega, by omega, fun h => by unfold okS at h; omega⟩)
def w_showsBehind_1_1 : VC := (([(0, 23), (0, 49), (0, 8), (0, 11), (0, 9), (0, 6), (0, 6), (1, 8), (0, 9), (0, 49), (0, 49), ((-2147483648), 2147483647), ((-2147483648), 2147483647), (0, 5), (0, 23), (0, 7), (0, 7), (0, 23)]), [(1, [(some 17, 0), (some 14, 0)], []), (20, [(some 17, 0), (some 15, 0)], [32]), (20, [(some 16, 0), (some 15, 0)], [33]), (2, [(some 15, 0), (some 7, 0)], []), (195, [(some 15, 0), (some 14, 0), (some 2, 0)], [32, 33, 34, 28]), (3, [(some 7, 0), (some 15, 0)], [])], (195, [(some 15, 1), (some 14, 0), (some 2, 0)], [32, 33, 34, 28]))
set_option maxRecDepth 20000 in
theorem v_showsBehind_1_1 {PT : PTy} (hp : HP15 PT) : vcOk PT w_showsBehind_1_1 := vc_iv [(2, 0, 8), (7, 1, 8), (14, 0, 23), (15, 0, 7), (16, 0, 7), (17, 0, 23)] [28, 32, 33, 34] (by decide +kernel) (fun ρ α => by
  intro r2 g2 b2 r7 g7 b7 r14 g14 b14 r15 g15 b15 r16 g16 b16 r17 g17 b17 a28 h28 a32 h32 a33 h33 a34 h34 f0 f1 f2 f3 f4 f5 tt
  have e195 : PT 195 = P_sbI := pe195_15 hp
  simp only [hF1, hF2, hF3, hF20, hFp_195, e195, P_sbI, den_s, den_c, Int.add_zero, List.map_cons, List.map_nil, g2.eq, g7.eq, g14.eq, g15.eq, g16.eq, g17.eq, h28, h32, h33, h34] at f0 f1 f2 f3 f4 f5 ⊢
  subst f1
  subst f2
  intro j h1 h2 hd
  by_cases q : j = r15
  · subst q
    unfold okS
    first
      | (exfalso; omega)
      | exact ⟨by omega, by omega, by omega⟩
  · exact f4 j h1 (by omega) hd)
def w_showsBehind_1_2 : VC := (([(0, 23), (0, 49), (0, 8), (0, 11), (0, 9), (0, 6), (0, 6), (1, 8), (0, 9), (0, 49), (0, 49), ((-2147483648), 2147483647), ((-2147483648), 2147483647), (0, 5), (0, 23), (0, 7), (0, 7), (0, 23)]), [(1, [(some 17, 0), (some 14, 0)], []), (20, [(some 17, 0), (some 15, 0)], [32]), (20, [(some 16, 0), (some 15, 0)], [33]), (2, [(some 15, 0), (some 7, 0)], []), (195, [(some 15, 0), (some 14, 0), (some 2, 0)], [32, 33, 34, 28]), (3, [(some 7, 0), (some 15, 0)], [])], (3, [(some 7, 0), (some 15, 1)], []))
set_option maxRecDepth 20000 in
theorem v_showsBehind_1_2 {PT : PTy} (hp : HP15 PT) : vcOk PT w_showsBehind_1_2 := vc_iv [(2, 0, 8), (7, 1, 8), (14, 0, 23), (15, 0, 7), (16, 0, 7), (17, 0, 23)] [28, 32, 33, 34] (by decide +kernel) (fun ρ α => by
  intro r2 g2 b2 r7 g7 b7 r14 g14 b14 r15 g15 b15 r16 g16 b16 r17 g17 b17 a28 h28 a32 h32 a33 h33 a34 h34 f0 f1 f2 f3 f4 f5 tt
  have e195 : PT 195 = P_sbI := pe195_15 hp
  simp only [hF1, hF2, hF3, hF20, hFp_195, e195, P_sbI, den_s, den_c, Int.add_zero, List.map_cons, List.map_nil, g2.eq, g7.eq, g14.eq, g15.eq, g16.eq, g17.eq, h28, h32, h33, h34] at f0 f1 f2 f3 f4 f5 ⊢
  subst f1
  subst f2
  omega)
def w_showsBehind_1_3 : VC := (([(0, 23), (0, 49), (0, 7), (0, 11), (0, 9), (0, 6), (0, 6), (1, 8), (0, 9), (0, 49), (0, 49), ((-2147483648), 2147483647), ((-2147483648), 2147483647), (0, 5), (0, 23), (0, 7), (0, 7), (0, 23)]), [(0, [(none, 0), (none, 0)], []), (3, [(some 16, 0), (some 2, 0)], []), (3, [(some 16, 0), (none, 0)], []), (0, [(some 17, 0), (some 14, 0)], []), (20, [(some 17, 0), (some 15, 0)], [32]), (20, [(some 16, 0), (some 15, 0)], [33]), (2, [(some 15, 0), (some 7, 0)], []), (195, [(some 15, 0), (some 14, 0), (some 2, 0)], [32, 33, 34, 28]), (3, [(some 7, 0), (some 15, 0)], [])], (194, [(none, 0), (some 14, 0), (some 7, 0), (some 2, 0)], [32, 33, 34, 28]))
set_option maxRecDepth 20000 in
theorem v_showsBehind_1_3 {PT : PTy} (hp : HP15 PT) : vcOk PT w_showsBehind_1_3 := vc_iv [(2, 0, 7), (7, 1, 8), (14, 0, 23), (15, 0, 7), (16, 0, 7), (17, 0, 23)] [28, 32, 33, 34] (by decide +kernel) (fun ρ α => by
  intro r2 g2 b2 r7 g7 b7 r14 g14 b14 r15 g15 b15 r16 g16 b16 r17 g17 b17 a28 h28 a32 h32 a33 h33 a34 h34 f0 f1 f2 f3 f4 f5 f6 f7 f8 tt
  clear f0 f2
  have e194 : PT 194 = P_sbX := pe194_15 hp
  have e195 : PT 195 = P_sbI := pe195_15 hp
  simp only [hF0, hF2, hF3, hF20, hFp_194, hFp_195, e194, e195, P_sbX, P_sbI, den_s, den_c, Int.add_zero, List.map_cons, List.map_nil, g2.eq, g7.eq, g14.eq, g15.eq, g16.eq, g17.eq, h28, h32, h33, h34] at f1 f3 f4 f5 f6 f7 f8 ⊢
  subst f4
  subst f5
  first
    | exact Or.inl ⟨by first | rfl | trivial, fun j h1 h2 hd => f7 j h1 (by omega) hd⟩
    | exact Or.inr ⟨by first | rfl | trivial, r15, by omega, by omega, by omega, fun h => by unfold okS at h; omega⟩)
def w_showsBehind_1_4 : VC := (([(0, 23), (0, 49), (1, 8), (0, 11), (0, 9), (0, 6), (0, 6), (1, 8), (0, 9), (0, 49), (0, 49), ((-2147483648), 2147483647), ((-2147483648), 2147483647), (0, 5), (0, 23), (0, 7), (0, 7), (0, 23), (0, 99), (0, 99)]), [(0, [(some 18, 0), (some 19, 0)], []), (20, [(some 19, 0), (some 15, 0)], [34]), (20, [(some 18, 0), (some 16, 0)], [28]), (1, [(none, 1), (none, 0)], []), (2, [(some 16, 0), (some 2, 0)], []), (3, [(some 16, 0), (none, 0)], []), (0, [(some 17, 0), (some 14, 0)], []), (20, [(some 17, 0), (some 15, 0)], [32]), (20, [(some 16, 0), (some 15, 0)], [33]), (2, [(some 15, 0), (some 7, 0)], []), (195, [(some 15, 0), (some 14, 0), (some 2, 0)], [32, 33, 34, 28]), (3, [(some 7, 0), (some 15, 0)], [])], (195, [(some 15, 1), (some 14, 0), (some 2, 0)], [32, 33, 34, 28]))
set_option maxRecDepth 20000 in
theorem v_showsBehind_1_4 {PT : PTy} (hp : HP15 PT) : vcOk PT w_showsBehind_1_4 := vc_iv [(2, 1, 8), (7, 1, 8), (14, 0, 23), (15, 0, 7), (16, 0, 7), (17, 0, 23), (18, 0, 99), (19, 0, 99)] [28, 32, 33, 34] (by decide +kernel) (fun ρ α => by
  intro r2 g2 b2 r7 g7 b7 r14 g14 b14 r15 g15 b15 r16 g16 b16 r17 g17 b17 r18 g18 b18 r19 g19 b19 a28 h28 a32 h32 a33 h33 a34 h34 f0 f1 f2 f3 f4 f5 f6 f7 f8 f9 f10 f11 tt
  clear f3 f5
  have e195 : PT 195 = P_sbI := pe195_15 hp
  simp only [hF0, hF2, hF3, hF20, hFp_195, e195, P_sbI, den_s, den_c, Int.add_zero, List.map_cons, List.map_nil, g2.eq, g7.eq, g14.eq, g15.eq, g16.eq, g17.eq, g18.eq, g19.eq, h28, h32, h33, h34] at f0 f1 f2 f4 f6 f7 f8 f9 f10 f11 ⊢
  subst f1
  subst f2
  subst f7
  subst f8
  intro j h1 h2 hd
  by_cases q : j = r15
  · subst q
    unfold okS
    first
      | (exfalso; omega)
      | exact ⟨by omega, by omega, by omega⟩
  · exact f10 j h1 (by omega) hd)
def w_showsBehind_1_5 : VC := (([(0, 23), (0, 49), (1, 8), (0, 11), (0, 9), (0, 6), (0, 6), (1, 8), (0, 9), (0, 49), (0, 49), ((-2147483648), 2147483647), ((-2147483648), 2147483647), (0, 5), (0, 23), (0, 7), (0, 7), (0, 23), (0, 99), (0, 99)]), [(0, [(some 18, 0), (some 19, 0)], []), (20, [(some 19, 0), (some 15, 0)], [34]), (20, [(some 18, 0), (some 16, 0)], [28]), (1, [(none, 1), (none, 0)], []), (2, [(some 16, 0), (some 2, 0)], []), (3, [(some 16, 0), (none, 0)], []), (0, [(some 17, 0), (some 14, 0)], []), (20, [(some 17, 0), (some 15, 0)], [32]), (20, [(some 16, 0), (some 15, 0)], [33]), (2, [(some 15, 0), (some 7, 0)], []), (195, [(some 15, 0), (some 14, 0), (some 2, 0)], [32, 33, 34, 28]), (3, [(some 7, 0), (some 15, 0)], [])], (3, [(some 7, 0), (some 15, 1)], []))
set_option maxRecDepth 20000 in
theorem v_showsBehind_1_5 {PT : PTy} (hp : HP15 PT) : vcOk PT w_showsBehind_1_5 := vc_iv [(2, 1, 8), (7, 1, 8), (14, 0, 23), (15, 0, 7), (16, 0, 7), (17, 0, 23), (18, 0, 99), (19, 0, 99)] [28, 32, 33, 34] (by decide +kernel) (fun ρ α => by
  intro r2 g2 b2 r7 g7 b7 r14 g14 b14 r15 g15 b15 r16 g16 b16 r17 g17 b17 r18 g18 b18 r19 g19 b19 a28 h28 a32 h32 a33 h33 a34 h34 f0 f1 f2 f3 f4 f5 f6 f7 f8 f9 f10 f11 tt
  clear f3 f5
  have e195 : PT 195 = P_sbI := pe195_15 hp
  simp only [hF0, hF2, hF3, hF20, hFp_195, e195, P_sbI, den_s, den_c, Int.add_zero, List.map_cons, List.map_nil, g2.eq, g7.eq, g14.eq, g15.eq, g16.eq, g17.eq, g18.eq, g19.eq, h28, h32, h33, h34] at f0 f1 f2 f4 f6 f7 f8 f9 f10 f11 ⊢
  subst f1
  subst f2
  subst f7
  subst f8
  omega)
def w_showsBehind_1_6 : VC := (([(0, 23), (0, 49), (1, 8), (0, 11), (0, 9), (0, 6), (0, 6), (1, 8), (0, 9), (0, 49), (0, 49), ((-2147483648), 2147483647), ((-2147483648), 2147483647), (0, 5), (0, 23), (0, 7), (0, 7), (0, 23), (0, 99), (0, 99)]), [(1, [(some 18, 0), (some 19, 0)], []), (20, [(some 19, 0), (some 15, 0)], [34]), (20, [(some 18, 0), (some 16, 0)], [28]), (1, [(none, 1), (none, 0)], []), (2, [(some 16, 0), (some 2, 0)], []), (3, [(some 16, 0), (none, 0)], []), (0, [(some 17, 0), (some 14, 0)], []), (20, [(some 17, 0), (some 15, 0)], [32]), (20, [(some 16, 0), (some 15, 0)], [33]), (2, [(some 15, 0), (some 7, 0)], []), (195, [(some 15, 0), (some 14, 0), (some 2, 0)], [32, 33, 34, 28]), (3, [(some 7, 0), (some 15, 0)], [])], (194, [(none, 0), (some 14, 0), (some 7, 0), (some 2, 0)], [32, 33, 34, 28]))
set_option maxRecDepth 20000 in
theorem v_showsBehind_1_6 {PT : PTy} (hp : HP15 PT) : vcOk PT w_showsBehind_1_6 := vc_iv [(2, 1, 8), (7, 1, 8), (14, 0, 23), (15, 0, 7), (16, 0, 7), (17, 0, 23), (18, 0, 99), (19, 0, 99)] [28, 32, 33, 34] (by decide +kernel) (fun ρ α => by
  intro r2 g2 b2 r7 g7 b7 r14 g14 b14 r15 g15 b15 r16 g16 b16 r17 g17 b17 r18 g18 b18 r19 g19 b19 a28 h28 a32 h32 a33 h33 a34 h34 f0 f1 f2 f3 f4 f5 f6 f7 f8 f9 f10 f11 tt
  clear f3 f5
  have e194 : PT 194 = P_sbX := pe194_15 hp
  have e195 : PT 195 = P_sbI := pe195_15 hp
  simp only [hF0, hF1, hF2, hF3, hF20, hFp_194, hFp_195, e194, e195, P_sbX, P_sbI, den_s, den_c, Int.add_zero, List.map_cons, List.map_nil, g2.eq, g7.eq, g14.eq, g15.eq, g16.eq, g17.eq, g18.eq, g19.eq, h28, h32, h33, h34] at f0 f1 f2 f4 f6 f7 f8 f9 f10 f11 ⊢
  subst f1
  subst f2
  subst f7
  subst f8
  first
    | exact Or.inl ⟨by first | rfl | trivial, fun j h1 h2 hd => f10 j h1 (by omega) hd⟩
    | exact Or.inr ⟨by first | rfl | trivial, r15, by omega, by omega, by omega, fun h => by unfold okS at h; omega⟩)
set_option maxRecDepth 1000000 in
theorem k_showsBehind {PT : PTy} (hp : HP15 PT) : wfX c_showsBehind = true ∧ xcOk PT c_showsBehind := xctr (xl0) c_showsBehind 61 mX0_showsBehind rfl h_showsBehind (by decide +kernel) (by decide +kernel) (by decide) (vcs_by [w_showsBehind_0_0, w_showsBehind_0_1] (by decide +kernel) (vc (v_showsBehind_0_0 hp) (vc (v_showsBehind_0_1 hp) vn))) (fmc (vcs_by [w_showsBehind_1_0, w_showsBehind_1_1, w_showsBehind_1_2, w_showsBehind_1_3, w_showsBehind_1_4, w_showsBehind_1_5, w_showsBehind_1_6] (by decide +kernel) (vc (v_showsBehind_1_0 hp) (vc (v_showsBehind_1_1 hp) (vc (v_showsBehind_1_2 hp) (vc (v_showsBehind_1_3 hp) (vc (v_showsBehind_1_4 hp) (vc (v_showsBehind_1_5 hp) (vc (v_showsBehind_1_6 hp) vn)))))))) fmn)
def c_showsAll : XC := (15, 3, (bX), [.inr (.inl 5), .inr (.inl 31)], (gX 14), [(150, [(some 9, 0), (some 2, 0), (some 3, 0), (some 4, 0), (some 5, 0), (some 6, 0)], [26, 27, 7, 8, 10, 11, 12, 13, 15, 16, 19, 20, 21, 23, 24, 25])], [((bX ++ [(0, 1), (0, 49)]), some (.inl (some 14, 0)), (hst (gX 14) [(5, .inr (.inr (.inr (0, [.inr (.inl 6), .inr (.inl 9), .inr (.inl 14), .inr (.inl 18), .inr (.inl 22), .inr (.inl 26), .inr (.inl 27), .inr (.inl 28), .inr (.inl 29), .inr (.inl 30), .inl (some 9, 0), .inl (some 15, 0), .inl (some 11, 0), .inl (some 12, 0), .inr (.inl 14)]))))]), (ansT 58 [(28, 58), (29, 59), (30, 60)]), 61, [(197, [(some 14, 0), (some 7, 0), (some 2, 0), (some 3, 0), (some 4, 0), (some 5, 0), (some 6, 0), (some 11, 0), (some 12, 0)], [7, 8, 10, 11, 12, 13, 15, 16, 19, 20, 21, 23, 24, 25, 32, 33, 34])])])
def h_showsAll : List XH := [(6, (bX ++ [(0, 24), (0, 49)]), [some (.inr (.inl 5)), some (.inr (.inl 31)), some (.inl (some 14, 0))], (hst (gX 14) [(5, .inr (.inr (.inr (0, [.inr (.inl 6), .inr (.inl 9), .inr (.inl 14), .inr (.inl 18), .inr (.inl 22), .inr (.inl 26), .inr (.inl 27), .inr (.inl 28), .inr (.inl 29), .inr (.inl 30), .inl (some 9, 0), .inl (some 15, 0), .inl (some 11, 0), .inl (some 12, 0), .inr (.inl 14)]))))]), (ansT 58 [(28, 58), (29, 59), (30, 60)]), 61, [(149, [(some 15, 0), (some 14, 0), (some 2, 0), (some 3, 0), (some 4, 0), (some 5, 0), (some 6, 0), (some 11, 0), (some 12, 0)], [7, 8, 10, 11, 12, 13, 15, 16, 19, 20, 21, 23, 24, 25, 26, 58, 59, 60]), (196, [(some 14, 0), (some 7, 0), (some 2, 0), (some 3, 0), (some 4, 0), (some 5, 0), (some 6, 0), (some 11, 0), (some 12, 0)], [7, 8, 10, 11, 12, 13, 15, 16, 19, 20, 21, 23, 24, 25, 32, 33, 34]), (3, [(none, 24), (some 14, 0)], [])], [(true, (none, 1)), (true, (some 14, 0))])]
def w_showsAll_0_0 : VC := ((bX), [(89, [], [8, 58, 59, 60]), (150, [(some 9, 0), (some 2, 0), (some 3, 0), (some 4, 0), (some 5, 0), (some 6, 0)], [26, 27, 7, 8, 10, 11, 12, 13, 15, 16, 19, 20, 21, 23, 24, 25])], (149, [(none, 0), (none, 0), (some 2, 0), (some 3, 0), (some 4, 0), (some 5, 0), (some 6, 0), (some 11, 0), (some 12, 0)], [7, 8, 10, 11, 12, 13, 15, 16, 19, 20, 21, 23, 24, 25, 26, 58, 59, 60]))
theorem pe89_15 {PT : PTy} (hp : HP15 PT) : PT 89 = P_bg := hp.1.1.1.1.1.1.1.1.1.1.1.1.2.2.2.2.2.2.2.2.2.2.1
theorem pe149_15 {PT : PTy} (hp : HP15 PT) : PT 149 = P_yi := hp.1.1.1.1.2.2.2.1
theorem pe150_15 {PT : PTy} (hp : HP15 PT) : PT 150 = P_ar2 := hp.1.1.1.1.2.2.2.2.1
set_option maxRecDepth 20000 in
theorem v_showsAll_0_0 {PT : PTy} (hp : HP15 PT) : vcOk PT w_showsAll_0_0 := vc_in [(2, 0, 8), (3, 0, 11), (4, 0, 9), (5, 0, 6), (6, 0, 6), (9, 0, 49), (11, (-2147483648), 2147483647), (12, (-2147483648), 2147483647)] (by decide +kernel) (fun ρ α => by
  intro b2 b3 b4 b5 b6 b9 b11 b12 f0 f1 tt
  have e89 : PT 89 = P_bg := pe89_15 hp
  have e149 : PT 149 = P_yi := pe149_15 hp
  have e150 : PT 150 = P_ar2 := pe150_15 hp
  simp only [hFp_89, hFp_149, hFp_150, e89, e149, e150, P_bg, P_yi, P_ar2, den_s, den_c, Int.add_zero, List.map_cons, List.map_nil] at f0 f1 ⊢
  exact yI_z f0)
def w_showsAll_0_1 : VC := ((bX), [(89, [], [8, 58, 59, 60]), (150, [(some 9, 0), (some 2, 0), (some 3, 0), (some 4, 0), (some 5, 0), (some 6, 0)], [26, 27, 7, 8, 10, 11, 12, 13, 15, 16, 19, 20, 21, 23, 24, 25])], (196, [(none, 0), (some 7, 0), (some 2, 0), (some 3, 0), (some 4, 0), (some 5, 0), (some 6, 0), (some 11, 0), (some 12, 0)], [7, 8, 10, 11, 12, 13, 15, 16, 19, 20, 21, 23, 24, 25, 32, 33, 34]))
theorem pe196_15 {PT : PTy} (hp : HP15 PT) : PT 196 = P_saI := hp.2.2.2.1
set_option maxRecDepth 20000 in
theorem v_showsAll_0_1 {PT : PTy} (hp : HP15 PT) : vcOk PT w_showsAll_0_1 := vc_in [(2, 0, 8), (3, 0, 11), (4, 0, 9), (5, 0, 6), (6, 0, 6), (7, 0, 8), (9, 0, 49), (11, (-2147483648), 2147483647), (12, (-2147483648), 2147483647)] (by decide +kernel) (fun ρ α => by
  intro b2 b3 b4 b5 b6 b7 b9 b11 b12 f0 f1 tt
  have e89 : PT 89 = P_bg := pe89_15 hp
  have e150 : PT 150 = P_ar2 := pe150_15 hp
  have e196 : PT 196 = P_saI := pe196_15 hp
  simp only [hFp_89, hFp_150, hFp_196, e89, e150, e196, P_bg, P_ar2, P_saI, den_s, den_c, Int.add_zero, List.map_cons, List.map_nil] at f0 f1 ⊢
  exact fun j h1 h2 h3 h4 => by omega)
def w_showsAll_0_2 : VC := ((bX), [(89, [], [8, 58, 59, 60]), (150, [(some 9, 0), (some 2, 0), (some 3, 0), (some 4, 0), (some 5, 0), (some 6, 0)], [26, 27, 7, 8, 10, 11, 12, 13, 15, 16, 19, 20, 21, 23, 24, 25])], (3, [(none, 24), (none, 0)], []))
theorem v_showsAll_0_2 {PT : PTy} (_ : HP15 PT) : vcOk PT w_showsAll_0_2 := vc_of (fun ρ α _ _ => by simp only [hF3, den_c] <;> omega)
def w_showsAll_1_0 : VC := ((bX ++ [(24, 24), (0, 49)]), [(3, [(some 14, 0), (none, 24)], []), (149, [(some 15, 0), (some 14, 0), (some 2, 0), (some 3, 0), (some 4, 0), (some 5, 0), (some 6, 0), (some 11, 0), (some 12, 0)], [7, 8, 10, 11, 12, 13, 15, 16, 19, 20, 21, 23, 24, 25, 26, 58, 59, 60]), (196, [(some 14, 0), (some 7, 0), (some 2, 0), (some 3, 0), (some 4, 0), (some 5, 0), (some 6, 0), (some 11, 0), (some 12, 0)], [7, 8, 10, 11, 12, 13, 15, 16, 19, 20, 21, 23, 24, 25, 32, 33, 34]), (3, [(none, 24), (some 14, 0)], []), (150, [(some 9, 0), (some 2, 0), (some 3, 0), (some 4, 0), (some 5, 0), (some 6, 0)], [26, 27, 7, 8, 10, 11, 12, 13, 15, 16, 19, 20, 21, 23, 24, 25])], (197, [(none, 1), (some 7, 0), (some 2, 0), (some 3, 0), (some 4, 0), (some 5, 0), (some 6, 0), (some 11, 0), (some 12, 0)], [7, 8, 10, 11, 12, 13, 15, 16, 19, 20, 21, 23, 24, 25, 32, 33, 34]))
theorem pe197_15 {PT : PTy} (hp : HP15 PT) : PT 197 = P_saX := hp.2.2.2.2.1
set_option maxRecDepth 20000 in
theorem v_showsAll_1_0 {PT : PTy} (hp : HP15 PT) : vcOk PT w_showsAll_1_0 := vc_iv [(2, 0, 8), (3, 0, 11), (4, 0, 9), (5, 0, 6), (6, 0, 6), (7, 0, 8), (9, 0, 49), (11, (-2147483648), 2147483647), (12, (-2147483648), 2147483647), (14, 24, 24), (15, 0, 49)] [7, 8, 10, 11, 12, 13, 15, 16, 19, 20, 21, 23, 24, 25, 26, 27, 32, 33, 34, 58, 59, 60] (by decide +kernel) (fun ρ α => by
  intro r2 g2 b2 r3 g3 b3 r4 g4 b4 r5 g5 b5 r6 g6 b6 r7 g7 b7 r9 g9 b9 r11 g11 b11 r12 g12 b12 r14 g14 b14 r15 g15 b15 a7 h7 a8 h8 a10 h10 a11 h11 a12 h12 a13 h13 a15 h15 a16 h16 a19 h19 a20 h20 a21 h21 a23 h23 a24 h24 a25 h25 a26 h26 a27 h27 a32 h32 a33 h33 a34 h34 a58 h58 a59 h59 a60 h60 f0 f1 f2 f3 f4 tt
  clear f0 f3
  have e149 : PT 149 = P_yi := pe149_15 hp
  have e150 : PT 150 = P_ar2 := pe150_15 hp
  have e196 : PT 196 = P_saI := pe196_15 hp
  have e197 : PT 197 = P_saX := pe197_15 hp
  simp only [hFp_149, hFp_150, hFp_196, hFp_197, e149, e150, e196, e197, P_yi, P_ar2, P_saI, P_saX, den_s, den_c, Int.add_zero, List.map_cons, List.map_nil, g2.eq, g3.eq, g4.eq, g5.eq, g6.eq, g7.eq, g9.eq, g11.eq, g12.eq, g14.eq, g15.eq, h7, h8, h10, h11, h12, h13, h15, h16, h19, h20, h21, h23, h24, h25, h26, h27, h32, h33, h34, h58, h59, h60] at f1 f2 f4 ⊢
  exact Or.inl ⟨by first | rfl | trivial, fun j h1 h2 h3 h4 => f2 j h1 h2 h3 (by omega)⟩)
def w_showsAll_1_1 : VC := ((bX ++ [(0, 23), (0, 49)]), [(2, [(some 14, 0), (none, 24)], []), (149, [(some 15, 0), (some 14, 0), (some 2, 0), (some 3, 0), (some 4, 0), (some 5, 0), (some 6, 0), (some 11, 0), (some 12, 0)], [7, 8, 10, 11, 12, 13, 15, 16, 19, 20, 21, 23, 24, 25, 26, 58, 59, 60]), (196, [(some 14, 0), (some 7, 0), (some 2, 0), (some 3, 0), (some 4, 0), (some 5, 0), (some 6, 0), (some 11, 0), (some 12, 0)], [7, 8, 10, 11, 12, 13, 15, 16, 19, 20, 21, 23, 24, 25, 32, 33, 34]), (3, [(none, 24), (some 14, 0)], []), (150, [(some 9, 0), (some 2, 0), (some 3, 0), (some 4, 0), (some 5, 0), (some 6, 0)], [26, 27, 7, 8, 10, 11, 12, 13, 15, 16, 19, 20, 21, 23, 24, 25])], (87, [(some 9, 0)], [26, 27]))
theorem pe87_15 {PT : PTy} (hp : HP15 PT) : PT 87 = P_pr := hp.1.1.1.1.1.1.1.1.1.1.1.1.2.2.2.2.2.2.2.2.1
set_option maxRecDepth 20000 in
theorem v_showsAll_1_1 {PT : PTy} (hp : HP15 PT) : vcOk PT w_showsAll_1_1 := vc_in [(2, 0, 8), (3, 0, 11), (4, 0, 9), (5, 0, 6), (6, 0, 6), (7, 0, 8), (9, 0, 49), (11, (-2147483648), 2147483647), (12, (-2147483648), 2147483647), (14, 0, 23), (15, 0, 49)] (by decide +kernel) (fun ρ α => by
  intro b2 b3 b4 b5 b6 b7 b9 b11 b12 b14 b15 f0 f1 f2 f3 f4 tt
  clear f0 f3
  have e87 : PT 87 = P_pr := pe87_15 hp
  have e149 : PT 149 = P_yi := pe149_15 hp
  have e150 : PT 150 = P_ar2 := pe150_15 hp
  have e196 : PT 196 = P_saI := pe196_15 hp
  simp only [hFp_87, hFp_149, hFp_150, hFp_196, e87, e149, e150, e196, P_pr, P_yi, P_ar2, P_saI, den_s, den_c, Int.add_zero, List.map_cons, List.map_nil] at f1 f2 f4 ⊢
  exact (f4).1)
def w_showsAll_1_2 : VC := ((bX ++ [(0, 23), (0, 49), (0, 49), (1, 1)]), [(1, [(some 17, 0), (none, 0)], []), (194, [(some 17, 0), (some 14, 0), (some 7, 0), (some 2, 0)], [32, 33, 34, 61]), (91, [(some 15, 0), (some 16, 0), (some 9, 0), (some 14, 0), (some 11, 0), (some 12, 0)], [26, 27, 7, 8, 10, 11, 16, 20, 21, 24, 25, 58, 59, 60, 61, 62, 63]), (2, [(some 14, 0), (none, 24)], []), (149, [(some 15, 0), (some 14, 0), (some 2, 0), (some 3, 0), (some 4, 0), (some 5, 0), (some 6, 0), (some 11, 0), (some 12, 0)], [7, 8, 10, 11, 12, 13, 15, 16, 19, 20, 21, 23, 24, 25, 26, 58, 59, 60]), (196, [(some 14, 0), (some 7, 0), (some 2, 0), (some 3, 0), (some 4, 0), (some 5, 0), (some 6, 0), (some 11, 0), (some 12, 0)], [7, 8, 10, 11, 12, 13, 15, 16, 19, 20, 21, 23, 24, 25, 32, 33, 34]), (3, [(none, 24), (some 14, 0)], []), (150, [(some 9, 0), (some 2, 0), (some 3, 0), (some 4, 0), (some 5, 0), (some 6, 0)], [26, 27, 7, 8, 10, 11, 12, 13, 15, 16, 19, 20, 21, 23, 24, 25])], (149, [(some 16, 0), (some 14, 1), (some 2, 0), (some 3, 0), (some 4, 0), (some 5, 0), (some 6, 0), (some 11, 0), (some 12, 0)], [7, 8, 10, 11, 12, 13, 15, 16, 19, 20, 21, 23, 24, 25, 26, 61, 62, 63]))
theorem pe91_15 {PT : PTy} (hp : HP15 PT) : PT 91 = P_adE := hp.1.1.1.1.1.1.1.1.1.1.1.1.2.2.2.2.2.2.2.2.2.2.2.2.1
set_option maxRecDepth 20000 in
theorem v_showsAll_1_2 {PT : PTy} (hp : HP15 PT) : vcOk PT w_showsAll_1_2 := vc_in [(2, 0, 8), (3, 0, 11), (4, 0, 9), (5, 0, 6), (6, 0, 6), (7, 0, 8), (9, 0, 49), (11, (-2147483648), 2147483647), (12, (-2147483648), 2147483647), (14, 0, 23), (15, 0, 49), (16, 0, 49), (17, 1, 1)] (by decide +kernel) (fun ρ α => by
  intro b2 b3 b4 b5 b6 b7 b9 b11 b12 b14 b15 b16 b17 f0 f1 f2 f3 f4 f5 f6 f7 tt
  clear f0 f3 f6
  have e91 : PT 91 = P_adE := pe91_15 hp
  have e149 : PT 149 = P_yi := pe149_15 hp
  have e150 : PT 150 = P_ar2 := pe150_15 hp
  have e194 : PT 194 = P_sbX := pe194_15 hp
  have e196 : PT 196 = P_saI := pe196_15 hp
  simp only [hFp_91, hFp_149, hFp_150, hFp_194, hFp_196, e91, e149, e150, e194, e196, P_adE, P_yi, P_ar2, P_sbX, P_saI, den_s, den_c, Int.add_zero, List.map_cons, List.map_nil] at f1 f2 f4 f5 f7 ⊢
  exact yI_s (f7).2 f4 (by omega) (f2).1)
def w_showsAll_1_3 : VC := ((bX ++ [(0, 23), (0, 49), (0, 49), (1, 1)]), [(1, [(some 17, 0), (none, 0)], []), (194, [(some 17, 0), (some 14, 0), (some 7, 0), (some 2, 0)], [32, 33, 34, 61]), (91, [(some 15, 0), (some 16, 0), (some 9, 0), (some 14, 0), (some 11, 0), (some 12, 0)], [26, 27, 7, 8, 10, 11, 16, 20, 21, 24, 25, 58, 59, 60, 61, 62, 63]), (2, [(some 14, 0), (none, 24)], []), (149, [(some 15, 0), (some 14, 0), (some 2, 0), (some 3, 0), (some 4, 0), (some 5, 0), (some 6, 0), (some 11, 0), (some 12, 0)], [7, 8, 10, 11, 12, 13, 15, 16, 19, 20, 21, 23, 24, 25, 26, 58, 59, 60]), (196, [(some 14, 0), (some 7, 0), (some 2, 0), (some 3, 0), (some 4, 0), (some 5, 0), (some 6, 0), (some 11, 0), (some 12, 0)], [7, 8, 10, 11, 12, 13, 15, 16, 19, 20, 21, 23, 24, 25, 32, 33, 34]), (3, [(none, 24), (some 14, 0)], []), (150, [(some 9, 0), (some 2, 0), (some 3, 0), (some 4, 0), (some 5, 0), (some 6, 0)], [26, 27, 7, 8, 10, 11, 12, 13, 15, 16, 19, 20, 21, 23, 24, 25])], (196, [(some 14, 1), (some 7, 0), (some 2, 0), (some 3, 0), (some 4, 0), (some 5, 0), (some 6, 0), (some 11, 0), (some 12, 0)], [7, 8, 10, 11, 12, 13, 15, 16, 19, 20, 21, 23, 24, 25, 32, 33, 34]))
set_option maxRecDepth 20000 in
theorem v_showsAll_1_3 {PT : PTy} (hp : HP15 PT) : vcOk PT w_showsAll_1_3 := vc_iv [(2, 0, 8), (3, 0, 11), (4, 0, 9), (5, 0, 6), (6, 0, 6), (7, 0, 8), (9, 0, 49), (11, (-2147483648), 2147483647), (12, (-2147483648), 2147483647), (14, 0, 23), (15, 0, 49), (16, 0, 49), (17, 1, 1)] [7, 8, 10, 11, 12, 13, 15, 16, 19, 20, 21, 23, 24, 25, 26, 27, 32, 33, 34, 58, 59, 60, 61, 62, 63] (by decide +kernel) (fun ρ α => by
  intro r2 g2 b2 r3 g3 b3 r4 g4 b4 r5 g5 b5 r6 g6 b6 r7 g7 b7 r9 g9 b9 r11 g11 b11 r12 g12 b12 r14 g14 b14 r15 g15 b15 r16 g16 b16 r17 g17 b17 a7 h7 a8 h8 a10 h10 a11 h11 a12 h12 a13 h13 a15 h15 a16 h16 a19 h19 a20 h20 a21 h21 a23 h23 a24 h24 a25 h25 a26 h26 a27 h27 a32 h32 a33 h33 a34 h34 a58 h58 a59 h59 a60 h60 a61 h61 a62 h62 a63 h63 f0 f1 f2 f3 f4 f5 f6 f7 tt
  clear f0 f3 f6
  have e91 : PT 91 = P_adE := pe91_15 hp
  have e149 : PT 149 = P_yi := pe149_15 hp
  have e150 : PT 150 = P_ar2 := pe150_15 hp
  have e194 : PT 194 = P_sbX := pe194_15 hp
  have e196 : PT 196 = P_saI := pe196_15 hp
  simp only [hFp_91, hFp_149, hFp_150, hFp_194, hFp_196, e91, e149, e150, e194, e196, P_adE, P_yi, P_ar2, P_sbX, P_saI, den_s, den_c, Int.add_zero, List.map_cons, List.map_nil, g2.eq, g3.eq, g4.eq, g5.eq, g6.eq, g7.eq, g9.eq, g11.eq, g12.eq, g14.eq, g15.eq, g16.eq, g17.eq, h7, h8, h10, h11, h12, h13, h15, h16, h19, h20, h21, h23, h24, h25, h26, h27, h32, h33, h34, h58, h59, h60, h61, h62, h63] at f1 f2 f4 f5 f7 ⊢
  have hy := yI_e (f7).2 (yI_s (f7).2 f4 (by omega) (f2).1) (f2).2
  have hs := f1
  intro j h1 h2 h3 h4
  rcases hs with ⟨q0, q⟩ | ⟨q0, q⟩
  · by_cases e : a32 j = r14
    · exact ⟨_, _, _, by rw [e]; exact hy, q j h1 h2 e⟩
    · exact f5 j h1 h2 h3 (by omega)
  · exfalso; omega)
def w_showsAll_1_4 : VC := ((bX ++ [(0, 23), (0, 49), (0, 49), (1, 1)]), [(1, [(some 17, 0), (none, 0)], []), (194, [(some 17, 0), (some 14, 0), (some 7, 0), (some 2, 0)], [32, 33, 34, 61]), (91, [(some 15, 0), (some 16, 0), (some 9, 0), (some 14, 0), (some 11, 0), (some 12, 0)], [26, 27, 7, 8, 10, 11, 16, 20, 21, 24, 25, 58, 59, 60, 61, 62, 63]), (2, [(some 14, 0), (none, 24)], []), (149, [(some 15, 0), (some 14, 0), (some 2, 0), (some 3, 0), (some 4, 0), (some 5, 0), (some 6, 0), (some 11, 0), (some 12, 0)], [7, 8, 10, 11, 12, 13, 15, 16, 19, 20, 21, 23, 24, 25, 26, 58, 59, 60]), (196, [(some 14, 0), (some 7, 0), (some 2, 0), (some 3, 0), (some 4, 0), (some 5, 0), (some 6, 0), (some 11, 0), (some 12, 0)], [7, 8, 10, 11, 12, 13, 15, 16, 19, 20, 21, 23, 24, 25, 32, 33, 34]), (3, [(none, 24), (some 14, 0)], []), (150, [(some 9, 0), (some 2, 0), (some 3, 0), (some 4, 0), (some 5, 0), (some 6, 0)], [26, 27, 7, 8, 10, 11, 12, 13, 15, 16, 19, 20, 21, 23, 24, 25])], (3, [(none, 24), (some 14, 1)], []))
set_option maxRecDepth 20000 in
theorem v_showsAll_1_4 {PT : PTy} (hp : HP15 PT) : vcOk PT w_showsAll_1_4 := vc_iv [(2, 0, 8), (3, 0, 11), (4, 0, 9), (5, 0, 6), (6, 0, 6), (7, 0, 8), (9, 0, 49), (11, (-2147483648), 2147483647), (12, (-2147483648), 2147483647), (14, 0, 23), (15, 0, 49), (16, 0, 49), (17, 1, 1)] [7, 8, 10, 11, 12, 13, 15, 16, 19, 20, 21, 23, 24, 25, 26, 27, 32, 33, 34, 58, 59, 60, 61, 62, 63] (by decide +kernel) (fun ρ α => by
  intro r2 g2 b2 r3 g3 b3 r4 g4 b4 r5 g5 b5 r6 g6 b6 r7 g7 b7 r9 g9 b9 r11 g11 b11 r12 g12 b12 r14 g14 b14 r15 g15 b15 r16 g16 b16 r17 g17 b17 a7 h7 a8 h8 a10 h10 a11 h11 a12 h12 a13 h13 a15 h15 a16 h16 a19 h19 a20 h20 a21 h21 a23 h23 a24 h24 a25 h25 a26 h26 a27 h27 a32 h32 a33 h33 a34 h34 a58 h58 a59 h59 a60 h60 a61 h61 a62 h62 a63 h63 f0 f1 f2 f3 f4 f5 f6 f7 tt
  clear f0 f3 f6
  have e91 : PT 91 = P_adE := pe91_15 hp
  have e149 : PT 149 = P_yi := pe149_15 hp
  have e150 : PT 150 = P_ar2 := pe150_15 hp
  have e194 : PT 194 = P_sbX := pe194_15 hp
  have e196 : PT 196 = P_saI := pe196_15 hp
  simp only [hF3, hFp_91, hFp_149, hFp_150, hFp_194, hFp_196, e91, e149, e150, e194, e196, P_adE, P_yi, P_ar2, P_sbX, P_saI, den_s, den_c, Int.add_zero, List.map_cons, List.map_nil, g2.eq, g3.eq, g4.eq, g5.eq, g6.eq, g7.eq, g9.eq, g11.eq, g12.eq, g14.eq, g15.eq, g16.eq, g17.eq, h7, h8, h10, h11, h12, h13, h15, h16, h19, h20, h21, h23, h24, h25, h26, h27, h32, h33, h34, h58, h59, h60, h61, h62, h63] at f1 f2 f4 f5 f7 ⊢
  omega)
def w_showsAll_1_5 : VC := ((bX ++ [(0, 23), (0, 49), (0, 49), (0, 0)]), [(0, [(some 17, 0), (none, 0)], []), (194, [(some 17, 0), (some 14, 0), (some 7, 0), (some 2, 0)], [32, 33, 34, 61]), (91, [(some 15, 0), (some 16, 0), (some 9, 0), (some 14, 0), (some 11, 0), (some 12, 0)], [26, 27, 7, 8, 10, 11, 16, 20, 21, 24, 25, 58, 59, 60, 61, 62, 63]), (2, [(some 14, 0), (none, 24)], []), (149, [(some 15, 0), (some 14, 0), (some 2, 0), (some 3, 0), (some 4, 0), (some 5, 0), (some 6, 0), (some 11, 0), (some 12, 0)], [7, 8, 10, 11, 12, 13, 15, 16, 19, 20, 21, 23, 24, 25, 26, 58, 59, 60]), (196, [(some 14, 0), (some 7, 0), (some 2, 0), (some 3, 0), (some 4, 0), (some 5, 0), (some 6, 0), (some 11, 0), (some 12, 0)], [7, 8, 10, 11, 12, 13, 15, 16, 19, 20, 21, 23, 24, 25, 32, 33, 34]), (3, [(none, 24), (some 14, 0)], []), (150, [(some 9, 0), (some 2, 0), (some 3, 0), (some 4, 0), (some 5, 0), (some 6, 0)], [26, 27, 7, 8, 10, 11, 12, 13, 15, 16, 19, 20, 21, 23, 24, 25])], (197, [(none, 0), (some 7, 0), (some 2, 0), (some 3, 0), (some 4, 0), (some 5, 0), (some 6, 0), (some 11, 0), (some 12, 0)], [7, 8, 10, 11, 12, 13, 15, 16, 19, 20, 21, 23, 24, 25, 32, 33, 34]))
set_option maxRecDepth 20000 in
theorem v_showsAll_1_5 {PT : PTy} (hp : HP15 PT) : vcOk PT w_showsAll_1_5 := vc_iv [(2, 0, 8), (3, 0, 11), (4, 0, 9), (5, 0, 6), (6, 0, 6), (7, 0, 8), (9, 0, 49), (11, (-2147483648), 2147483647), (12, (-2147483648), 2147483647), (14, 0, 23), (15, 0, 49), (16, 0, 49), (17, 0, 0)] [7, 8, 10, 11, 12, 13, 15, 16, 19, 20, 21, 23, 24, 25, 26, 27, 32, 33, 34, 58, 59, 60, 61, 62, 63] (by decide +kernel) (fun ρ α => by
  intro r2 g2 b2 r3 g3 b3 r4 g4 b4 r5 g5 b5 r6 g6 b6 r7 g7 b7 r9 g9 b9 r11 g11 b11 r12 g12 b12 r14 g14 b14 r15 g15 b15 r16 g16 b16 r17 g17 b17 a7 h7 a8 h8 a10 h10 a11 h11 a12 h12 a13 h13 a15 h15 a16 h16 a19 h19 a20 h20 a21 h21 a23 h23 a24 h24 a25 h25 a26 h26 a27 h27 a32 h32 a33 h33 a34 h34 a58 h58 a59 h59 a60 h60 a61 h61 a62 h62 a63 h63 f0 f1 f2 f3 f4 f5 f6 f7 tt
  clear f3 f6
  have e91 : PT 91 = P_adE := pe91_15 hp
  have e149 : PT 149 = P_yi := pe149_15 hp
  have e150 : PT 150 = P_ar2 := pe150_15 hp
  have e194 : PT 194 = P_sbX := pe194_15 hp
  have e196 : PT 196 = P_saI := pe196_15 hp
  have e197 : PT 197 = P_saX := pe197_15 hp
  simp only [hF0, hFp_91, hFp_149, hFp_150, hFp_194, hFp_196, hFp_197, e91, e149, e150, e194, e196, e197, P_adE, P_yi, P_ar2, P_sbX, P_saI, P_saX, den_s, den_c, Int.add_zero, List.map_cons, List.map_nil, g2.eq, g3.eq, g4.eq, g5.eq, g6.eq, g7.eq, g9.eq, g11.eq, g12.eq, g14.eq, g15.eq, g16.eq, g17.eq, h7, h8, h10, h11, h12, h13, h15, h16, h19, h20, h21, h23, h24, h25, h26, h27, h32, h33, h34, h58, h59, h60, h61, h62, h63] at f0 f1 f2 f4 f5 f7 ⊢
  have hy := yI_e (f7).2 (yI_s (f7).2 f4 (by omega) (f2).1) (f2).2
  rcases f1 with ⟨q0, q⟩ | ⟨q0, j, j1, j2, j3, j4⟩
  · exfalso; omega
  · exact Or.inr ⟨by first | rfl | trivial, j, j1, j2, by omega, by omega, _, _, _, by rw [j3]; exact hy, j4⟩)
set_option maxRecDepth 1000000 in
theorem k_showsAll {PT : PTy} (hp : HP15 PT) : wfX c_showsAll = true ∧ xcOk PT c_showsAll := xctr (xl (k_begin14 hp.1.1.1.1.1.1.1.1.1.1.1) (xl (k_advance14 hp.1.1.1.1.1.1.1.1.1.1.1) (xl (k_showsBehind hp) (xl0)))) c_showsAll 34 mX0_showsAll rfl h_showsAll (by decide +kernel) (by decide +kernel) (by decide) (vcs_by [w_showsAll_0_0, w_showsAll_0_1, w_showsAll_0_2] (by decide +kernel) (vc (v_showsAll_0_0 hp) (vc (v_showsAll_0_1 hp) (vc (v_showsAll_0_2 hp) vn)))) (fmc (vcs_by [w_showsAll_1_0, w_showsAll_1_1, w_showsAll_1_2, w_showsAll_1_3, w_showsAll_1_4, w_showsAll_1_5] (by decide +kernel) (vc (v_showsAll_1_0 hp) (vc (v_showsAll_1_1 hp) (vc (v_showsAll_1_2 hp) (vc (v_showsAll_1_3 hp) (vc (v_showsAll_1_4 hp) (vc (v_showsAll_1_5 hp) vn))))))) fmn)
def c_xo_never : XC := (67, 4, (bT), [.inr (.inl 0)], (gX 999), [], [((bT ++ [((-2147483648), 2147483647), (0, 49), (0, 49), ((-2147483648), 2147483647)]), some (.inl (some 14, 0)), (hst (gX 14) [(5, .inr (.inr (.inr (0, [.inr (.inl 6), .inr (.inl 9), .inr (.inl 14), .inr (.inl 18), .inr (.inl 22), .inr (.inl 26), .inr (.inl 27), .inr (.inl 28), .inr (.inl 29), .inr (.inl 30), .inl (some 15, 0), .inl (some 16, 0), .inl (some 17, 0), .inl (none, 0), .inr (.inl 14)]))))]), (ansT 58 [(26, 58), (27, 59), (28, 60), (29, 61), (30, 62)]), 63, [(199, [(some 14, 0), (some 7, 0), (some 2, 0), (some 3, 0), (some 4, 0), (some 5, 0), (some 6, 0)], [7, 8, 10, 11, 12, 13, 15, 16, 19, 20, 21, 23, 24, 25, 32, 33, 34])])])
def h_xo_never : List XH := [(15, (bT ++ [((-2147483648), 2147483647), (0, 8), (0, 49), (0, 49), ((-2147483648), 2147483647)]), [some (.inr (.inl 0)), some (.inl (some 14, 0)), some (.inl (some 15, 0))], (hst (gX 14) [(5, .inr (.inr (.inr (0, [.inr (.inl 6), .inr (.inl 9), .inr (.inl 14), .inr (.inl 18), .inr (.inl 22), .inr (.inl 26), .inr (.inl 27), .inr (.inl 28), .inr (.inl 29), .inr (.inl 30), .inl (some 16, 0), .inl (some 17, 0), .inl (some 18, 0), .inl (none, 0), .inr (.inl 14)]))))]), (ansT 58 [(26, 58), (27, 59), (28, 60), (29, 61), (30, 62)]), 63, [(150, [(some 16, 0), (some 2, 0), (some 3, 0), (some 4, 0), (some 5, 0), (some 6, 0)], [58, 59, 7, 8, 10, 11, 12, 13, 15, 16, 19, 20, 21, 23, 24, 25]), (198, [(some 15, 0), (some 14, 0), (some 7, 0), (some 2, 0), (some 3, 0), (some 4, 0), (some 5, 0), (some 6, 0)], [7, 8, 10, 11, 12, 13, 15, 16, 19, 20, 21, 23, 24, 25, 32, 33, 34]), (3, [(some 4, 0), (some 15, 0)], [])], [(true, (none, 1)), (true, (some 15, 0))])]
def w_xo_never_0_0 : VC := ((bT ++ [(0, 49)]), [(86, [(some 2, 0), (some 3, 0), (some 4, 0), (some 5, 0), (some 6, 0), (some 14, 0)], [58, 59, 10, 12, 13, 15, 16, 19, 20, 23, 24])], (150, [(some 14, 0), (some 2, 0), (some 3, 0), (some 4, 0), (some 5, 0), (some 6, 0)], [58, 59, 7, 8, 10, 11, 12, 13, 15, 16, 19, 20, 21, 23, 24, 25]))
theorem pe86_15 {PT : PTy} (hp : HP15 PT) : PT 86 = P_arr := hp.1.1.1.1.1.1.1.1.1.1.1.1.2.2.2.2.2.2.2.1
set_option maxRecDepth 20000 in
theorem v_xo_never_0_0 {PT : PTy} (hp : HP15 PT) : vcOk PT w_xo_never_0_0 := vc_in [(2, 0, 8), (3, 0, 10), (4, 0, 8), (5, 0, 6), (6, 0, 6), (14, 0, 49)] (by decide +kernel) (fun ρ α => by
  intro b2 b3 b4 b5 b6 b14 f0 tt
  have e86 : PT 86 = P_arr := pe86_15 hp
  have e150 : PT 150 = P_ar2 := pe150_15 hp
  simp only [hFp_86, hFp_150, e86, e150, P_arr, P_ar2, den_s, den_c, Int.add_zero, List.map_cons, List.map_nil] at f0 ⊢
  exact f0)
def w_xo_never_0_1 : VC := ((bT ++ [(0, 49)]), [(86, [(some 2, 0), (some 3, 0), (some 4, 0), (some 5, 0), (some 6, 0), (some 14, 0)], [58, 59, 10, 12, 13, 15, 16, 19, 20, 23, 24])], (198, [(none, 0), (none, 0), (some 7, 0), (some 2, 0), (some 3, 0), (some 4, 0), (some 5, 0), (some 6, 0)], [7, 8, 10, 11, 12, 13, 15, 16, 19, 20, 21, 23, 24, 25, 32, 33, 34]))
theorem pe198_15 {PT : PTy} (hp : HP15 PT) : PT 198 = P_nvI := hp.2.2.2.2.2.1
set_option maxRecDepth 20000 in
theorem v_xo_never_0_1 {PT : PTy} (hp : HP15 PT) : vcOk PT w_xo_never_0_1 := vc_in [(2, 0, 8), (3, 0, 10), (4, 0, 8), (5, 0, 6), (6, 0, 6), (7, 0, 8), (14, 0, 49)] (by decide +kernel) (fun ρ α => by
  intro b2 b3 b4 b5 b6 b7 b14 f0 tt
  have e86 : PT 86 = P_arr := pe86_15 hp
  have e198 : PT 198 = P_nvI := pe198_15 hp
  simp only [hFp_86, hFp_198, e86, e198, P_arr, P_nvI, den_s, den_c, Int.add_zero, List.map_cons, List.map_nil] at f0 ⊢
  exact obB_z)
def w_xo_never_0_2 : VC := ((bT ++ [(0, 49)]), [(86, [(some 2, 0), (some 3, 0), (some 4, 0), (some 5, 0), (some 6, 0), (some 14, 0)], [58, 59, 10, 12, 13, 15, 16, 19, 20, 23, 24])], (3, [(some 4, 0), (none, 0)], []))
set_option maxRecDepth 20000 in
theorem v_xo_never_0_2 {PT : PTy} (hp : HP15 PT) : vcOk PT w_xo_never_0_2 := vc_iv [(2, 0, 8), (3, 0, 10), (4, 0, 8), (5, 0, 6), (6, 0, 6), (14, 0, 49)] [10, 12, 13, 15, 16, 19, 20, 23, 24, 58, 59] (by decide +kernel) (fun ρ α => by
  intro r2 g2 b2 r3 g3 b3 r4 g4 b4 r5 g5 b5 r6 g6 b6 r14 g14 b14 a10 h10 a12 h12 a13 h13 a15 h15 a16 h16 a19 h19 a20 h20 a23 h23 a24 h24 a58 h58 a59 h59 f0 tt
  have e86 : PT 86 = P_arr := pe86_15 hp
  simp only [hF3, hFp_86, e86, P_arr, den_s, den_c, Int.add_zero, List.map_cons, List.map_nil, g2.eq, g3.eq, g4.eq, g5.eq, g6.eq, g14.eq, h10, h12, h13, h15, h16, h19, h20, h23, h24, h58, h59] at f0 ⊢
  omega)
def w_xo_never_1_0 : VC := ((bT ++ [((-2147483648), 2147483647), (0, 8), (0, 49), (0, 49), ((-2147483648), 2147483647)]), [(3, [(some 15, 0), (some 4, 0)], []), (150, [(some 16, 0), (some 2, 0), (some 3, 0), (some 4, 0), (some 5, 0), (some 6, 0)], [58, 59, 7, 8, 10, 11, 12, 13, 15, 16, 19, 20, 21, 23, 24, 25]), (198, [(some 15, 0), (some 14, 0), (some 7, 0), (some 2, 0), (some 3, 0), (some 4, 0), (some 5, 0), (some 6, 0)], [7, 8, 10, 11, 12, 13, 15, 16, 19, 20, 21, 23, 24, 25, 32, 33, 34]), (3, [(some 4, 0), (some 15, 0)], [])], (199, [(some 14, 0), (some 7, 0), (some 2, 0), (some 3, 0), (some 4, 0), (some 5, 0), (some 6, 0)], [7, 8, 10, 11, 12, 13, 15, 16, 19, 20, 21, 23, 24, 25, 32, 33, 34]))
theorem pe199_15 {PT : PTy} (hp : HP15 PT) : PT 199 = P_onvX := hp.2.2.2.2.2.2.1
set_option maxRecDepth 20000 in
theorem v_xo_never_1_0 {PT : PTy} (hp : HP15 PT) : vcOk PT w_xo_never_1_0 := vc_iv [(2, 0, 8), (3, 0, 10), (4, 0, 8), (5, 0, 6), (6, 0, 6), (7, 0, 8), (14, (-2147483648), 2147483647), (15, 0, 8), (16, 0, 49)] [7, 8, 10, 11, 12, 13, 15, 16, 19, 20, 21, 23, 24, 25, 32, 33, 34, 58, 59] (by decide +kernel) (fun ρ α => by
  intro r2 g2 b2 r3 g3 b3 r4 g4 b4 r5 g5 b5 r6 g6 b6 r7 g7 b7 r14 g14 b14 r15 g15 b15 r16 g16 b16 a7 h7 a8 h8 a10 h10 a11 h11 a12 h12 a13 h13 a15 h15 a16 h16 a19 h19 a20 h20 a21 h21 a23 h23 a24 h24 a25 h25 a32 h32 a33 h33 a34 h34 a58 h58 a59 h59 f0 f1 f2 f3 tt
  have e150 : PT 150 = P_ar2 := pe150_15 hp
  have e198 : PT 198 = P_nvI := pe198_15 hp
  have e199 : PT 199 = P_onvX := pe199_15 hp
  simp only [hF3, hFp_150, hFp_198, hFp_199, e150, e198, e199, P_ar2, P_nvI, P_onvX, den_s, den_c, Int.add_zero, List.map_cons, List.map_nil, g2.eq, g3.eq, g4.eq, g5.eq, g6.eq, g7.eq, g14.eq, g15.eq, g16.eq, h7, h8, h10, h11, h12, h13, h15, h16, h19, h20, h21, h23, h24, h25, h32, h33, h34, h58, h59] at f0 f1 f2 f3 ⊢
  have hh := f2
  rw [show r15 = r4 by omega] at hh
  exact hh)
def w_xo_never_1_1 : VC := (([(0, 23), (0, 49), (0, 8), (0, 10), (1, 8), (0, 6), (0, 6), (0, 8), (0, 9), (0, 49), (0, 49), ((-2147483648), 2147483647), ((-2147483648), 2147483647), (0, 5), ((-2147483648), 2147483647), (0, 7), (0, 49), (0, 49), ((-2147483648), 2147483647), (1, 128), (0, 0), (0, 49)]), [(0, [(some 20, 0), (none, 0)], []), (197, [(some 20, 0), (some 7, 0), (some 2, 0), (some 3, 0), (some 4, 0), (some 5, 0), (some 6, 0), (some 19, 0), (none, 0)], [7, 8, 10, 11, 12, 13, 15, 16, 19, 20, 21, 23, 24, 25, 32, 33, 34]), (13, [(some 19, 0), (none, 1), (some 15, 0)], []), (2, [(some 15, 0), (some 4, 0)], []), (150, [(some 16, 0), (some 2, 0), (some 3, 0), (some 4, 0), (some 5, 0), (some 6, 0)], [58, 59, 7, 8, 10, 11, 12, 13, 15, 16, 19, 20, 21, 23, 24, 25]), (198, [(some 15, 0), (some 14, 0), (some 7, 0), (some 2, 0), (some 3, 0), (some 4, 0), (some 5, 0), (some 6, 0)], [7, 8, 10, 11, 12, 13, 15, 16, 19, 20, 21, 23, 24, 25, 32, 33, 34]), (3, [(some 4, 0), (some 15, 0)], [])], (198, [(some 15, 1), (some 14, 0), (some 7, 0), (some 2, 0), (some 3, 0), (some 4, 0), (some 5, 0), (some 6, 0)], [7, 8, 10, 11, 12, 13, 15, 16, 19, 20, 21, 23, 24, 25, 32, 33, 34]))
set_option maxRecDepth 20000 in
theorem v_xo_never_1_1 {PT : PTy} (hp : HP15 PT) : vcOk PT w_xo_never_1_1 := vc_iv [(2, 0, 8), (3, 0, 10), (4, 1, 8), (5, 0, 6), (6, 0, 6), (7, 0, 8), (14, (-2147483648), 2147483647), (15, 0, 7), (16, 0, 49), (19, 1, 128), (20, 0, 0)] [7, 8, 10, 11, 12, 13, 15, 16, 19, 20, 21, 23, 24, 25, 32, 33, 34, 58, 59] (by decide +kernel) (fun ρ α => by
  intro r2 g2 b2 r3 g3 b3 r4 g4 b4 r5 g5 b5 r6 g6 b6 r7 g7 b7 r14 g14 b14 r15 g15 b15 r16 g16 b16 r19 g19 b19 r20 g20 b20 a7 h7 a8 h8 a10 h10 a11 h11 a12 h12 a13 h13 a15 h15 a16 h16 a19 h19 a20 h20 a21 h21 a23 h23 a24 h24 a25 h25 a32 h32 a33 h33 a34 h34 a58 h58 a59 h59 f0 f1 f2 f3 f4 f5 f6 tt
  have e150 : PT 150 = P_ar2 := pe150_15 hp
  have e197 : PT 197 = P_saX := pe197_15 hp
  have e198 : PT 198 = P_nvI := pe198_15 hp
  simp only [hF0, hF2, hF3, hF13, hFp_150, hFp_197, hFp_198, e150, e197, e198, P_ar2, P_saX, P_nvI, den_s, den_c, Int.add_zero, List.map_cons, List.map_nil, g2.eq, g3.eq, g4.eq, g5.eq, g6.eq, g7.eq, g14.eq, g15.eq, g16.eq, g19.eq, g20.eq, h7, h8, h10, h11, h12, h13, h15, h16, h19, h20, h21, h23, h24, h25, h32, h33, h34, h58, h59] at f0 f1 f2 f3 f4 f5 f6 ⊢
  subst f2
  have hs := f1
  first
    | exact obB_s f5 (by omega) hs (by rw [if_pos (by omega)])
    | exact obB_s f5 (by omega) hs (by rw [if_neg (by omega)]))
def w_xo_never_1_2 : VC := (([(0, 23), (0, 49), (0, 8), (0, 10), (1, 8), (0, 6), (0, 6), (0, 8), (0, 9), (0, 49), (0, 49), ((-2147483648), 2147483647), ((-2147483648), 2147483647), (0, 5), ((-2147483648), 2147483647), (0, 7), (0, 49), (0, 49), ((-2147483648), 2147483647), (1, 128), (0, 0), (0, 49)]), [(0, [(some 20, 0), (none, 0)], []), (197, [(some 20, 0), (some 7, 0), (some 2, 0), (some 3, 0), (some 4, 0), (some 5, 0), (some 6, 0), (some 19, 0), (none, 0)], [7, 8, 10, 11, 12, 13, 15, 16, 19, 20, 21, 23, 24, 25, 32, 33, 34]), (13, [(some 19, 0), (none, 1), (some 15, 0)], []), (2, [(some 15, 0), (some 4, 0)], []), (150, [(some 16, 0), (some 2, 0), (some 3, 0), (some 4, 0), (some 5, 0), (some 6, 0)], [58, 59, 7, 8, 10, 11, 12, 13, 15, 16, 19, 20, 21, 23, 24, 25]), (198, [(some 15, 0), (some 14, 0), (some 7, 0), (some 2, 0), (some 3, 0), (some 4, 0), (some 5, 0), (some 6, 0)], [7, 8, 10, 11, 12, 13, 15, 16, 19, 20, 21, 23, 24, 25, 32, 33, 34]), (3, [(some 4, 0), (some 15, 0)], [])], (3, [(some 4, 0), (some 15, 1)], []))
set_option maxRecDepth 20000 in
theorem v_xo_never_1_2 {PT : PTy} (hp : HP15 PT) : vcOk PT w_xo_never_1_2 := vc_iv [(2, 0, 8), (3, 0, 10), (4, 1, 8), (5, 0, 6), (6, 0, 6), (7, 0, 8), (14, (-2147483648), 2147483647), (15, 0, 7), (16, 0, 49), (19, 1, 128), (20, 0, 0)] [7, 8, 10, 11, 12, 13, 15, 16, 19, 20, 21, 23, 24, 25, 32, 33, 34, 58, 59] (by decide +kernel) (fun ρ α => by
  intro r2 g2 b2 r3 g3 b3 r4 g4 b4 r5 g5 b5 r6 g6 b6 r7 g7 b7 r14 g14 b14 r15 g15 b15 r16 g16 b16 r19 g19 b19 r20 g20 b20 a7 h7 a8 h8 a10 h10 a11 h11 a12 h12 a13 h13 a15 h15 a16 h16 a19 h19 a20 h20 a21 h21 a23 h23 a24 h24 a25 h25 a32 h32 a33 h33 a34 h34 a58 h58 a59 h59 f0 f1 f2 f3 f4 f5 f6 tt
  have e150 : PT 150 = P_ar2 := pe150_15 hp
  have e197 : PT 197 = P_saX := pe197_15 hp
  have e198 : PT 198 = P_nvI := pe198_15 hp
  simp only [hF0, hF2, hF3, hF13, hFp_150, hFp_197, hFp_198, e150, e197, e198, P_ar2, P_saX, P_nvI, den_s, den_c, Int.add_zero, List.map_cons, List.map_nil, g2.eq, g3.eq, g4.eq, g5.eq, g6.eq, g7.eq, g14.eq, g15.eq, g16.eq, g19.eq, g20.eq, h7, h8, h10, h11, h12, h13, h15, h16, h19, h20, h21, h23, h24, h25, h32, h33, h34, h58, h59] at f0 f1 f2 f3 f4 f5 f6 ⊢
  subst f2
  omega)
def w_xo_never_1_3 : VC := (([(0, 23), (0, 49), (0, 8), (0, 10), (1, 8), (0, 6), (0, 6), (0, 8), (0, 9), (0, 49), (0, 49), ((-2147483648), 2147483647), ((-2147483648), 2147483647), (0, 5), ((-2147483648), 2147483647), (0, 7), (0, 49), (0, 49), ((-2147483648), 2147483647), (1, 128), (1, 1), (0, 49), (1, 128), ((-2147483648), 2147483647)]), [(11, [(some 23, 0), (some 14, 0), (some 22, 0)], []), (13, [(some 22, 0), (none, 1), (some 15, 0)], []), (1, [(some 20, 0), (none, 0)], []), (197, [(some 20, 0), (some 7, 0), (some 2, 0), (some 3, 0), (some 4, 0), (some 5, 0), (some 6, 0), (some 19, 0), (none, 0)], [7, 8, 10, 11, 12, 13, 15, 16, 19, 20, 21, 23, 24, 25, 32, 33, 34]), (13, [(some 19, 0), (none, 1), (some 15, 0)], []), (2, [(some 15, 0), (some 4, 0)], []), (150, [(some 16, 0), (some 2, 0), (some 3, 0), (some 4, 0), (some 5, 0), (some 6, 0)], [58, 59, 7, 8, 10, 11, 12, 13, 15, 16, 19, 20, 21, 23, 24, 25]), (198, [(some 15, 0), (some 14, 0), (some 7, 0), (some 2, 0), (some 3, 0), (some 4, 0), (some 5, 0), (some 6, 0)], [7, 8, 10, 11, 12, 13, 15, 16, 19, 20, 21, 23, 24, 25, 32, 33, 34]), (3, [(some 4, 0), (some 15, 0)], [])], (198, [(some 15, 1), (some 23, 0), (some 7, 0), (some 2, 0), (some 3, 0), (some 4, 0), (some 5, 0), (some 6, 0)], [7, 8, 10, 11, 12, 13, 15, 16, 19, 20, 21, 23, 24, 25, 32, 33, 34]))
set_option maxRecDepth 20000 in
theorem v_xo_never_1_3 {PT : PTy} (hp : HP15 PT) : vcOk PT w_xo_never_1_3 := vc_iv [(2, 0, 8), (3, 0, 10), (4, 1, 8), (5, 0, 6), (6, 0, 6), (7, 0, 8), (14, (-2147483648), 2147483647), (15, 0, 7), (16, 0, 49), (19, 1, 128), (20, 1, 1), (22, 1, 128), (23, (-2147483648), 2147483647)] [7, 8, 10, 11, 12, 13, 15, 16, 19, 20, 21, 23, 24, 25, 32, 33, 34, 58, 59] (by decide +kernel) (fun ρ α => by
  intro r2 g2 b2 r3 g3 b3 r4 g4 b4 r5 g5 b5 r6 g6 b6 r7 g7 b7 r14 g14 b14 r15 g15 b15 r16 g16 b16 r19 g19 b19 r20 g20 b20 r22 g22 b22 r23 g23 b23 a7 h7 a8 h8 a10 h10 a11 h11 a12 h12 a13 h13 a15 h15 a16 h16 a19 h19 a20 h20 a21 h21 a23 h23 a24 h24 a25 h25 a32 h32 a33 h33 a34 h34 a58 h58 a59 h59 f0 f1 f2 f3 f4 f5 f6 f7 f8 tt
  clear f2
  have e150 : PT 150 = P_ar2 := pe150_15 hp
  have e197 : PT 197 = P_saX := pe197_15 hp
  have e198 : PT 198 = P_nvI := pe198_15 hp
  simp only [hF2, hF3, hF11, hF13, hFp_150, hFp_197, hFp_198, e150, e197, e198, P_ar2, P_saX, P_nvI, den_s, den_c, Int.add_zero, List.map_cons, List.map_nil, g2.eq, g3.eq, g4.eq, g5.eq, g6.eq, g7.eq, g14.eq, g15.eq, g16.eq, g19.eq, g20.eq, g22.eq, g23.eq, h7, h8, h10, h11, h12, h13, h15, h16, h19, h20, h21, h23, h24, h25, h32, h33, h34, h58, h59] at f0 f1 f3 f4 f5 f6 f7 f8 ⊢
  subst f0
  subst f1
  subst f4
  have hs := f3
  first
    | exact obB_s f7 (by omega) hs (by rw [if_pos (by omega)])
    | exact obB_s f7 (by omega) hs (by rw [if_neg (by omega)]))
def w_xo_never_1_4 : VC := (([(0, 23), (0, 49), (0, 8), (0, 10), (1, 8), (0, 6), (0, 6), (0, 8), (0, 9), (0, 49), (0, 49), ((-2147483648), 2147483647), ((-2147483648), 2147483647), (0, 5), ((-2147483648), 2147483647), (0, 7), (0, 49), (0, 49), ((-2147483648), 2147483647), (1, 128), (1, 1), (0, 49), (1, 128), ((-2147483648), 2147483647)]), [(11, [(some 23, 0), (some 14, 0), (some 22, 0)], []), (13, [(some 22, 0), (none, 1), (some 15, 0)], []), (1, [(some 20, 0), (none, 0)], []), (197, [(some 20, 0), (some 7, 0), (some 2, 0), (some 3, 0), (some 4, 0), (some 5, 0), (some 6, 0), (some 19, 0), (none, 0)], [7, 8, 10, 11, 12, 13, 15, 16, 19, 20, 21, 23, 24, 25, 32, 33, 34]), (13, [(some 19, 0), (none, 1), (some 15, 0)], []), (2, [(some 15, 0), (some 4, 0)], []), (150, [(some 16, 0), (some 2, 0), (some 3, 0), (some 4, 0), (some 5, 0), (some 6, 0)], [58, 59, 7, 8, 10, 11, 12, 13, 15, 16, 19, 20, 21, 23, 24, 25]), (198, [(some 15, 0), (some 14, 0), (some 7, 0), (some 2, 0), (some 3, 0), (some 4, 0), (some 5, 0), (some 6, 0)], [7, 8, 10, 11, 12, 13, 15, 16, 19, 20, 21, 23, 24, 25, 32, 33, 34]), (3, [(some 4, 0), (some 15, 0)], [])], (3, [(some 4, 0), (some 15, 1)], []))
set_option maxRecDepth 20000 in
theorem v_xo_never_1_4 {PT : PTy} (hp : HP15 PT) : vcOk PT w_xo_never_1_4 := vc_iv [(2, 0, 8), (3, 0, 10), (4, 1, 8), (5, 0, 6), (6, 0, 6), (7, 0, 8), (14, (-2147483648), 2147483647), (15, 0, 7), (16, 0, 49), (19, 1, 128), (20, 1, 1), (22, 1, 128), (23, (-2147483648), 2147483647)] [7, 8, 10, 11, 12, 13, 15, 16, 19, 20, 21, 23, 24, 25, 32, 33, 34, 58, 59] (by decide +kernel) (fun ρ α => by
  intro r2 g2 b2 r3 g3 b3 r4 g4 b4 r5 g5 b5 r6 g6 b6 r7 g7 b7 r14 g14 b14 r15 g15 b15 r16 g16 b16 r19 g19 b19 r20 g20 b20 r22 g22 b22 r23 g23 b23 a7 h7 a8 h8 a10 h10 a11 h11 a12 h12 a13 h13 a15 h15 a16 h16 a19 h19 a20 h20 a21 h21 a23 h23 a24 h24 a25 h25 a32 h32 a33 h33 a34 h34 a58 h58 a59 h59 f0 f1 f2 f3 f4 f5 f6 f7 f8 tt
  clear f2
  have e150 : PT 150 = P_ar2 := pe150_15 hp
  have e197 : PT 197 = P_saX := pe197_15 hp
  have e198 : PT 198 = P_nvI := pe198_15 hp
  simp only [hF2, hF3, hF11, hF13, hFp_150, hFp_197, hFp_198, e150, e197, e198, P_ar2, P_saX, P_nvI, den_s, den_c, Int.add_zero, List.map_cons, List.map_nil, g2.eq, g3.eq, g4.eq, g5.eq, g6.eq, g7.eq, g14.eq, g15.eq, g16.eq, g19.eq, g20.eq, g22.eq, g23.eq, h7, h8, h10, h11, h12, h13, h15, h16, h19, h20, h21, h23, h24, h25, h32, h33, h34, h58, h59] at f0 f1 f3 f4 f5 f6 f7 f8 ⊢
  subst f0
  subst f1
  subst f4
  omega)
set_option maxRecDepth 1000000 in
theorem k_xo_never {PT : PTy} (hp : HP15 PT) : wfX c_xo_never = true ∧ xcOk PT c_xo_never := xctr (xl (k_arrange14 hp.1.1.1.1.1.1.1.1.1.1.1.1) (xl (k_showsAll hp) (xl0))) c_xo_never 46 mX6_never rfl h_xo_never (by decide +kernel) (by decide +kernel) (by decide) (vcs_by [w_xo_never_0_0, w_xo_never_0_1, w_xo_never_0_2] (by decide +kernel) (vc (v_xo_never_0_0 hp) (vc (v_xo_never_0_1 hp) (vc (v_xo_never_0_2 hp) vn)))) (fmc (vcs_by [w_xo_never_1_0, w_xo_never_1_1, w_xo_never_1_2, w_xo_never_1_3, w_xo_never_1_4] (by decide +kernel) (vc (v_xo_never_1_0 hp) (vc (v_xo_never_1_1 hp) (vc (v_xo_never_1_2 hp) (vc (v_xo_never_1_3 hp) (vc (v_xo_never_1_4 hp) vn)))))) fmn)
def c_isSeen : XC := (172, 5, (bY), [.inr (.inl 0)], gY2, [], [((bY ++ [(0, 1)]), some (.inl (some 13, 0)), gY2, (ansT 35 [(19, 35), (20, 36), (21, 37), (22, 38), (23, 39), (24, 40)]), 41, [(104, [(none, 24), (some 2, 0), (some 8, 0), (some 3, 0), (some 9, 0), (some 5, 0), (some 6, 0), (some 10, 0), (some 11, 0)], [3, 4, 5, 6, 7, 8, 17, 18, 11, 12, 13, 14, 15, 16, 19, 20, 21, 35, 36, 37, 38, 39, 40]), (200, [(some 13, 0), (some 7, 0), (some 2, 0)], [26, 27, 28, 38])])])
def h_isSeen : List XH := [(8, (bY ++ [(0, 1), (0, 8)]), [some (.inr (.inl 0)), some (.inl (some 13, 0)), some (.inl (some 14, 0))], gY2, (ansT 35 [(19, 35), (20, 36), (21, 37), (22, 38), (23, 39), (24, 40)]), 41, [(104, [(none, 24), (some 2, 0), (some 8, 0), (some 3, 0), (some 9, 0), (some 5, 0), (some 6, 0), (some 10, 0), (some 11, 0)], [3, 4, 5, 6, 7, 8, 17, 18, 11, 12, 13, 14, 15, 16, 19, 20, 21, 35, 36, 37, 38, 39, 40]), (200, [(some 13, 0), (some 14, 0), (some 2, 0)], [26, 27, 28, 38]), (3, [(some 7, 0), (some 14, 0)], [])], [(true, (none, 1)), (true, (some 14, 0))])]
def w_isSeen_0_0 : VC := ((bY), [(104, [(none, 24), (some 2, 0), (some 8, 0), (some 3, 0), (some 9, 0), (some 5, 0), (some 6, 0), (some 10, 0), (some 11, 0)], [3, 4, 5, 6, 7, 8, 17, 18, 11, 12, 13, 14, 15, 16, 19, 20, 21, 35, 36, 37, 38, 39, 40])], (200, [(none, 1), (none, 0), (some 2, 0)], [26, 27, 28, 38]))
theorem pe104_15 {PT : PTy} (hp : HP15 PT) : PT 104 = P_ru := hp.1.1.1.1.1.1.1.1.1.1.2.2.2.2.2.2.2.2.2.2.1
theorem pe200_15 {PT : PTy} (hp : HP15 PT) : PT 200 = P_sy := hp.2.2.2.2.2.2.2.1
set_option maxRecDepth 20000 in
theorem v_isSeen_0_0 {PT : PTy} (hp : HP15 PT) : vcOk PT w_isSeen_0_0 := vc_iv [(2, 0, 8), (3, 0, 10), (5, 0, 6), (6, 0, 6), (8, 0, 11), (9, 0, 9), (10, (-2147483648), 2147483647), (11, (-2147483648), 2147483647)] [3, 4, 5, 6, 7, 8, 11, 12, 13, 14, 15, 16, 17, 18, 19, 20, 21, 26, 27, 28, 35, 36, 37, 38, 39, 40] (by decide +kernel) (fun ρ α => by
  intro r2 g2 b2 r3 g3 b3 r5 g5 b5 r6 g6 b6 r8 g8 b8 r9 g9 b9 r10 g10 b10 r11 g11 b11 a3 h3 a4 h4 a5 h5 a6 h6 a7 h7 a8 h8 a11 h11 a12 h12 a13 h13 a14 h14 a15 h15 a16 h16 a17 h17 a18 h18 a19 h19 a20 h20 a21 h21 a26 h26 a27 h27 a28 h28 a35 h35 a36 h36 a37 h37 a38 h38 a39 h39 a40 h40 f0 tt
  have e104 : PT 104 = P_ru := pe104_15 hp
  have e200 : PT 200 = P_sy := pe200_15 hp
  simp only [hFp_104, hFp_200, e104, e200, P_ru, P_sy, den_s, den_c, Int.add_zero, List.map_cons, List.map_nil, g2.eq, g3.eq, g5.eq, g6.eq, g8.eq, g9.eq, g10.eq, g11.eq, h3, h4, h5, h6, h7, h8, h11, h12, h13, h14, h15, h16, h17, h18, h19, h20, h21, h26, h27, h28, h35, h36, h37, h38, h39, h40] at f0 ⊢
  exact Or.inl ⟨by first | rfl | trivial, fun j h1 h2 => by exfalso; omega⟩)
def w_isSeen_0_1 : VC := ((bY), [(104, [(none, 24), (some 2, 0), (some 8, 0), (some 3, 0), (some 9, 0), (some 5, 0), (some 6, 0), (some 10, 0), (some 11, 0)], [3, 4, 5, 6, 7, 8, 17, 18, 11, 12, 13, 14, 15, 16, 19, 20, 21, 35, 36, 37, 38, 39, 40])], (3, [(some 7, 0), (none, 0)], []))
set_option maxRecDepth 20000 in
theorem v_isSeen_0_1 {PT : PTy} (hp : HP15 PT) : vcOk PT w_isSeen_0_1 := vc_iv [(2, 0, 8), (3, 0, 10), (5, 0, 6), (6, 0, 6), (7, 0, 8), (8, 0, 11), (9, 0, 9), (10, (-2147483648), 2147483647), (11, (-2147483648), 2147483647)] [3, 4, 5, 6, 7, 8, 11, 12, 13, 14, 15, 16, 17, 18, 19, 20, 21, 35, 36, 37, 38, 39, 40] (by decide +kernel) (fun ρ α => by
  intro r2 g2 b2 r3 g3 b3 r5 g5 b5 r6 g6 b6 r7 g7 b7 r8 g8 b8 r9 g9 b9 r10 g10 b10 r11 g11 b11 a3 h3 a4 h4 a5 h5 a6 h6 a7 h7 a8 h8 a11 h11 a12 h12 a13 h13 a14 h14 a15 h15 a16 h16 a17 h17 a18 h18 a19 h19 a20 h20 a21 h21 a35 h35 a36 h36 a37 h37 a38 h38 a39 h39 a40 h40 f0 tt
  have e104 : PT 104 = P_ru := pe104_15 hp
  simp only [hF3, hFp_104, e104, P_ru, den_s, den_c, Int.add_zero, List.map_cons, List.map_nil, g2.eq, g3.eq, g5.eq, g6.eq, g7.eq, g8.eq, g9.eq, g10.eq, g11.eq, h3, h4, h5, h6, h7, h8, h11, h12, h13, h14, h15, h16, h17, h18, h19, h20, h21, h35, h36, h37, h38, h39, h40] at f0 ⊢
  omega)
def w_isSeen_1_0 : VC := ((bY ++ [(0, 1), (0, 8)]), [(3, [(some 14, 0), (some 7, 0)], []), (104, [(none, 24), (some 2, 0), (some 8, 0), (some 3, 0), (some 9, 0), (some 5, 0), (some 6, 0), (some 10, 0), (some 11, 0)], [3, 4, 5, 6, 7, 8, 17, 18, 11, 12, 13, 14, 15, 16, 19, 20, 21, 35, 36, 37, 38, 39, 40]), (200, [(some 13, 0), (some 14, 0), (some 2, 0)], [26, 27, 28, 38]), (3, [(some 7, 0), (some 14, 0)], [])], (200, [(some 13, 0), (some 7, 0), (some 2, 0)], [26, 27, 28, 38]))
set_option maxRecDepth 20000 in
theorem v_isSeen_1_0 {PT : PTy} (hp : HP15 PT) : vcOk PT w_isSeen_1_0 := vc_iv [(2, 0, 8), (3, 0, 10), (5, 0, 6), (6, 0, 6), (7, 0, 8), (8, 0, 11), (9, 0, 9), (10, (-2147483648), 2147483647), (11, (-2147483648), 2147483647), (13, 0, 1), (14, 0, 8)] [3, 4, 5, 6, 7, 8, 11, 12, 13, 14, 15, 16, 17, 18, 19, 20, 21, 26, 27, 28, 35, 36, 37, 38, 39, 40] (by decide +kernel) (fun ρ α => by
  intro r2 g2 b2 r3 g3 b3 r5 g5 b5 r6 g6 b6 r7 g7 b7 r8 g8 b8 r9 g9 b9 r10 g10 b10 r11 g11 b11 r13 g13 b13 r14 g14 b14 a3 h3 a4 h4 a5 h5 a6 h6 a7 h7 a8 h8 a11 h11 a12 h12 a13 h13 a14 h14 a15 h15 a16 h16 a17 h17 a18 h18 a19 h19 a20 h20 a21 h21 a26 h26 a27 h27 a28 h28 a35 h35 a36 h36 a37 h37 a38 h38 a39 h39 a40 h40 f0 f1 f2 f3 tt
  have e104 : PT 104 = P_ru := pe104_15 hp
  have e200 : PT 200 = P_sy := pe200_15 hp
  simp only [hF3, hFp_104, hFp_200, e104, e200, P_ru, P_sy, den_s, den_c, Int.add_zero, List.map_cons, List.map_nil, g2.eq, g3.eq, g5.eq, g6.eq, g7.eq, g8.eq, g9.eq, g10.eq, g11.eq, g13.eq, g14.eq, h3, h4, h5, h6, h7, h8, h11, h12, h13, h14, h15, h16, h17, h18, h19, h20, h21, h26, h27, h28, h35, h36, h37, h38, h39, h40] at f0 f1 f2 f3 ⊢
  rcases f2 with ⟨q0, q⟩ | ⟨q0, j, j1, j2, j3⟩
  · first
      | exact Or.inl ⟨q0, fun j h1 h2 => q j h1 (by omega)⟩
      | (exfalso; omega)
  · exact Or.inr ⟨q0, j, j1, by omega, j3⟩)
def w_isSeen_1_1 : VC := (([(0, 23), (0, 49), (0, 8), (0, 10), (0, 8), (0, 6), (0, 6), (1, 8), (0, 11), (0, 9), ((-2147483648), 2147483647), ((-2147483648), 2147483647), (0, 5), (0, 0), (0, 7)]), [(0, [(some 13, 0), (none, 0)], []), (2, [(some 14, 0), (some 7, 0)], []), (104, [(none, 24), (some 2, 0), (some 8, 0), (some 3, 0), (some 9, 0), (some 5, 0), (some 6, 0), (some 10, 0), (some 11, 0)], [3, 4, 5, 6, 7, 8, 17, 18, 11, 12, 13, 14, 15, 16, 19, 20, 21, 35, 36, 37, 38, 39, 40]), (200, [(some 13, 0), (some 14, 0), (some 2, 0)], [26, 27, 28, 38]), (3, [(some 7, 0), (some 14, 0)], [])], (200, [(some 13, 0), (some 7, 0), (some 2, 0)], [26, 27, 28, 38]))
set_option maxRecDepth 20000 in
theorem v_isSeen_1_1 {PT : PTy} (hp : HP15 PT) : vcOk PT w_isSeen_1_1 := vc_iv [(2, 0, 8), (3, 0, 10), (5, 0, 6), (6, 0, 6), (7, 1, 8), (8, 0, 11), (9, 0, 9), (10, (-2147483648), 2147483647), (11, (-2147483648), 2147483647), (13, 0, 0), (14, 0, 7)] [3, 4, 5, 6, 7, 8, 11, 12, 13, 14, 15, 16, 17, 18, 19, 20, 21, 26, 27, 28, 35, 36, 37, 38, 39, 40] (by decide +kernel) (fun ρ α => by
  intro r2 g2 b2 r3 g3 b3 r5 g5 b5 r6 g6 b6 r7 g7 b7 r8 g8 b8 r9 g9 b9 r10 g10 b10 r11 g11 b11 r13 g13 b13 r14 g14 b14 a3 h3 a4 h4 a5 h5 a6 h6 a7 h7 a8 h8 a11 h11 a12 h12 a13 h13 a14 h14 a15 h15 a16 h16 a17 h17 a18 h18 a19 h19 a20 h20 a21 h21 a26 h26 a27 h27 a28 h28 a35 h35 a36 h36 a37 h37 a38 h38 a39 h39 a40 h40 f0 f1 f2 f3 f4 tt
  have e104 : PT 104 = P_ru := pe104_15 hp
  have e200 : PT 200 = P_sy := pe200_15 hp
  simp only [hF0, hF2, hF3, hFp_104, hFp_200, e104, e200, P_ru, P_sy, den_s, den_c, Int.add_zero, List.map_cons, List.map_nil, g2.eq, g3.eq, g5.eq, g6.eq, g7.eq, g8.eq, g9.eq, g10.eq, g11.eq, g13.eq, g14.eq, h3, h4, h5, h6, h7, h8, h11, h12, h13, h14, h15, h16, h17, h18, h19, h20, h21, h26, h27, h28, h35, h36, h37, h38, h39, h40] at f0 f1 f2 f3 f4 ⊢
  rcases f3 with ⟨q0, q⟩ | ⟨q0, j, j1, j2, j3⟩
  · first
      | exact Or.inl ⟨q0, fun j h1 h2 => q j h1 (by omega)⟩
      | (exfalso; omega)
  · exact Or.inr ⟨q0, j, j1, by omega, j3⟩)
def w_isSeen_1_2 : VC := (([(0, 23), (0, 49), (0, 7), (0, 10), (0, 8), (0, 6), (0, 6), (1, 8), (0, 11), (0, 9), ((-2147483648), 2147483647), ((-2147483648), 2147483647), (0, 5), (1, 1), (0, 7), (0, 7)]), [(3, [(some 15, 0), (some 2, 0)], []), (20, [(some 15, 0), (some 14, 0)], [27]), (1, [(some 13, 0), (none, 0)], []), (2, [(some 14, 0), (some 7, 0)], []), (104, [(none, 24), (some 2, 0), (some 8, 0), (some 3, 0), (some 9, 0), (some 5, 0), (some 6, 0), (some 10, 0), (some 11, 0)], [3, 4, 5, 6, 7, 8, 17, 18, 11, 12, 13, 14, 15, 16, 19, 20, 21, 35, 36, 37, 38, 39, 40]), (200, [(some 13, 0), (some 14, 0), (some 2, 0)], [26, 27, 28, 38]), (3, [(some 7, 0), (some 14, 0)], [])], (200, [(none, 0), (some 14, 1), (some 2, 0)], [26, 27, 28, 38]))
set_option maxRecDepth 20000 in
theorem v_isSeen_1_2 {PT : PTy} (hp : HP15 PT) : vcOk PT w_isSeen_1_2 := vc_iv [(2, 0, 7), (3, 0, 10), (5, 0, 6), (6, 0, 6), (7, 1, 8), (8, 0, 11), (9, 0, 9), (10, (-2147483648), 2147483647), (11, (-2147483648), 2147483647), (13, 1, 1), (14, 0, 7), (15, 0, 7)] [3, 4, 5, 6, 7, 8, 11, 12, 13, 14, 15, 16, 17, 18, 19, 20, 21, 26, 27, 28, 35, 36, 37, 38, 39, 40] (by decide +kernel) (fun ρ α => by
  intro r2 g2 b2 r3 g3 b3 r5 g5 b5 r6 g6 b6 r7 g7 b7 r8 g8 b8 r9 g9 b9 r10 g10 b10 r11 g11 b11 r13 g13 b13 r14 g14 b14 r15 g15 b15 a3 h3 a4 h4 a5 h5 a6 h6 a7 h7 a8 h8 a11 h11 a12 h12 a13 h13 a14 h14 a15 h15 a16 h16 a17 h17 a18 h18 a19 h19 a20 h20 a21 h21 a26 h26 a27 h27 a28 h28 a35 h35 a36 h36 a37 h37 a38 h38 a39 h39 a40 h40 f0 f1 f2 f3 f4 f5 f6 tt
  clear f2
  have e104 : PT 104 = P_ru := pe104_15 hp
  have e200 : PT 200 = P_sy := pe200_15 hp
  simp only [hF2, hF3, hF20, hFp_104, hFp_200, e104, e200, P_ru, P_sy, den_s, den_c, Int.add_zero, List.map_cons, List.map_nil, g2.eq, g3.eq, g5.eq, g6.eq, g7.eq, g8.eq, g9.eq, g10.eq, g11.eq, g13.eq, g14.eq, g15.eq, h3, h4, h5, h6, h7, h8, h11, h12, h13, h14, h15, h16, h17, h18, h19, h20, h21, h26, h27, h28, h35, h36, h37, h38, h39, h40] at f0 f1 f3 f4 f5 f6 ⊢
  subst f1
  rcases f5 with ⟨q0, q⟩ | ⟨q0, j, j1, j2, j3⟩
  · first
      | exact Or.inl ⟨by first | rfl | omega, fun j h1 h2 => by
          by_cases e : j = r14
          · subst e; exact ⟨by omega, by omega⟩
          · exact q j h1 (by omega)⟩
      | exact Or.inr ⟨by first | rfl | omega, r14, by omega, by omega, fun h => by have h1 := h.1; have h2 := h.2; omega⟩
  · exfalso; omega)
def w_isSeen_1_3 : VC := (([(0, 23), (0, 49), (0, 7), (0, 10), (0, 8), (0, 6), (0, 6), (1, 8), (0, 11), (0, 9), ((-2147483648), 2147483647), ((-2147483648), 2147483647), (0, 5), (1, 1), (0, 7), (0, 7)]), [(3, [(some 15, 0), (some 2, 0)], []), (20, [(some 15, 0), (some 14, 0)], [27]), (1, [(some 13, 0), (none, 0)], []), (2, [(some 14, 0), (some 7, 0)], []), (104, [(none, 24), (some 2, 0), (some 8, 0), (some 3, 0), (some 9, 0), (some 5, 0), (some 6, 0), (some 10, 0), (some 11, 0)], [3, 4, 5, 6, 7, 8, 17, 18, 11, 12, 13, 14, 15, 16, 19, 20, 21, 35, 36, 37, 38, 39, 40]), (200, [(some 13, 0), (some 14, 0), (some 2, 0)], [26, 27, 28, 38]), (3, [(some 7, 0), (some 14, 0)], [])], (3, [(some 7, 0), (some 14, 1)], []))
set_option maxRecDepth 20000 in
theorem v_isSeen_1_3 {PT : PTy} (hp : HP15 PT) : vcOk PT w_isSeen_1_3 := vc_iv [(2, 0, 7), (3, 0, 10), (5, 0, 6), (6, 0, 6), (7, 1, 8), (8, 0, 11), (9, 0, 9), (10, (-2147483648), 2147483647), (11, (-2147483648), 2147483647), (13, 1, 1), (14, 0, 7), (15, 0, 7)] [3, 4, 5, 6, 7, 8, 11, 12, 13, 14, 15, 16, 17, 18, 19, 20, 21, 26, 27, 28, 35, 36, 37, 38, 39, 40] (by decide +kernel) (fun ρ α => by
  intro r2 g2 b2 r3 g3 b3 r5 g5 b5 r6 g6 b6 r7 g7 b7 r8 g8 b8 r9 g9 b9 r10 g10 b10 r11 g11 b11 r13 g13 b13 r14 g14 b14 r15 g15 b15 a3 h3 a4 h4 a5 h5 a6 h6 a7 h7 a8 h8 a11 h11 a12 h12 a13 h13 a14 h14 a15 h15 a16 h16 a17 h17 a18 h18 a19 h19 a20 h20 a21 h21 a26 h26 a27 h27 a28 h28 a35 h35 a36 h36 a37 h37 a38 h38 a39 h39 a40 h40 f0 f1 f2 f3 f4 f5 f6 tt
  clear f2
  have e104 : PT 104 = P_ru := pe104_15 hp
  have e200 : PT 200 = P_sy := pe200_15 hp
  simp only [hF2, hF3, hF20, hFp_104, hFp_200, e104, e200, P_ru, P_sy, den_s, den_c, Int.add_zero, List.map_cons, List.map_nil, g2.eq, g3.eq, g5.eq, g6.eq, g7.eq, g8.eq, g9.eq, g10.eq, g11.eq, g13.eq, g14.eq, g15.eq, h3, h4, h5, h6, h7, h8, h11, h12, h13, h14, h15, h16, h17, h18, h19, h20, h21, h26, h27, h28, h35, h36, h37, h38, h39, h40] at f0 f1 f3 f4 f5 f6 ⊢
  subst f1
  omega)
def w_isSeen_1_4 : VC := (([(0, 23), (0, 49), (1, 8), (0, 10), (0, 8), (0, 6), (0, 6), (1, 8), (0, 11), (0, 9), ((-2147483648), 2147483647), ((-2147483648), 2147483647), (0, 5), (1, 1), (0, 7), (0, 7), (0, 23), (0, 184), (0, 7), (0, 191), (0, 99), (0, 99)]), [(1, [(some 20, 0), (some 21, 0)], []), (20, [(some 21, 0), (some 14, 0)], [28]), (20, [(some 20, 0), (some 19, 0)], [38]), (4, [(some 19, 0), (some 17, 0), (some 18, 0)], []), (20, [(some 18, 0), (some 14, 0)], [27]), (6, [(some 17, 0), (none, 8), (some 16, 0)], []), (20, [(some 16, 0), (some 14, 0)], [26]), (2, [(some 15, 0), (some 2, 0)], []), (20, [(some 15, 0), (some 14, 0)], [27]), (1, [(some 13, 0), (none, 0)], []), (2, [(some 14, 0), (some 7, 0)], []), (104, [(none, 24), (some 2, 0), (some 8, 0), (some 3, 0), (some 9, 0), (some 5, 0), (some 6, 0), (some 10, 0), (some 11, 0)], [3, 4, 5, 6, 7, 8, 17, 18, 11, 12, 13, 14, 15, 16, 19, 20, 21, 35, 36, 37, 38, 39, 40]), (200, [(some 13, 0), (some 14, 0), (some 2, 0)], [26, 27, 28, 38]), (3, [(some 7, 0), (some 14, 0)], [])], (200, [(none, 0), (some 14, 1), (some 2, 0)], [26, 27, 28, 38]))
set_option maxRecDepth 20000 in
theorem v_isSeen_1_4 {PT : PTy} (hp : HP15 PT) : vcOk PT w_isSeen_1_4 := vc_iv [(2, 1, 8), (3, 0, 10), (5, 0, 6), (6, 0, 6), (7, 1, 8), (8, 0, 11), (9, 0, 9), (10, (-2147483648), 2147483647), (11, (-2147483648), 2147483647), (13, 1, 1), (14, 0, 7), (15, 0, 7), (16, 0, 23), (17, 0, 184), (18, 0, 7), (19, 0, 191), (20, 0, 99), (21, 0, 99)] [3, 4, 5, 6, 7, 8, 11, 12, 13, 14, 15, 16, 17, 18, 19, 20, 21, 26, 27, 28, 35, 36, 37, 38, 39, 40] (by decide +kernel) (fun ρ α => by
  intro r2 g2 b2 r3 g3 b3 r5 g5 b5 r6 g6 b6 r7 g7 b7 r8 g8 b8 r9 g9 b9 r10 g10 b10 r11 g11 b11 r13 g13 b13 r14 g14 b14 r15 g15 b15 r16 g16 b16 r17 g17 b17 r18 g18 b18 r19 g19 b19 r20 g20 b20 r21 g21 b21 a3 h3 a4 h4 a5 h5 a6 h6 a7 h7 a8 h8 a11 h11 a12 h12 a13 h13 a14 h14 a15 h15 a16 h16 a17 h17 a18 h18 a19 h19 a20 h20 a21 h21 a26 h26 a27 h27 a28 h28 a35 h35 a36 h36 a37 h37 a38 h38 a39 h39 a40 h40 f0 f1 f2 f3 f4 f5 f6 f7 f8 f9 f10 f11 f12 f13 tt
  clear f9
  have e104 : PT 104 = P_ru := pe104_15 hp
  have e200 : PT 200 = P_sy := pe200_15 hp
  simp only [hF1, hF2, hF3, hF4, hF6, hF20, hFp_104, hFp_200, e104, e200, P_ru, P_sy, den_s, den_c, Int.add_zero, List.map_cons, List.map_nil, g2.eq, g3.eq, g5.eq, g6.eq, g7.eq, g8.eq, g9.eq, g10.eq, g11.eq, g13.eq, g14.eq, g15.eq, g16.eq, g17.eq, g18.eq, g19.eq, g20.eq, g21.eq, h3, h4, h5, h6, h7, h8, h11, h12, h13, h14, h15, h16, h17, h18, h19, h20, h21, h26, h27, h28, h35, h36, h37, h38, h39, h40] at f0 f1 f2 f3 f4 f5 f6 f7 f8 f10 f11 f12 f13 ⊢
  subst f1
  subst f2
  subst f3
  subst f4
  subst f5
  subst f6
  subst f8
  rcases f12 with ⟨q0, q⟩ | ⟨q0, j, j1, j2, j3⟩
  · first
      | exact Or.inl ⟨by first | rfl | omega, fun j h1 h2 => by
          by_cases e : j = r14
          · subst e; exact ⟨by omega, by omega⟩
          · exact q j h1 (by omega)⟩
      | exact Or.inr ⟨by first | rfl | omega, r14, by omega, by omega, fun h => by have h1 := h.1; have h2 := h.2; omega⟩
  · exfalso; omega)
def w_isSeen_1_5 : VC := (([(0, 23), (0, 49), (1, 8), (0, 10), (0, 8), (0, 6), (0, 6), (1, 8), (0, 11), (0, 9), ((-2147483648), 2147483647), ((-2147483648), 2147483647), (0, 5), (1, 1), (0, 7), (0, 7), (0, 23), (0, 184), (0, 7), (0, 191), (0, 99), (0, 99)]), [(1, [(some 20, 0), (some 21, 0)], []), (20, [(some 21, 0), (some 14, 0)], [28]), (20, [(some 20, 0), (some 19, 0)], [38]), (4, [(some 19, 0), (some 17, 0), (some 18, 0)], []), (20, [(some 18, 0), (some 14, 0)], [27]), (6, [(some 17, 0), (none, 8), (some 16, 0)], []), (20, [(some 16, 0), (some 14, 0)], [26]), (2, [(some 15, 0), (some 2, 0)], []), (20, [(some 15, 0), (some 14, 0)], [27]), (1, [(some 13, 0), (none, 0)], []), (2, [(some 14, 0), (some 7, 0)], []), (104, [(none, 24), (some 2, 0), (some 8, 0), (some 3, 0), (some 9, 0), (some 5, 0), (some 6, 0), (some 10, 0), (some 11, 0)], [3, 4, 5, 6, 7, 8, 17, 18, 11, 12, 13, 14, 15, 16, 19, 20, 21, 35, 36, 37, 38, 39, 40]), (200, [(some 13, 0), (some 14, 0), (some 2, 0)], [26, 27, 28, 38]), (3, [(some 7, 0), (some 14, 0)], [])], (3, [(some 7, 0), (some 14, 1)], []))
set_option maxRecDepth 20000 in
theorem v_isSeen_1_5 {PT : PTy} (hp : HP15 PT) : vcOk PT w_isSeen_1_5 := vc_iv [(2, 1, 8), (3, 0, 10), (5, 0, 6), (6, 0, 6), (7, 1, 8), (8, 0, 11), (9, 0, 9), (10, (-2147483648), 2147483647), (11, (-2147483648), 2147483647), (13, 1, 1), (14, 0, 7), (15, 0, 7), (16, 0, 23), (17, 0, 184), (18, 0, 7), (19, 0, 191), (20, 0, 99), (21, 0, 99)] [3, 4, 5, 6, 7, 8, 11, 12, 13, 14, 15, 16, 17, 18, 19, 20, 21, 26, 27, 28, 35, 36, 37, 38, 39, 40] (by decide +kernel) (fun ρ α => by
  intro r2 g2 b2 r3 g3 b3 r5 g5 b5 r6 g6 b6 r7 g7 b7 r8 g8 b8 r9 g9 b9 r10 g10 b10 r11 g11 b11 r13 g13 b13 r14 g14 b14 r15 g15 b15 r16 g16 b16 r17 g17 b17 r18 g18 b18 r19 g19 b19 r20 g20 b20 r21 g21 b21 a3 h3 a4 h4 a5 h5 a6 h6 a7 h7 a8 h8 a11 h11 a12 h12 a13 h13 a14 h14 a15 h15 a16 h16 a17 h17 a18 h18 a19 h19 a20 h20 a21 h21 a26 h26 a27 h27 a28 h28 a35 h35 a36 h36 a37 h37 a38 h38 a39 h39 a40 h40 f0 f1 f2 f3 f4 f5 f6 f7 f8 f9 f10 f11 f12 f13 tt
  clear f9
  have e104 : PT 104 = P_ru := pe104_15 hp
  have e200 : PT 200 = P_sy := pe200_15 hp
  simp only [hF1, hF2, hF3, hF4, hF6, hF20, hFp_104, hFp_200, e104, e200, P_ru, P_sy, den_s, den_c, Int.add_zero, List.map_cons, List.map_nil, g2.eq, g3.eq, g5.eq, g6.eq, g7.eq, g8.eq, g9.eq, g10.eq, g11.eq, g13.eq, g14.eq, g15.eq, g16.eq, g17.eq, g18.eq, g19.eq, g20.eq, g21.eq, h3, h4, h5, h6, h7, h8, h11, h12, h13, h14, h15, h16, h17, h18, h19, h20, h21, h26, h27, h28, h35, h36, h37, h38, h39, h40] at f0 f1 f2 f3 f4 f5 f6 f7 f8 f10 f11 f12 f13 ⊢
  subst f1
  subst f2
  subst f3
  subst f4
  subst f5
  subst f6
  subst f8
  omega)
def w_isSeen_1_6 : VC := (([(0, 23), (0, 49), (1, 8), (0, 10), (0, 8), (0, 6), (0, 6), (1, 8), (0, 11), (0, 9), ((-2147483648), 2147483647), ((-2147483648), 2147483647), (0, 5), (1, 1), (0, 7), (0, 7), (0, 23), (0, 184), (0, 7), (0, 191), (0, 99), (0, 99)]), [(0, [(some 20, 0), (some 21, 0)], []), (20, [(some 21, 0), (some 14, 0)], [28]), (20, [(some 20, 0), (some 19, 0)], [38]), (4, [(some 19, 0), (some 17, 0), (some 18, 0)], []), (20, [(some 18, 0), (some 14, 0)], [27]), (6, [(some 17, 0), (none, 8), (some 16, 0)], []), (20, [(some 16, 0), (some 14, 0)], [26]), (2, [(some 15, 0), (some 2, 0)], []), (20, [(some 15, 0), (some 14, 0)], [27]), (1, [(some 13, 0), (none, 0)], []), (2, [(some 14, 0), (some 7, 0)], []), (104, [(none, 24), (some 2, 0), (some 8, 0), (some 3, 0), (some 9, 0), (some 5, 0), (some 6, 0), (some 10, 0), (some 11, 0)], [3, 4, 5, 6, 7, 8, 17, 18, 11, 12, 13, 14, 15, 16, 19, 20, 21, 35, 36, 37, 38, 39, 40]), (200, [(some 13, 0), (some 14, 0), (some 2, 0)], [26, 27, 28, 38]), (3, [(some 7, 0), (some 14, 0)], [])], (200, [(none, 1), (some 14, 1), (some 2, 0)], [26, 27, 28, 38]))
set_option maxRecDepth 20000 in
theorem v_isSeen_1_6 {PT : PTy} (hp : HP15 PT) : vcOk PT w_isSeen_1_6 := vc_iv [(2, 1, 8), (3, 0, 10), (5, 0, 6), (6, 0, 6), (7, 1, 8), (8, 0, 11), (9, 0, 9), (10, (-2147483648), 2147483647), (11, (-2147483648), 2147483647), (13, 1, 1), (14, 0, 7), (15, 0, 7), (16, 0, 23), (17, 0, 184), (18, 0, 7), (19, 0, 191), (20, 0, 99), (21, 0, 99)] [3, 4, 5, 6, 7, 8, 11, 12, 13, 14, 15, 16, 17, 18, 19, 20, 21, 26, 27, 28, 35, 36, 37, 38, 39, 40] (by decide +kernel) (fun ρ α => by
  intro r2 g2 b2 r3 g3 b3 r5 g5 b5 r6 g6 b6 r7 g7 b7 r8 g8 b8 r9 g9 b9 r10 g10 b10 r11 g11 b11 r13 g13 b13 r14 g14 b14 r15 g15 b15 r16 g16 b16 r17 g17 b17 r18 g18 b18 r19 g19 b19 r20 g20 b20 r21 g21 b21 a3 h3 a4 h4 a5 h5 a6 h6 a7 h7 a8 h8 a11 h11 a12 h12 a13 h13 a14 h14 a15 h15 a16 h16 a17 h17 a18 h18 a19 h19 a20 h20 a21 h21 a26 h26 a27 h27 a28 h28 a35 h35 a36 h36 a37 h37 a38 h38 a39 h39 a40 h40 f0 f1 f2 f3 f4 f5 f6 f7 f8 f9 f10 f11 f12 f13 tt
  clear f9
  have e104 : PT 104 = P_ru := pe104_15 hp
  have e200 : PT 200 = P_sy := pe200_15 hp
  simp only [hF0, hF2, hF3, hF4, hF6, hF20, hFp_104, hFp_200, e104, e200, P_ru, P_sy, den_s, den_c, Int.add_zero, List.map_cons, List.map_nil, g2.eq, g3.eq, g5.eq, g6.eq, g7.eq, g8.eq, g9.eq, g10.eq, g11.eq, g13.eq, g14.eq, g15.eq, g16.eq, g17.eq, g18.eq, g19.eq, g20.eq, g21.eq, h3, h4, h5, h6, h7, h8, h11, h12, h13, h14, h15, h16, h17, h18, h19, h20, h21, h26, h27, h28, h35, h36, h37, h38, h39, h40] at f0 f1 f2 f3 f4 f5 f6 f7 f8 f10 f11 f12 f13 ⊢
  subst f1
  subst f2
  subst f3
  subst f4
  subst f5
  subst f6
  subst f8
  rcases f12 with ⟨q0, q⟩ | ⟨q0, j, j1, j2, j3⟩
  · first
      | exact Or.inl ⟨by first | rfl | omega, fun j h1 h2 => by
          by_cases e : j = r14
          · subst e; exact ⟨by omega, by omega⟩
          · exact q j h1 (by omega)⟩
      | exact Or.inr ⟨by first | rfl | omega, r14, by omega, by omega, fun h => by have h1 := h.1; have h2 := h.2; omega⟩
  · exfalso; omega)
def w_isSeen_1_7 : VC := (([(0, 23), (0, 49), (1, 8), (0, 10), (0, 8), (0, 6), (0, 6), (1, 8), (0, 11), (0, 9), ((-2147483648), 2147483647), ((-2147483648), 2147483647), (0, 5), (1, 1), (0, 7), (0, 7), (0, 23), (0, 184), (0, 7), (0, 191), (0, 99), (0, 99)]), [(0, [(some 20, 0), (some 21, 0)], []), (20, [(some 21, 0), (some 14, 0)], [28]), (20, [(some 20, 0), (some 19, 0)], [38]), (4, [(some 19, 0), (some 17, 0), (some 18, 0)], []), (20, [(some 18, 0), (some 14, 0)], [27]), (6, [(some 17, 0), (none, 8), (some 16, 0)], []), (20, [(some 16, 0), (some 14, 0)], [26]), (2, [(some 15, 0), (some 2, 0)], []), (20, [(some 15, 0), (some 14, 0)], [27]), (1, [(some 13, 0), (none, 0)], []), (2, [(some 14, 0), (some 7, 0)], []), (104, [(none, 24), (some 2, 0), (some 8, 0), (some 3, 0), (some 9, 0), (some 5, 0), (some 6, 0), (some 10, 0), (some 11, 0)], [3, 4, 5, 6, 7, 8, 17, 18, 11, 12, 13, 14, 15, 16, 19, 20, 21, 35, 36, 37, 38, 39, 40]), (200, [(some 13, 0), (some 14, 0), (some 2, 0)], [26, 27, 28, 38]), (3, [(some 7, 0), (some 14, 0)], [])], (3, [(some 7, 0), (some 14, 1)], []))
set_option maxRecDepth 20000 in
theorem v_isSeen_1_7 {PT : PTy} (hp : HP15 PT) : vcOk PT w_isSeen_1_7 := vc_iv [(2, 1, 8), (3, 0, 10), (5, 0, 6), (6, 0, 6), (7, 1, 8), (8, 0, 11), (9, 0, 9), (10, (-2147483648), 2147483647), (11, (-2147483648), 2147483647), (13, 1, 1), (14, 0, 7), (15, 0, 7), (16, 0, 23), (17, 0, 184), (18, 0, 7), (19, 0, 191), (20, 0, 99), (21, 0, 99)] [3, 4, 5, 6, 7, 8, 11, 12, 13, 14, 15, 16, 17, 18, 19, 20, 21, 26, 27, 28, 35, 36, 37, 38, 39, 40] (by decide +kernel) (fun ρ α => by
  intro r2 g2 b2 r3 g3 b3 r5 g5 b5 r6 g6 b6 r7 g7 b7 r8 g8 b8 r9 g9 b9 r10 g10 b10 r11 g11 b11 r13 g13 b13 r14 g14 b14 r15 g15 b15 r16 g16 b16 r17 g17 b17 r18 g18 b18 r19 g19 b19 r20 g20 b20 r21 g21 b21 a3 h3 a4 h4 a5 h5 a6 h6 a7 h7 a8 h8 a11 h11 a12 h12 a13 h13 a14 h14 a15 h15 a16 h16 a17 h17 a18 h18 a19 h19 a20 h20 a21 h21 a26 h26 a27 h27 a28 h28 a35 h35 a36 h36 a37 h37 a38 h38 a39 h39 a40 h40 f0 f1 f2 f3 f4 f5 f6 f7 f8 f9 f10 f11 f12 f13 tt
  clear f9
  have e104 : PT 104 = P_ru := pe104_15 hp
  have e200 : PT 200 = P_sy := pe200_15 hp
  simp only [hF0, hF2, hF3, hF4, hF6, hF20, hFp_104, hFp_200, e104, e200, P_ru, P_sy, den_s, den_c, Int.add_zero, List.map_cons, List.map_nil, g2.eq, g3.eq, g5.eq, g6.eq, g7.eq, g8.eq, g9.eq, g10.eq, g11.eq, g13.eq, g14.eq, g15.eq, g16.eq, g17.eq, g18.eq, g19.eq, g20.eq, g21.eq, h3, h4, h5, h6, h7, h8, h11, h12, h13, h14, h15, h16, h17, h18, h19, h20, h21, h26, h27, h28, h35, h36, h37, h38, h39, h40] at f0 f1 f2 f3 f4 f5 f6 f7 f8 f10 f11 f12 f13 ⊢
  subst f1
  subst f2
  subst f3
  subst f4
  subst f5
  subst f6
  subst f8
  omega)
set_option maxRecDepth 1000000 in
theorem k_isSeen {PT : PTy} (hp : HP15 PT) : wfX c_isSeen = true ∧ xcOk PT c_isSeen := xctr (xl (k_runs hp.1.1.1.1.1.1.1.1.1.1) (xl0)) c_isSeen 58 mX7_isSeen rfl h_isSeen (by decide +kernel) (by decide +kernel) (by decide) (vcs_by [w_isSeen_0_0, w_isSeen_0_1] (by decide +kernel) (vc (v_isSeen_0_0 hp) (vc (v_isSeen_0_1 hp) vn))) (fmc (vcs_by [w_isSeen_1_0, w_isSeen_1_1, w_isSeen_1_2, w_isSeen_1_3, w_isSeen_1_4, w_isSeen_1_5, w_isSeen_1_6, w_isSeen_1_7] (by decide +kernel) (vc (v_isSeen_1_0 hp) (vc (v_isSeen_1_1 hp) (vc (v_isSeen_1_2 hp) (vc (v_isSeen_1_3 hp) (vc (v_isSeen_1_4 hp) (vc (v_isSeen_1_5 hp) (vc (v_isSeen_1_6 hp) (vc (v_isSeen_1_7 hp) vn))))))))) fmn)
def c_neverNow : XC := (173, 6, (bY), [.inr (.inl 0)], gY2, [(78, [], [1])], [((bY ++ [((-2147483648), 2147483647), (0, 8), (0, 10), (0, 11), ((-2147483648), 2147483647), ((-2147483648), 2147483647)]), some (.inl (some 13, 0)), (hst gY2 [(0, .inr (.inr (.inr (7, [.inr (.inl 1), .inr (.inl 2), .inl (some 14, 0), .inr (.inl 3), .inr (.inl 4), .inl (some 15, 0), .inr (.inl 5), .inr (.inl 6), .inr (.inl 7), .inr (.inl 8), .inl (some 4, 0), .inr (.inl 9), .inr (.inl 10), .inl (some 5, 0), .inr (.inl 11), .inr (.inl 12), .inr (.inl 13), .inl (some 6, 0), .inr (.inl 14), .inr (.inl 15), .inr (.inl 16), .inl (some 16, 0), .inl (some 4, 0), .inr (.inl 17), .inr (.inl 18), .inl (some 17, 0), .inl (some 18, 0), .inr (.inl 19), .inr (.inl 20), .inr (.inl 21), .inr (.inl 22), .inr (.inl 23), .inr (.inl 24), .inr (.inl 25), .inl (some 7, 0), .inr (.inl 26), .inr (.inl 27), .inr (.inl 28), .inr (.inl 29), .inr (.inl 30), .inr (.inl 31), .inr (.inl 32), .inr (.inl 33), .inr (.inl 34), .inl (some 12, 0)]))))]), [0, 1, 2, 35, 36, 37, 38, 39, 40, 9, 10, 11, 12, 13, 14, 15, 16, 41, 42, 43, 44, 45, 46, 47, 48, 25, 26, 27, 28, 29, 30, 31, 32, 33, 34], 49, [(202, [(some 13, 0), (some 7, 0), (some 14, 0), (some 15, 0), (some 4, 0), (some 5, 0), (some 6, 0)], [1, 2, 35, 36, 37, 38, 39, 40, 41, 42, 9, 10, 11, 12, 13, 14, 15, 16, 26, 27, 28])])])
def h_neverNow : List XH := [(8, (bY ++ [((-2147483648), 2147483647), (0, 8), (0, 8), (0, 10), (0, 11), ((-2147483648), 2147483647), ((-2147483648), 2147483647)]), [some (.inr (.inl 0)), some (.inl (some 13, 0)), some (.inl (some 14, 0))], (hst gY2 [(0, .inr (.inr (.inr (7, [.inr (.inl 1), .inr (.inl 2), .inl (some 15, 0), .inr (.inl 3), .inr (.inl 4), .inl (some 16, 0), .inr (.inl 5), .inr (.inl 6), .inr (.inl 7), .inr (.inl 8), .inl (some 4, 0), .inr (.inl 9), .inr (.inl 10), .inl (some 5, 0), .inr (.inl 11), .inr (.inl 12), .inr (.inl 13), .inl (some 6, 0), .inr (.inl 14), .inr (.inl 15), .inr (.inl 16), .inl (some 17, 0), .inl (some 4, 0), .inr (.inl 17), .inr (.inl 18), .inl (some 18, 0), .inl (some 19, 0), .inr (.inl 19), .inr (.inl 20), .inr (.inl 21), .inr (.inl 22), .inr (.inl 23), .inr (.inl 24), .inr (.inl 25), .inl (some 7, 0), .inr (.inl 26), .inr (.inl 27), .inr (.inl 28), .inr (.inl 29), .inr (.inl 30), .inr (.inl 31), .inr (.inl 32), .inr (.inl 33), .inr (.inl 34), .inl (some 12, 0)]))))]), [0, 1, 2, 35, 36, 37, 38, 39, 40, 9, 10, 11, 12, 13, 14, 15, 16, 41, 42, 43, 44, 45, 46, 47, 48, 25, 26, 27, 28, 29, 30, 31, 32, 33, 34], 49, [(106, [(some 15, 0), (some 16, 0)], [1, 2, 35, 36, 37, 38, 39, 40]), (105, [(some 4, 0)], [9, 10, 41, 42]), (201, [(some 14, 0), (some 13, 0), (some 7, 0), (some 15, 0), (some 16, 0), (some 4, 0), (some 5, 0), (some 6, 0)], [35, 36, 37, 38, 39, 40, 41, 42, 11, 12, 13, 14, 15, 16, 26, 27, 28]), (0, [(some 17, 0), (some 16, 0)], []), (0, [(some 19, 0), (none, 0)], []), (0, [(some 4, 0), (some 4, 0)], []), (3, [(some 4, 0), (some 14, 0)], [])], [(true, (none, 1)), (true, (some 14, 0))])]
def w_neverNow_0_0 : VC := ((bY ++ [(0, 8), (0, 10), (0, 11), ((-2147483648), 2147483647), ((-2147483648), 2147483647)]), [(106, [(some 13, 0), (some 14, 0)], [1, 2, 35, 36, 37, 38, 39, 40]), (105, [(some 4, 0)], [9, 10, 41, 42]), (0, [(some 15, 0), (some 14, 0)], []), (0, [(some 4, 0), (some 4, 0)], []), (0, [(some 16, 0), (none, 0)], []), (0, [(some 17, 0), (none, 0)], []), (78, [], [1])], (201, [(none, 0), (none, 0), (some 7, 0), (some 13, 0), (some 14, 0), (some 4, 0), (some 5, 0), (some 6, 0)], [35, 36, 37, 38, 39, 40, 41, 42, 11, 12, 13, 14, 15, 16, 26, 27, 28]))
theorem pe78_15 {PT : PTy} (hp : HP15 PT) : PT 78 = P_ly := hp.1.1.1.1.1.1.1.1.1.1.1.1.1.2.2.2.2.2.2.2.1
theorem pe105_15 {PT : PTy} (hp : HP15 PT) : PT 105 = P_cp2 := hp.1.1.1.1.1.1.1.1.1.1.2.2.2.2.2.2.2.2.2.2.2.1
theorem pe106_15 {PT : PTy} (hp : HP15 PT) : PT 106 = P_rd := hp.1.1.1.1.1.1.1.1.1.1.2.2.2.2.2.2.2.2.2.2.2.2.1
theorem pe201_15 {PT : PTy} (hp : HP15 PT) : PT 201 = P_nyI := hp.2.2.2.2.2.2.2.2.1
set_option maxRecDepth 20000 in
theorem v_neverNow_0_0 {PT : PTy} (hp : HP15 PT) : vcOk PT w_neverNow_0_0 := vc_iv [(4, 0, 8), (5, 0, 6), (6, 0, 6), (7, 0, 8), (13, 0, 8), (14, 0, 10), (15, 0, 11), (16, (-2147483648), 2147483647), (17, (-2147483648), 2147483647)] [1, 2, 9, 10, 11, 12, 13, 14, 15, 16, 26, 27, 28, 35, 36, 37, 38, 39, 40, 41, 42] (by decide +kernel) (fun ρ α => by
  intro r4 g4 b4 r5 g5 b5 r6 g6 b6 r7 g7 b7 r13 g13 b13 r14 g14 b14 r15 g15 b15 r16 g16 b16 r17 g17 b17 a1 h1 a2 h2 a9 h9 a10 h10 a11 h11 a12 h12 a13 h13 a14 h14 a15 h15 a16 h16 a26 h26 a27 h27 a28 h28 a35 h35 a36 h36 a37 h37 a38 h38 a39 h39 a40 h40 a41 h41 a42 h42 f0 f1 f2 f3 f4 f5 f6 tt
  have e78 : PT 78 = P_ly := pe78_15 hp
  have e105 : PT 105 = P_cp2 := pe105_15 hp
  have e106 : PT 106 = P_rd := pe106_15 hp
  have e201 : PT 201 = P_nyI := pe201_15 hp
  simp only [hF0, hFp_78, hFp_105, hFp_106, hFp_201, e78, e105, e106, e201, P_ly, P_cp2, P_rd, P_nyI, den_s, den_c, Int.add_zero, List.map_cons, List.map_nil, g4.eq, g5.eq, g6.eq, g7.eq, g13.eq, g14.eq, g15.eq, g16.eq, g17.eq, h1, h2, h9, h10, h11, h12, h13, h14, h15, h16, h26, h27, h28, h35, h36, h37, h38, h39, h40, h41, h42] at f0 f1 f2 f3 f4 f5 f6 ⊢
  exact obB_z)
def w_neverNow_0_1 : VC := ((bY ++ [(0, 8), (0, 10), (0, 11), ((-2147483648), 2147483647), ((-2147483648), 2147483647)]), [(106, [(some 13, 0), (some 14, 0)], [1, 2, 35, 36, 37, 38, 39, 40]), (105, [(some 4, 0)], [9, 10, 41, 42]), (0, [(some 15, 0), (some 14, 0)], []), (0, [(some 4, 0), (some 4, 0)], []), (0, [(some 16, 0), (none, 0)], []), (0, [(some 17, 0), (none, 0)], []), (78, [], [1])], (3, [(some 4, 0), (none, 0)], []))
set_option maxRecDepth 20000 in
theorem v_neverNow_0_1 {PT : PTy} (hp : HP15 PT) : vcOk PT w_neverNow_0_1 := vc_iv [(4, 0, 8), (13, 0, 8), (14, 0, 10), (15, 0, 11), (16, (-2147483648), 2147483647), (17, (-2147483648), 2147483647)] [1, 2, 9, 10, 35, 36, 37, 38, 39, 40, 41, 42] (by decide +kernel) (fun ρ α => by
  intro r4 g4 b4 r13 g13 b13 r14 g14 b14 r15 g15 b15 r16 g16 b16 r17 g17 b17 a1 h1 a2 h2 a9 h9 a10 h10 a35 h35 a36 h36 a37 h37 a38 h38 a39 h39 a40 h40 a41 h41 a42 h42 f0 f1 f2 f3 f4 f5 f6 tt
  have e78 : PT 78 = P_ly := pe78_15 hp
  have e105 : PT 105 = P_cp2 := pe105_15 hp
  have e106 : PT 106 = P_rd := pe106_15 hp
  simp only [hF0, hF3, hFp_78, hFp_105, hFp_106, e78, e105, e106, P_ly, P_cp2, P_rd, den_s, den_c, Int.add_zero, List.map_cons, List.map_nil, g4.eq, g13.eq, g14.eq, g15.eq, g16.eq, g17.eq, h1, h2, h9, h10, h35, h36, h37, h38, h39, h40, h41, h42] at f0 f1 f2 f3 f4 f5 f6 ⊢
  omega)
def w_neverNow_1_0 : VC := ((bY ++ [((-2147483648), 2147483647), (0, 8), (0, 8), (0, 10), (0, 11), ((-2147483648), 2147483647), ((-2147483648), 2147483647)]), [(3, [(some 14, 0), (some 4, 0)], []), (106, [(some 15, 0), (some 16, 0)], [1, 2, 35, 36, 37, 38, 39, 40]), (105, [(some 4, 0)], [9, 10, 41, 42]), (201, [(some 14, 0), (some 13, 0), (some 7, 0), (some 15, 0), (some 16, 0), (some 4, 0), (some 5, 0), (some 6, 0)], [35, 36, 37, 38, 39, 40, 41, 42, 11, 12, 13, 14, 15, 16, 26, 27, 28]), (0, [(some 17, 0), (some 16, 0)], []), (0, [(some 19, 0), (none, 0)], []), (0, [(some 4, 0), (some 4, 0)], []), (3, [(some 4, 0), (some 14, 0)], []), (78, [], [1])], (202, [(some 13, 0), (some 7, 0), (some 15, 0), (some 16, 0), (some 4, 0), (some 5, 0), (some 6, 0)], [1, 2, 35, 36, 37, 38, 39, 40, 41, 42, 9, 10, 11, 12, 13, 14, 15, 16, 26, 27, 28]))
theorem pe202_15 {PT : PTy} (hp : HP15 PT) : PT 202 = P_onvY := hp.2.2.2.2.2.2.2.2.2.1
set_option maxRecDepth 20000 in
theorem v_neverNow_1_0 {PT : PTy} (hp : HP15 PT) : vcOk PT w_neverNow_1_0 := vc_iv [(4, 0, 8), (5, 0, 6), (6, 0, 6), (7, 0, 8), (13, (-2147483648), 2147483647), (14, 0, 8), (15, 0, 8), (16, 0, 10), (17, 0, 11), (19, (-2147483648), 2147483647)] [1, 2, 9, 10, 11, 12, 13, 14, 15, 16, 26, 27, 28, 35, 36, 37, 38, 39, 40, 41, 42] (by decide +kernel) (fun ρ α => by
  intro r4 g4 b4 r5 g5 b5 r6 g6 b6 r7 g7 b7 r13 g13 b13 r14 g14 b14 r15 g15 b15 r16 g16 b16 r17 g17 b17 r19 g19 b19 a1 h1 a2 h2 a9 h9 a10 h10 a11 h11 a12 h12 a13 h13 a14 h14 a15 h15 a16 h16 a26 h26 a27 h27 a28 h28 a35 h35 a36 h36 a37 h37 a38 h38 a39 h39 a40 h40 a41 h41 a42 h42 f0 f1 f2 f3 f4 f5 f6 f7 f8 tt
  have e78 : PT 78 = P_ly := pe78_15 hp
  have e105 : PT 105 = P_cp2 := pe105_15 hp
  have e106 : PT 106 = P_rd := pe106_15 hp
  have e201 : PT 201 = P_nyI := pe201_15 hp
  have e202 : PT 202 = P_onvY := pe202_15 hp
  simp only [hF0, hF3, hFp_78, hFp_105, hFp_106, hFp_201, hFp_202, e78, e105, e106, e201, e202, P_ly, P_cp2, P_rd, P_nyI, P_onvY, den_s, den_c, Int.add_zero, List.map_cons, List.map_nil, g4.eq, g5.eq, g6.eq, g7.eq, g13.eq, g14.eq, g15.eq, g16.eq, g17.eq, g19.eq, h1, h2, h9, h10, h11, h12, h13, h14, h15, h16, h26, h27, h28, h35, h36, h37, h38, h39, h40, h41, h42] at f0 f1 f2 f3 f4 f5 f6 f7 f8 ⊢
  have hh := f3
  rw [show r14 = r4 by omega] at hh
  exact ⟨⟨f1, f2⟩, hh⟩)
def w_neverNow_1_1 : VC := (([(0, 23), (0, 49), (0, 8), (0, 10), (1, 8), (0, 6), (0, 6), (0, 8), (0, 11), (0, 9), ((-2147483648), 2147483647), ((-2147483648), 2147483647), (0, 5), ((-2147483648), 2147483647), (0, 7), (0, 8), (0, 10), (0, 11), ((-2147483648), 2147483647), ((-2147483648), 2147483647), (1, 128), (0, 0), ((-2147483648), 2147483647)]), [(11, [(some 22, 0), (some 13, 0), (none, 0)], []), (0, [(some 21, 0), (none, 0)], []), (104, [(none, 24), (some 15, 0), (some 17, 0), (some 16, 0), (some 4, 0), (some 5, 0), (some 6, 0), (some 20, 0), (some 19, 0)], [35, 36, 37, 38, 39, 40, 41, 42, 11, 12, 13, 14, 15, 16, 43, 44, 45, 49, 50, 51, 52, 53, 54]), (200, [(some 21, 0), (some 7, 0), (some 15, 0)], [26, 27, 28, 52]), (13, [(some 20, 0), (none, 1), (some 14, 0)], []), (2, [(some 14, 0), (some 4, 0)], []), (106, [(some 15, 0), (some 16, 0)], [1, 2, 35, 36, 37, 38, 39, 40]), (105, [(some 4, 0)], [9, 10, 41, 42]), (201, [(some 14, 0), (some 13, 0), (some 7, 0), (some 15, 0), (some 16, 0), (some 4, 0), (some 5, 0), (some 6, 0)], [35, 36, 37, 38, 39, 40, 41, 42, 11, 12, 13, 14, 15, 16, 26, 27, 28]), (0, [(some 17, 0), (some 16, 0)], []), (0, [(some 19, 0), (none, 0)], []), (0, [(some 4, 0), (some 4, 0)], []), (3, [(some 4, 0), (some 14, 0)], []), (78, [], [1])], (201, [(some 14, 1), (some 22, 0), (some 7, 0), (some 15, 0), (some 16, 0), (some 4, 0), (some 5, 0), (some 6, 0)], [35, 36, 37, 38, 39, 40, 41, 42, 11, 12, 13, 14, 15, 16, 26, 27, 28]))
set_option maxRecDepth 20000 in
theorem v_neverNow_1_1 {PT : PTy} (hp : HP15 PT) : vcOk PT w_neverNow_1_1 := vc_iv [(4, 1, 8), (5, 0, 6), (6, 0, 6), (7, 0, 8), (13, (-2147483648), 2147483647), (14, 0, 7), (15, 0, 8), (16, 0, 10), (17, 0, 11), (19, (-2147483648), 2147483647), (20, 1, 128), (21, 0, 0), (22, (-2147483648), 2147483647)] [1, 2, 9, 10, 11, 12, 13, 14, 15, 16, 26, 27, 28, 35, 36, 37, 38, 39, 40, 41, 42, 43, 44, 45, 49, 50, 51, 52, 53, 54] (by decide +kernel) (fun ρ α => by
  intro r4 g4 b4 r5 g5 b5 r6 g6 b6 r7 g7 b7 r13 g13 b13 r14 g14 b14 r15 g15 b15 r16 g16 b16 r17 g17 b17 r19 g19 b19 r20 g20 b20 r21 g21 b21 r22 g22 b22 a1 h1 a2 h2 a9 h9 a10 h10 a11 h11 a12 h12 a13 h13 a14 h14 a15 h15 a16 h16 a26 h26 a27 h27 a28 h28 a35 h35 a36 h36 a37 h37 a38 h38 a39 h39 a40 h40 a41 h41 a42 h42 a43 h43 a44 h44 a45 h45 a49 h49 a50 h50 a51 h51 a52 h52 a53 h53 a54 h54 f0 f1 f2 f3 f4 f5 f6 f7 f8 f9 f10 f11 f12 f13 tt
  have e78 : PT 78 = P_ly := pe78_15 hp
  have e104 : PT 104 = P_ru := pe104_15 hp
  have e105 : PT 105 = P_cp2 := pe105_15 hp
  have e106 : PT 106 = P_rd := pe106_15 hp
  have e200 : PT 200 = P_sy := pe200_15 hp
  have e201 : PT 201 = P_nyI := pe201_15 hp
  simp only [hF0, hF2, hF3, hF11, hF13, hFp_78, hFp_104, hFp_105, hFp_106, hFp_200, hFp_201, e78, e104, e105, e106, e200, e201, P_ly, P_ru, P_cp2, P_rd, P_sy, P_nyI, den_s, den_c, Int.add_zero, List.map_cons, List.map_nil, g4.eq, g5.eq, g6.eq, g7.eq, g13.eq, g14.eq, g15.eq, g16.eq, g17.eq, g19.eq, g20.eq, g21.eq, g22.eq, h1, h2, h9, h10, h11, h12, h13, h14, h15, h16, h26, h27, h28, h35, h36, h37, h38, h39, h40, h41, h42, h43, h44, h45, h49, h50, h51, h52, h53, h54] at f0 f1 f2 f3 f4 f5 f6 f7 f8 f9 f10 f11 f12 f13 ⊢
  subst f0
  subst f4
  obtain ⟨h1, h2⟩ := f2
  have e1 : r17 = r16 := by omega
  have e3 : r19 = 0 := by omega
  have e4 : r4 = r4 := by omega
  rw [e1, e3, e4] at h1 h2
  have hs := f3
  first
    | exact obB_s f8 (by omega) ⟨_, _, _, _, _, _, ⟨_, _, _, h1, h2⟩, hs⟩ (by rw [if_pos (by omega)])
    | exact obB_s f8 (by omega) ⟨_, _, _, _, _, _, ⟨_, _, _, h1, h2⟩, hs⟩ (by rw [if_neg (by omega)]; exact mOr_0 (by omega) (by omega)))
def w_neverNow_1_2 : VC := (([(0, 23), (0, 49), (0, 8), (0, 10), (1, 8), (0, 6), (0, 6), (0, 8), (0, 11), (0, 9), ((-2147483648), 2147483647), ((-2147483648), 2147483647), (0, 5), ((-2147483648), 2147483647), (0, 7), (0, 8), (0, 10), (0, 11), ((-2147483648), 2147483647), ((-2147483648), 2147483647), (1, 128), (0, 0), ((-2147483648), 2147483647)]), [(11, [(some 22, 0), (some 13, 0), (none, 0)], []), (0, [(some 21, 0), (none, 0)], []), (104, [(none, 24), (some 15, 0), (some 17, 0), (some 16, 0), (some 4, 0), (some 5, 0), (some 6, 0), (some 20, 0), (some 19, 0)], [35, 36, 37, 38, 39, 40, 41, 42, 11, 12, 13, 14, 15, 16, 43, 44, 45, 49, 50, 51, 52, 53, 54]), (200, [(some 21, 0), (some 7, 0), (some 15, 0)], [26, 27, 28, 52]), (13, [(some 20, 0), (none, 1), (some 14, 0)], []), (2, [(some 14, 0), (some 4, 0)], []), (106, [(some 15, 0), (some 16, 0)], [1, 2, 35, 36, 37, 38, 39, 40]), (105, [(some 4, 0)], [9, 10, 41, 42]), (201, [(some 14, 0), (some 13, 0), (some 7, 0), (some 15, 0), (some 16, 0), (some 4, 0), (some 5, 0), (some 6, 0)], [35, 36, 37, 38, 39, 40, 41, 42, 11, 12, 13, 14, 15, 16, 26, 27, 28]), (0, [(some 17, 0), (some 16, 0)], []), (0, [(some 19, 0), (none, 0)], []), (0, [(some 4, 0), (some 4, 0)], []), (3, [(some 4, 0), (some 14, 0)], []), (78, [], [1])], (3, [(some 4, 0), (some 14, 1)], []))
set_option maxRecDepth 20000 in
theorem v_neverNow_1_2 {PT : PTy} (hp : HP15 PT) : vcOk PT w_neverNow_1_2 := vc_iv [(4, 1, 8), (5, 0, 6), (6, 0, 6), (7, 0, 8), (13, (-2147483648), 2147483647), (14, 0, 7), (15, 0, 8), (16, 0, 10), (17, 0, 11), (19, (-2147483648), 2147483647), (20, 1, 128), (21, 0, 0), (22, (-2147483648), 2147483647)] [1, 2, 9, 10, 11, 12, 13, 14, 15, 16, 26, 27, 28, 35, 36, 37, 38, 39, 40, 41, 42, 43, 44, 45, 49, 50, 51, 52, 53, 54] (by decide +kernel) (fun ρ α => by
  intro r4 g4 b4 r5 g5 b5 r6 g6 b6 r7 g7 b7 r13 g13 b13 r14 g14 b14 r15 g15 b15 r16 g16 b16 r17 g17 b17 r19 g19 b19 r20 g20 b20 r21 g21 b21 r22 g22 b22 a1 h1 a2 h2 a9 h9 a10 h10 a11 h11 a12 h12 a13 h13 a14 h14 a15 h15 a16 h16 a26 h26 a27 h27 a28 h28 a35 h35 a36 h36 a37 h37 a38 h38 a39 h39 a40 h40 a41 h41 a42 h42 a43 h43 a44 h44 a45 h45 a49 h49 a50 h50 a51 h51 a52 h52 a53 h53 a54 h54 f0 f1 f2 f3 f4 f5 f6 f7 f8 f9 f10 f11 f12 f13 tt
  have e78 : PT 78 = P_ly := pe78_15 hp
  have e104 : PT 104 = P_ru := pe104_15 hp
  have e105 : PT 105 = P_cp2 := pe105_15 hp
  have e106 : PT 106 = P_rd := pe106_15 hp
  have e200 : PT 200 = P_sy := pe200_15 hp
  have e201 : PT 201 = P_nyI := pe201_15 hp
  simp only [hF0, hF2, hF3, hF11, hF13, hFp_78, hFp_104, hFp_105, hFp_106, hFp_200, hFp_201, e78, e104, e105, e106, e200, e201, P_ly, P_ru, P_cp2, P_rd, P_sy, P_nyI, den_s, den_c, Int.add_zero, List.map_cons, List.map_nil, g4.eq, g5.eq, g6.eq, g7.eq, g13.eq, g14.eq, g15.eq, g16.eq, g17.eq, g19.eq, g20.eq, g21.eq, g22.eq, h1, h2, h9, h10, h11, h12, h13, h14, h15, h16, h26, h27, h28, h35, h36, h37, h38, h39, h40, h41, h42, h43, h44, h45, h49, h50, h51, h52, h53, h54] at f0 f1 f2 f3 f4 f5 f6 f7 f8 f9 f10 f11 f12 f13 ⊢
  subst f0
  subst f4
  omega)
def w_neverNow_1_3 : VC := (([(0, 23), (0, 49), (0, 8), (0, 10), (1, 8), (0, 6), (0, 6), (0, 8), (0, 11), (0, 9), ((-2147483648), 2147483647), ((-2147483648), 2147483647), (0, 5), ((-2147483648), 2147483647), (0, 7), (0, 8), (0, 10), (0, 11), ((-2147483648), 2147483647), ((-2147483648), 2147483647), (1, 128), (1, 1), (1, 128), ((-2147483648), 2147483647)]), [(11, [(some 23, 0), (some 13, 0), (some 22, 0)], []), (13, [(some 22, 0), (none, 1), (some 14, 0)], []), (1, [(some 21, 0), (none, 0)], []), (104, [(none, 24), (some 15, 0), (some 17, 0), (some 16, 0), (some 4, 0), (some 5, 0), (some 6, 0), (some 20, 0), (some 19, 0)], [35, 36, 37, 38, 39, 40, 41, 42, 11, 12, 13, 14, 15, 16, 43, 44, 45, 49, 50, 51, 52, 53, 54]), (200, [(some 21, 0), (some 7, 0), (some 15, 0)], [26, 27, 28, 52]), (13, [(some 20, 0), (none, 1), (some 14, 0)], []), (2, [(some 14, 0), (some 4, 0)], []), (106, [(some 15, 0), (some 16, 0)], [1, 2, 35, 36, 37, 38, 39, 40]), (105, [(some 4, 0)], [9, 10, 41, 42]), (201, [(some 14, 0), (some 13, 0), (some 7, 0), (some 15, 0), (some 16, 0), (some 4, 0), (some 5, 0), (some 6, 0)], [35, 36, 37, 38, 39, 40, 41, 42, 11, 12, 13, 14, 15, 16, 26, 27, 28]), (0, [(some 17, 0), (some 16, 0)], []), (0, [(some 19, 0), (none, 0)], []), (0, [(some 4, 0), (some 4, 0)], []), (3, [(some 4, 0), (some 14, 0)], []), (78, [], [1])], (201, [(some 14, 1), (some 23, 0), (some 7, 0), (some 15, 0), (some 16, 0), (some 4, 0), (some 5, 0), (some 6, 0)], [35, 36, 37, 38, 39, 40, 41, 42, 11, 12, 13, 14, 15, 16, 26, 27, 28]))
set_option maxRecDepth 20000 in
theorem v_neverNow_1_3 {PT : PTy} (hp : HP15 PT) : vcOk PT w_neverNow_1_3 := vc_iv [(4, 1, 8), (5, 0, 6), (6, 0, 6), (7, 0, 8), (13, (-2147483648), 2147483647), (14, 0, 7), (15, 0, 8), (16, 0, 10), (17, 0, 11), (19, (-2147483648), 2147483647), (20, 1, 128), (21, 1, 1), (22, 1, 128), (23, (-2147483648), 2147483647)] [1, 2, 9, 10, 11, 12, 13, 14, 15, 16, 26, 27, 28, 35, 36, 37, 38, 39, 40, 41, 42, 43, 44, 45, 49, 50, 51, 52, 53, 54] (by decide +kernel) (fun ρ α => by
  intro r4 g4 b4 r5 g5 b5 r6 g6 b6 r7 g7 b7 r13 g13 b13 r14 g14 b14 r15 g15 b15 r16 g16 b16 r17 g17 b17 r19 g19 b19 r20 g20 b20 r21 g21 b21 r22 g22 b22 r23 g23 b23 a1 h1 a2 h2 a9 h9 a10 h10 a11 h11 a12 h12 a13 h13 a14 h14 a15 h15 a16 h16 a26 h26 a27 h27 a28 h28 a35 h35 a36 h36 a37 h37 a38 h38 a39 h39 a40 h40 a41 h41 a42 h42 a43 h43 a44 h44 a45 h45 a49 h49 a50 h50 a51 h51 a52 h52 a53 h53 a54 h54 f0 f1 f2 f3 f4 f5 f6 f7 f8 f9 f10 f11 f12 f13 f14 tt
  clear f2
  have e78 : PT 78 = P_ly := pe78_15 hp
  have e104 : PT 104 = P_ru := pe104_15 hp
  have e105 : PT 105 = P_cp2 := pe105_15 hp
  have e106 : PT 106 = P_rd := pe106_15 hp
  have e200 : PT 200 = P_sy := pe200_15 hp
  have e201 : PT 201 = P_nyI := pe201_15 hp
  simp only [hF0, hF2, hF3, hF11, hF13, hFp_78, hFp_104, hFp_105, hFp_106, hFp_200, hFp_201, e78, e104, e105, e106, e200, e201, P_ly, P_ru, P_cp2, P_rd, P_sy, P_nyI, den_s, den_c, Int.add_zero, List.map_cons, List.map_nil, g4.eq, g5.eq, g6.eq, g7.eq, g13.eq, g14.eq, g15.eq, g16.eq, g17.eq, g19.eq, g20.eq, g21.eq, g22.eq, g23.eq, h1, h2, h9, h10, h11, h12, h13, h14, h15, h16, h26, h27, h28, h35, h36, h37, h38, h39, h40, h41, h42, h43, h44, h45, h49, h50, h51, h52, h53, h54] at f0 f1 f3 f4 f5 f6 f7 f8 f9 f10 f11 f12 f13 f14 ⊢
  subst f0
  subst f1
  subst f5
  obtain ⟨h1, h2⟩ := f3
  have e1 : r17 = r16 := by omega
  have e3 : r19 = 0 := by omega
  have e4 : r4 = r4 := by omega
  rw [e1, e3, e4] at h1 h2
  have hs := f4
  first
    | exact obB_s f9 (by omega) ⟨_, _, _, _, _, _, ⟨_, _, _, h1, h2⟩, hs⟩ (by rw [if_pos (by omega)])
    | exact obB_s f9 (by omega) ⟨_, _, _, _, _, _, ⟨_, _, _, h1, h2⟩, hs⟩ (by rw [if_neg (by omega)]; exact mOr_0 (by omega) (by omega)))
def w_neverNow_1_4 : VC := (([(0, 23), (0, 49), (0, 8), (0, 10), (1, 8), (0, 6), (0, 6), (0, 8), (0, 11), (0, 9), ((-2147483648), 2147483647), ((-2147483648), 2147483647), (0, 5), ((-2147483648), 2147483647), (0, 7), (0, 8), (0, 10), (0, 11), ((-2147483648), 2147483647), ((-2147483648), 2147483647), (1, 128), (1, 1), (1, 128), ((-2147483648), 2147483647)]), [(11, [(some 23, 0), (some 13, 0), (some 22, 0)], []), (13, [(some 22, 0), (none, 1), (some 14, 0)], []), (1, [(some 21, 0), (none, 0)], []), (104, [(none, 24), (some 15, 0), (some 17, 0), (some 16, 0), (some 4, 0), (some 5, 0), (some 6, 0), (some 20, 0), (some 19, 0)], [35, 36, 37, 38, 39, 40, 41, 42, 11, 12, 13, 14, 15, 16, 43, 44, 45, 49, 50, 51, 52, 53, 54]), (200, [(some 21, 0), (some 7, 0), (some 15, 0)], [26, 27, 28, 52]), (13, [(some 20, 0), (none, 1), (some 14, 0)], []), (2, [(some 14, 0), (some 4, 0)], []), (106, [(some 15, 0), (some 16, 0)], [1, 2, 35, 36, 37, 38, 39, 40]), (105, [(some 4, 0)], [9, 10, 41, 42]), (201, [(some 14, 0), (some 13, 0), (some 7, 0), (some 15, 0), (some 16, 0), (some 4, 0), (some 5, 0), (some 6, 0)], [35, 36, 37, 38, 39, 40, 41, 42, 11, 12, 13, 14, 15, 16, 26, 27, 28]), (0, [(some 17, 0), (some 16, 0)], []), (0, [(some 19, 0), (none, 0)], []), (0, [(some 4, 0), (some 4, 0)], []), (3, [(some 4, 0), (some 14, 0)], []), (78, [], [1])], (3, [(some 4, 0), (some 14, 1)], []))
set_option maxRecDepth 20000 in
theorem v_neverNow_1_4 {PT : PTy} (hp : HP15 PT) : vcOk PT w_neverNow_1_4 := vc_iv [(4, 1, 8), (5, 0, 6), (6, 0, 6), (7, 0, 8), (13, (-2147483648), 2147483647), (14, 0, 7), (15, 0, 8), (16, 0, 10), (17, 0, 11), (19, (-2147483648), 2147483647), (20, 1, 128), (21, 1, 1), (22, 1, 128), (23, (-2147483648), 2147483647)] [1, 2, 9, 10, 11, 12, 13, 14, 15, 16, 26, 27, 28, 35, 36, 37, 38, 39, 40, 41, 42, 43, 44, 45, 49, 50, 51, 52, 53, 54] (by decide +kernel) (fun ρ α => by
  intro r4 g4 b4 r5 g5 b5 r6 g6 b6 r7 g7 b7 r13 g13 b13 r14 g14 b14 r15 g15 b15 r16 g16 b16 r17 g17 b17 r19 g19 b19 r20 g20 b20 r21 g21 b21 r22 g22 b22 r23 g23 b23 a1 h1 a2 h2 a9 h9 a10 h10 a11 h11 a12 h12 a13 h13 a14 h14 a15 h15 a16 h16 a26 h26 a27 h27 a28 h28 a35 h35 a36 h36 a37 h37 a38 h38 a39 h39 a40 h40 a41 h41 a42 h42 a43 h43 a44 h44 a45 h45 a49 h49 a50 h50 a51 h51 a52 h52 a53 h53 a54 h54 f0 f1 f2 f3 f4 f5 f6 f7 f8 f9 f10 f11 f12 f13 f14 tt
  clear f2
  have e78 : PT 78 = P_ly := pe78_15 hp
  have e104 : PT 104 = P_ru := pe104_15 hp
  have e105 : PT 105 = P_cp2 := pe105_15 hp
  have e106 : PT 106 = P_rd := pe106_15 hp
  have e200 : PT 200 = P_sy := pe200_15 hp
  have e201 : PT 201 = P_nyI := pe201_15 hp
  simp only [hF0, hF2, hF3, hF11, hF13, hFp_78, hFp_104, hFp_105, hFp_106, hFp_200, hFp_201, e78, e104, e105, e106, e200, e201, P_ly, P_ru, P_cp2, P_rd, P_sy, P_nyI, den_s, den_c, Int.add_zero, List.map_cons, List.map_nil, g4.eq, g5.eq, g6.eq, g7.eq, g13.eq, g14.eq, g15.eq, g16.eq, g17.eq, g19.eq, g20.eq, g21.eq, g22.eq, g23.eq, h1, h2, h9, h10, h11, h12, h13, h14, h15, h16, h26, h27, h28, h35, h36, h37, h38, h39, h40, h41, h42, h43, h44, h45, h49, h50, h51, h52, h53, h54] at f0 f1 f3 f4 f5 f6 f7 f8 f9 f10 f11 f12 f13 f14 ⊢
  subst f0
  subst f1
  subst f5
  omega)
set_option maxRecDepth 1000000 in
theorem k_neverNow {PT : PTy} (hp : HP15 PT) : wfX c_neverNow = true ∧ xcOk PT c_neverNow := xctr (xl (k_asTold hp.1.1.1.1.1.1.1.1.1.1) (xl (k_isSeen hp) (xl0))) c_neverNow 42 mX7_neverNow rfl h_neverNow (by decide +kernel) (by decide +kernel) (by decide) (vcs_by [w_neverNow_0_0, w_neverNow_0_1] (by decide +kernel) (vc (v_neverNow_0_0 hp) (vc (v_neverNow_0_1 hp) vn))) (fmc (vcs_by [w_neverNow_1_0, w_neverNow_1_1, w_neverNow_1_2, w_neverNow_1_3, w_neverNow_1_4] (by decide +kernel) (vc (v_neverNow_1_0 hp) (vc (v_neverNow_1_1 hp) (vc (v_neverNow_1_2 hp) (vc (v_neverNow_1_3 hp) (vc (v_neverNow_1_4 hp) vn)))))) fmn)
def c_yo_never : XC := (174, 7, (bY), [.inr (.inl 0)], gY2, [(78, [], [1])], [((bY ++ [((-2147483648), 2147483647), (0, 8), (0, 10), (0, 11), ((-2147483648), 2147483647), ((-2147483648), 2147483647)]), some (.inl (some 13, 0)), (hst gY2 [(0, .inr (.inr (.inr (7, [.inr (.inl 1), .inr (.inl 2), .inl (some 14, 0), .inr (.inl 3), .inr (.inl 4), .inl (some 15, 0), .inr (.inl 5), .inr (.inl 6), .inr (.inl 7), .inr (.inl 8), .inl (some 4, 0), .inr (.inl 9), .inr (.inl 10), .inl (some 5, 0), .inr (.inl 11), .inr (.inl 12), .inr (.inl 13), .inl (some 6, 0), .inr (.inl 14), .inr (.inl 15), .inr (.inl 16), .inl (some 16, 0), .inl (some 4, 0), .inr (.inl 17), .inr (.inl 18), .inl (some 17, 0), .inl (some 18, 0), .inr (.inl 19), .inr (.inl 20), .inr (.inl 21), .inr (.inl 22), .inr (.inl 23), .inr (.inl 24), .inr (.inl 25), .inl (some 7, 0), .inr (.inl 26), .inr (.inl 27), .inr (.inl 28), .inr (.inl 29), .inr (.inl 30), .inr (.inl 31), .inr (.inl 32), .inr (.inl 33), .inr (.inl 34), .inl (some 12, 0)]))))]), [0, 1, 2, 35, 36, 37, 38, 39, 40, 9, 10, 11, 12, 13, 14, 15, 16, 41, 42, 43, 44, 45, 46, 47, 48, 25, 26, 27, 28, 29, 30, 31, 32, 33, 34], 49, [(202, [(some 13, 0), (some 7, 0), (some 14, 0), (some 15, 0), (some 4, 0), (some 5, 0), (some 6, 0)], [1, 2, 35, 36, 37, 38, 39, 40, 41, 42, 9, 10, 11, 12, 13, 14, 15, 16, 26, 27, 28])])])
def h_yo_never : List XH := []
set_option maxRecDepth 1000000 in
theorem k_yo_never {PT : PTy} (hp : HP15 PT) : wfX c_yo_never = true ∧ xcOk PT c_yo_never := xctr (xl (k_neverNow hp) (xl0)) c_yo_never 23 mX7_never rfl h_yo_never (by decide +kernel) (by decide +kernel) (by decide) (vcs_by [] (by decide +kernel) vn) fmn
