/-! ===== plans; printed by wip/gen/x ===== -/
def P_sbX (l : List Int) (a : List (Int → Int)) : Prop := match l, a with
  | [r, d, ns, n], [sd, sw, sm, C] => (r = 1 ∧ ∀ j, 0 ≤ j → j < ns → sd j = d → okS n C sw sm j) ∨ (r = 0 ∧ ∃ j, 0 ≤ j ∧ j < ns ∧ sd j = d ∧ ¬ okS n C sw sm j)
  | _, _ => False
theorem hFp_194 {PT : PTy} {ρ : Nat → Int} {α : Nat → Int → Int} (l : List AN) (a : List Nat) : hF PT ρ α (194, l, a) = PT 194 (l.map (den ρ)) (a.map α) := rfl
def P_sbI (l : List Int) (a : List (Int → Int)) : Prop := match l, a with
  | [i, d, n], [sd, sw, sm, C] => ∀ j, 0 ≤ j → j < i → sd j = d → okS n C sw sm j
  | _, _ => False
theorem hFp_195 {PT : PTy} {ρ : Nat → Int} {α : Nat → Int → Int} (l : List AN) (a : List Nat) : hF PT ρ α (195, l, a) = PT 195 (l.map (den ρ)) (a.map α) := rfl
def P_saI (l : List Int) (a : List (Int → Int)) : Prop := match l, a with
  | [d, ns, n, m, nk, nl, nt, u, h], [so, sz, wh, gr, md, du, kd, ko, ld, lw, lm, td, tw, tm, sd, sw, sm] => ∀ j, 0 ≤ j → j < ns → 0 ≤ sd j → sd j < d → shX1 n m nk nl nt u h so sz wh gr md du kd ko ld lw lm td tw tm sd sw sm j
  | _, _ => False
theorem hFp_196 {PT : PTy} {ρ : Nat → Int} {α : Nat → Int → Int} (l : List AN) (a : List Nat) : hF PT ρ α (196, l, a) = PT 196 (l.map (den ρ)) (a.map α) := rfl
def P_saX (l : List Int) (a : List (Int → Int)) : Prop := match l, a with
  | [r, ns, n, m, nk, nl, nt, u, h], [so, sz, wh, gr, md, du, kd, ko, ld, lw, lm, td, tw, tm, sd, sw, sm] => shQ ns n m nk nl nt u h so sz wh gr md du kd ko ld lw lm td tw tm sd sw sm r
  | _, _ => False
theorem hFp_197 {PT : PTy} {ρ : Nat → Int} {α : Nat → Int → Int} (l : List AN) (a : List Nat) : hF PT ρ α (197, l, a) = PT 197 (l.map (den ρ)) (a.map α) := rfl
def P_nvI (l : List Int) (a : List (Int → Int)) : Prop := match l, a with
  | [i, b, ns, n, m, nk, nl, nt], [so, sz, wh, gr, md, du, kd, ko, ld, lw, lm, td, tw, tm, sd, sw, sm] => obB (fun j v => shQ ns n m nk nl nt (mShl 1 j) 0 so sz wh gr md du kd ko ld lw lm td tw tm sd sw sm v) i b
  | _, _ => False
theorem hFp_198 {PT : PTy} {ρ : Nat → Int} {α : Nat → Int → Int} (l : List AN) (a : List Nat) : hF PT ρ α (198, l, a) = PT 198 (l.map (den ρ)) (a.map α) := rfl
def P_onvX (l : List Int) (a : List (Int → Int)) : Prop := match l, a with
  | [r, ns, n, m, nk, nl, nt], [so, sz, wh, gr, md, du, kd, ko, ld, lw, lm, td, tw, tm, sd, sw, sm] => obB (fun j v => shQ ns n m nk nl nt (mShl 1 j) 0 so sz wh gr md du kd ko ld lw lm td tw tm sd sw sm v) nk r
  | _, _ => False
theorem hFp_199 {PT : PTy} {ρ : Nat → Int} {α : Nat → Int → Int} (l : List AN) (a : List Nat) : hF PT ρ α (199, l, a) = PT 199 (l.map (den ρ)) (a.map α) := rfl
def P_sy (l : List Int) (a : List (Int → Int)) : Prop := match l, a with
  | [r, ns, n], [sd, sw, sm, CA] => shT ns n CA sd sw sm r
  | _, _ => False
theorem hFp_200 {PT : PTy} {ρ : Nat → Int} {α : Nat → Int → Int} (l : List AN) (a : List Nat) : hF PT ρ α (200, l, a) = PT 200 (l.map (den ρ)) (a.map α) := rfl
def P_nyI (l : List Int) (a : List (Int → Int)) : Prop := match l, a with
  | [i, b, ns, n, m, nk, nl, nt], [so, sz, wh, gr, md, du, KD, KO, ld, lw, lm, td, tw, tm, sd, sw, sm] => obB (fun j v => shYQ ns n m nk nl nt (mShl 1 j) 0 so sz wh gr md du KD KO ld lw lm td tw tm sd sw sm v) i b
  | _, _ => False
theorem hFp_201 {PT : PTy} {ρ : Nat → Int} {α : Nat → Int → Int} (l : List AN) (a : List Nat) : hF PT ρ α (201, l, a) = PT 201 (l.map (den ρ)) (a.map α) := rfl
def P_onvY (l : List Int) (a : List (Int → Int)) : Prop := match l, a with
  | [r, ns, n, m, nk, nl, nt], [L, T, so, sz, wh, gr, md, du, KD, KO, kd, ko, ld, lw, lm, td, tw, tm, sd, sw, sm] => toY n m nk L T so sz wh gr md du KD KO kd ko ∧ obB (fun j v => shYQ ns n m nk nl nt (mShl 1 j) 0 so sz wh gr md du KD KO ld lw lm td tw tm sd sw sm v) nk r
  | _, _ => False
theorem hFp_202 {PT : PTy} {ρ : Nat → Int} {α : Nat → Int → Int} (l : List AN) (a : List Nat) : hF PT ρ α (202, l, a) = PT 202 (l.map (den ρ)) (a.map α) := rfl
def HP15 (PT : PTy) : Prop := HP14 PT ∧ (PT 194 = P_sbX ∧ PT 195 = P_sbI ∧ PT 196 = P_saI ∧ PT 197 = P_saX ∧ PT 198 = P_nvI ∧ PT 199 = P_onvX ∧ PT 200 = P_sy ∧ PT 201 = P_nyI ∧ PT 202 = P_onvY ∧ True)
def c_showsBehind : XC := (16, 1, (bX ++ [(0, 23)]), [.inr (.inl 5), .inl (some 14, 0), .inr (.inl 31)], (gX 14), [], [((bX ++ [(0, 23), (0, 1)]), some (.inl (some 15, 0)), (gX 14), (List.range 58), 58, [(194, [(some 15, 0), (some 14, 0), (some 7, 0), (some 2, 0)], [32, 33, 34, 28])])])
def h_showsBehind : List XH := [(2, (bX ++ [(0, 23), (0, 8)]), [some (.inr (.inl 5)), some (.inl (some 14, 0)), some (.inr (.inl 31)), some (.inl (some 15, 0)), none], (gX 14), (List.range 58), 58, [(195, [(some 15, 0), (some 14, 0), (some 2, 0)], [32, 33, 34, 28]), (3, [(some 7, 0), (some 15, 0)], [])], [(true, (none, 1)), (true, (some 15, 0))])]
def w_showsBehind_0_0 : VC := ((bX ++ [(0, 23)]), [], (195, [(none, 0), (some 14, 0), (some 2, 0)], [32, 33, 34, 28]))
set_option maxRecDepth 20000 in
theorem v_showsBehind_0_0 {PT : PTy} (hp : HP15 PT) : vcOk PT w_showsBehind_0_0 := vc_of (fun ρ α hB hF => by
  have e195 : PT 195 = P_sbI := hp.2.2.1
  simp only [hFp_195, e195, P_sbI, den_s, den_c, Int.add_zero, List.map_cons, List.map_nil] at ⊢
  have b2 : (0 : Int) ≤ ρ 2 ∧ ρ 2 ≤ 8 := hB 2 (0, 8) rfl
  have b14 : (0 : Int) ≤ ρ 14 ∧ ρ 14 ≤ 23 := hB 14 (0, 23) rfl
  clear hB
  generalize ρ 2 = r2, ρ 14 = r14, α 28 = a28, α 32 = a32, α 33 = a33, α 34 = a34 at *
  first
    | omega
    | (intro j h1 h2; exfalso; omega))
def w_showsBehind_0_1 : VC := ((bX ++ [(0, 23)]), [], (3, [(some 7, 0), (none, 0)], []))
set_option maxRecDepth 20000 in
theorem v_showsBehind_0_1 {PT : PTy} (hp : HP15 PT) : vcOk PT w_showsBehind_0_1 := vc_of (fun ρ α hB hF => by
  simp only [hF3, den_s, den_c, Int.add_zero, List.map_cons, List.map_nil] at ⊢
  have b7 : (0 : Int) ≤ ρ 7 ∧ ρ 7 ≤ 8 := hB 7 (0, 8) rfl
  clear hB
  generalize ρ 7 = r7 at *
  first
    | omega
    | (intro j h1 h2; exfalso; omega))
def w_showsBehind_1_0 : VC := ((bX ++ [(0, 23), (0, 8)]), [(3, [(some 15, 0), (some 7, 0)], []), (195, [(some 15, 0), (some 14, 0), (some 2, 0)], [32, 33, 34, 28]), (3, [(some 7, 0), (some 15, 0)], [])], (194, [(none, 1), (some 14, 0), (some 7, 0), (some 2, 0)], [32, 33, 34, 28]))
set_option maxRecDepth 20000 in
theorem v_showsBehind_1_0 {PT : PTy} (hp : HP15 PT) : vcOk PT w_showsBehind_1_0 := vc_of (fun ρ α hB hF => by
  obtain ⟨f0, f1, f2, -⟩ := hF
  have e194 : PT 194 = P_sbX := hp.2.1
  have e195 : PT 195 = P_sbI := hp.2.2.1
  simp only [hF3, hFp_194, hFp_195, e194, e195, P_sbX, P_sbI, den_s, den_c, Int.add_zero, List.map_cons, List.map_nil] at f0 f1 f2 ⊢
  have b2 : (0 : Int) ≤ ρ 2 ∧ ρ 2 ≤ 8 := hB 2 (0, 8) rfl
  have b7 : (0 : Int) ≤ ρ 7 ∧ ρ 7 ≤ 8 := hB 7 (0, 8) rfl
  have b14 : (0 : Int) ≤ ρ 14 ∧ ρ 14 ≤ 23 := hB 14 (0, 23) rfl
  have b15 : (0 : Int) ≤ ρ 15 ∧ ρ 15 ≤ 8 := hB 15 (0, 8) rfl
  clear hB
  generalize ρ 2 = r2, ρ 7 = r7, ρ 14 = r14, ρ 15 = r15, α 28 = a28, α 32 = a32, α 33 = a33, α 34 = a34 at *
  first
    | exact Or.inl ⟨by first | rfl | trivial, fun j h1 h2 hd => f1 j h1 (by omega) hd⟩
    | exact Or.inr ⟨by first | rfl | trivial, r15, by omega, by omega, by omega, fun h => by unfold okS at h; omega⟩)
def w_showsBehind_1_1 : VC := (([(0, 23), (0, 49), (0, 8), (0, 11), (0, 9), (0, 6), (0, 6), (1, 8), (0, 9), (0, 49), (0, 49), ((-2147483648), 2147483647), ((-2147483648), 2147483647), (0, 5), (0, 23), (0, 7), (0, 7), (0, 23)]), [(1, [(some 17, 0), (some 14, 0)], []), (20, [(some 17, 0), (some 15, 0)], [32]), (20, [(some 16, 0), (some 15, 0)], [33]), (2, [(some 15, 0), (some 7, 0)], []), (195, [(some 15, 0), (some 14, 0), (some 2, 0)], [32, 33, 34, 28]), (3, [(some 7, 0), (some 15, 0)], [])], (195, [(some 15, 1), (some 14, 0), (some 2, 0)], [32, 33, 34, 28]))
set_option maxRecDepth 20000 in
theorem v_showsBehind_1_1 {PT : PTy} (hp : HP15 PT) : vcOk PT w_showsBehind_1_1 := vc_of (fun ρ α hB hF => by
  obtain ⟨f0, f1, f2, f3, f4, f5, -⟩ := hF
  have e195 : PT 195 = P_sbI := hp.2.2.1
  simp only [hF1, hF2, hF3, hF20, hFp_195, e195, P_sbI, den_s, den_c, Int.add_zero, List.map_cons, List.map_nil] at f0 f1 f2 f3 f4 f5 ⊢
  have b2 : (0 : Int) ≤ ρ 2 ∧ ρ 2 ≤ 8 := hB 2 (0, 8) rfl
  have b7 : (1 : Int) ≤ ρ 7 ∧ ρ 7 ≤ 8 := hB 7 (1, 8) rfl
  have b14 : (0 : Int) ≤ ρ 14 ∧ ρ 14 ≤ 23 := hB 14 (0, 23) rfl
  have b15 : (0 : Int) ≤ ρ 15 ∧ ρ 15 ≤ 7 := hB 15 (0, 7) rfl
  have b16 : (0 : Int) ≤ ρ 16 ∧ ρ 16 ≤ 7 := hB 16 (0, 7) rfl
  have b17 : (0 : Int) ≤ ρ 17 ∧ ρ 17 ≤ 23 := hB 17 (0, 23) rfl
  clear hB
  generalize ρ 2 = r2, ρ 7 = r7, ρ 14 = r14, ρ 15 = r15, ρ 16 = r16, ρ 17 = r17, α 28 = a28, α 32 = a32, α 33 = a33, α 34 = a34 at *
  subst f1
  subst f2
  intro j h1 h2 hd
  by_cases q : j = r15
  · subst q
    unfold okS
    first
      | (exfalso; omega)
      | exact ⟨by omega, by omega, by omega⟩
  · exact f4 j h1 (by omega) hd)
def w_showsBehind_1_2 : VC := (([(0, 23), (0, 49), (0, 8), (0, 11), (0, 9), (0, 6), (0, 6), (1, 8), (0, 9), (0, 49), (0, 49), ((-2147483648), 2147483647), ((-2147483648), 2147483647), (0, 5), (0, 23), (0, 7), (0, 7), (0, 23)]), [(1, [(some 17, 0), (some 14, 0)], []), (20, [(some 17, 0), (some 15, 0)], [32]), (20, [(some 16, 0), (some 15, 0)], [33]), (2, [(some 15, 0), (some 7, 0)], []), (195, [(some 15, 0), (some 14, 0), (some 2, 0)], [32, 33, 34, 28]), (3, [(some 7, 0), (some 15, 0)], [])], (3, [(some 7, 0), (some 15, 1)], []))
set_option maxRecDepth 20000 in
theorem v_showsBehind_1_2 {PT : PTy} (hp : HP15 PT) : vcOk PT w_showsBehind_1_2 := vc_of (fun ρ α hB hF => by
  obtain ⟨f0, f1, f2, f3, f4, f5, -⟩ := hF
  have e195 : PT 195 = P_sbI := hp.2.2.1
  simp only [hF1, hF2, hF3, hF20, hFp_195, e195, P_sbI, den_s, den_c, Int.add_zero, List.map_cons, List.map_nil] at f0 f1 f2 f3 f4 f5 ⊢
  have b2 : (0 : Int) ≤ ρ 2 ∧ ρ 2 ≤ 8 := hB 2 (0, 8) rfl
  have b7 : (1 : Int) ≤ ρ 7 ∧ ρ 7 ≤ 8 := hB 7 (1, 8) rfl
  have b14 : (0 : Int) ≤ ρ 14 ∧ ρ 14 ≤ 23 := hB 14 (0, 23) rfl
  have b15 : (0 : Int) ≤ ρ 15 ∧ ρ 15 ≤ 7 := hB 15 (0, 7) rfl
  have b16 : (0 : Int) ≤ ρ 16 ∧ ρ 16 ≤ 7 := hB 16 (0, 7) rfl
  have b17 : (0 : Int) ≤ ρ 17 ∧ ρ 17 ≤ 23 := hB 17 (0, 23) rfl
  clear hB
  generalize ρ 2 = r2, ρ 7 = r7, ρ 14 = r14, ρ 15 = r15, ρ 16 = r16, ρ 17 = r17, α 28 = a28, α 32 = a32, α 33 = a33, α 34 = a34 at *
  subst f1
  subst f2
  omega)
def w_showsBehind_1_3 : VC := (([(0, 23), (0, 49), (0, 7), (0, 11), (0, 9), (0, 6), (0, 6), (1, 8), (0, 9), (0, 49), (0, 49), ((-2147483648), 2147483647), ((-2147483648), 2147483647), (0, 5), (0, 23), (0, 7), (0, 7), (0, 23)]), [(0, [(none, 0), (none, 0)], []), (3, [(some 16, 0), (some 2, 0)], []), (3, [(some 16, 0), (none, 0)], []), (0, [(some 17, 0), (some 14, 0)], []), (20, [(some 17, 0), (some 15, 0)], [32]), (20, [(some 16, 0), (some 15, 0)], [33]), (2, [(some 15, 0), (some 7, 0)], []), (195, [(some 15, 0), (some 14, 0), (some 2, 0)], [32, 33, 34, 28]), (3, [(some 7, 0), (some 15, 0)], [])], (194, [(none, 0), (some 14, 0), (some 7, 0), (some 2, 0)], [32, 33, 34, 28]))
set_option maxRecDepth 20000 in
theorem v_showsBehind_1_3 {PT : PTy} (hp : HP15 PT) : vcOk PT w_showsBehind_1_3 := vc_of (fun ρ α hB hF => by
  obtain ⟨-, f1, -, f3, f4, f5, f6, f7, f8, -⟩ := hF
  have e194 : PT 194 = P_sbX := hp.2.1
  have e195 : PT 195 = P_sbI := hp.2.2.1
  simp only [hF0, hF2, hF3, hF20, hFp_194, hFp_195, e194, e195, P_sbX, P_sbI, den_s, den_c, Int.add_zero, List.map_cons, List.map_nil] at f1 f3 f4 f5 f6 f7 f8 ⊢
  have b2 : (0 : Int) ≤ ρ 2 ∧ ρ 2 ≤ 7 := hB 2 (0, 7) rfl
  have b7 : (1 : Int) ≤ ρ 7 ∧ ρ 7 ≤ 8 := hB 7 (1, 8) rfl
  have b14 : (0 : Int) ≤ ρ 14 ∧ ρ 14 ≤ 23 := hB 14 (0, 23) rfl
  have b15 : (0 : Int) ≤ ρ 15 ∧ ρ 15 ≤ 7 := hB 15 (0, 7) rfl
  have b16 : (0 : Int) ≤ ρ 16 ∧ ρ 16 ≤ 7 := hB 16 (0, 7) rfl
  have b17 : (0 : Int) ≤ ρ 17 ∧ ρ 17 ≤ 23 := hB 17 (0, 23) rfl
  clear hB
  generalize ρ 2 = r2, ρ 7 = r7, ρ 14 = r14, ρ 15 = r15, ρ 16 = r16, ρ 17 = r17, α 28 = a28, α 32 = a32, α 33 = a33, α 34 = a34 at *
  subst f4
  subst f5
  first
    | exact Or.inl ⟨by first | rfl | trivial, fun j h1 h2 hd => f7 j h1 (by omega) hd⟩
    | exact Or.inr ⟨by first | rfl | trivial, r15, by omega, by omega, by omega, fun h => by unfold okS at h; omega⟩)
def w_showsBehind_1_4 : VC := (([(0, 23), (0, 49), (1, 8), (0, 11), (0, 9), (0, 6), (0, 6), (1, 8), (0, 9), (0, 49), (0, 49), ((-2147483648), 2147483647), ((-2147483648), 2147483647), (0, 5), (0, 23), (0, 7), (0, 7), (0, 23), (0, 99), (0, 99)]), [(0, [(some 18, 0), (some 19, 0)], []), (20, [(some 19, 0), (some 15, 0)], [34]), (20, [(some 18, 0), (some 16, 0)], [28]), (1, [(none, 1), (none, 0)], []), (2, [(some 16, 0), (some 2, 0)], []), (3, [(some 16, 0), (none, 0)], []), (0, [(some 17, 0), (some 14, 0)], []), (20, [(some 17, 0), (some 15, 0)], [32]), (20, [(some 16, 0), (some 15, 0)], [33]), (2, [(some 15, 0), (some 7, 0)], []), (195, [(some 15, 0), (some 14, 0), (some 2, 0)], [32, 33, 34, 28]), (3, [(some 7, 0), (some 15, 0)], [])], (195, [(some 15, 1), (some 14, 0), (some 2, 0)], [32, 33, 34, 28]))
set_option maxRecDepth 20000 in
theorem v_showsBehind_1_4 {PT : PTy} (hp : HP15 PT) : vcOk PT w_showsBehind_1_4 := vc_of (fun ρ α hB hF => by
  obtain ⟨f0, f1, f2, -, f4, -, f6, f7, f8, f9, f10, f11, -⟩ := hF
  have e195 : PT 195 = P_sbI := hp.2.2.1
  simp only [hF0, hF2, hF3, hF20, hFp_195, e195, P_sbI, den_s, den_c, Int.add_zero, List.map_cons, List.map_nil] at f0 f1 f2 f4 f6 f7 f8 f9 f10 f11 ⊢
  have b2 : (1 : Int) ≤ ρ 2 ∧ ρ 2 ≤ 8 := hB 2 (1, 8) rfl
  have b7 : (1 : Int) ≤ ρ 7 ∧ ρ 7 ≤ 8 := hB 7 (1, 8) rfl
  have b14 : (0 : Int) ≤ ρ 14 ∧ ρ 14 ≤ 23 := hB 14 (0, 23) rfl
  have b15 : (0 : Int) ≤ ρ 15 ∧ ρ 15 ≤ 7 := hB 15 (0, 7) rfl
  have b16 : (0 : Int) ≤ ρ 16 ∧ ρ 16 ≤ 7 := hB 16 (0, 7) rfl
  have b17 : (0 : Int) ≤ ρ 17 ∧ ρ 17 ≤ 23 := hB 17 (0, 23) rfl
  have b18 : (0 : Int) ≤ ρ 18 ∧ ρ 18 ≤ 99 := hB 18 (0, 99) rfl
  have b19 : (0 : Int) ≤ ρ 19 ∧ ρ 19 ≤ 99 := hB 19 (0, 99) rfl
  clear hB
  generalize ρ 2 = r2, ρ 7 = r7, ρ 14 = r14, ρ 15 = r15, ρ 16 = r16, ρ 17 = r17, ρ 18 = r18, ρ 19 = r19, α 28 = a28, α 32 = a32, α 33 = a33, α 34 = a34 at *
  subst f1
  subst f2
  subst f7
  subst f8
  intro j h1 h2 hd
  by_cases q : j = r15
  · subst q
    unfold okS
    first
      | (exfalso; omega)
      | exact ⟨by omega, by omega, by omega⟩
  · exact f10 j h1 (by omega) hd)
def w_showsBehind_1_5 : VC := (([(0, 23), (0, 49), (1, 8), (0, 11), (0, 9), (0, 6), (0, 6), (1, 8), (0, 9), (0, 49), (0, 49), ((-2147483648), 2147483647), ((-2147483648), 2147483647), (0, 5), (0, 23), (0, 7), (0, 7), (0, 23), (0, 99), (0, 99)]), [(0, [(some 18, 0), (some 19, 0)], []), (20, [(some 19, 0), (some 15, 0)], [34]), (20, [(some 18, 0), (some 16, 0)], [28]), (1, [(none, 1), (none, 0)], []), (2, [(some 16, 0), (some 2, 0)], []), (3, [(some 16, 0), (none, 0)], []), (0, [(some 17, 0), (some 14, 0)], []), (20, [(some 17, 0), (some 15, 0)], [32]), (20, [(some 16, 0), (some 15, 0)], [33]), (2, [(some 15, 0), (some 7, 0)], []), (195, [(some 15, 0), (some 14, 0), (some 2, 0)], [32, 33, 34, 28]), (3, [(some 7, 0), (some 15, 0)], [])], (3, [(some 7, 0), (some 15, 1)], []))
set_option maxRecDepth 20000 in
theorem v_showsBehind_1_5 {PT : PTy} (hp : HP15 PT) : vcOk PT w_showsBehind_1_5 := vc_of (fun ρ α hB hF => by
  obtain ⟨f0, f1, f2, -, f4, -, f6, f7, f8, f9, f10, f11, -⟩ := hF
  have e195 : PT 195 = P_sbI := hp.2.2.1
  simp only [hF0, hF2, hF3, hF20, hFp_195, e195, P_sbI, den_s, den_c, Int.add_zero, List.map_cons, List.map_nil] at f0 f1 f2 f4 f6 f7 f8 f9 f10 f11 ⊢
  have b2 : (1 : Int) ≤ ρ 2 ∧ ρ 2 ≤ 8 := hB 2 (1, 8) rfl
  have b7 : (1 : Int) ≤ ρ 7 ∧ ρ 7 ≤ 8 := hB 7 (1, 8) rfl
  have b14 : (0 : Int) ≤ ρ 14 ∧ ρ 14 ≤ 23 := hB 14 (0, 23) rfl
  have b15 : (0 : Int) ≤ ρ 15 ∧ ρ 15 ≤ 7 := hB 15 (0, 7) rfl
  have b16 : (0 : Int) ≤ ρ 16 ∧ ρ 16 ≤ 7 := hB 16 (0, 7) rfl
  have b17 : (0 : Int) ≤ ρ 17 ∧ ρ 17 ≤ 23 := hB 17 (0, 23) rfl
  have b18 : (0 : Int) ≤ ρ 18 ∧ ρ 18 ≤ 99 := hB 18 (0, 99) rfl
  have b19 : (0 : Int) ≤ ρ 19 ∧ ρ 19 ≤ 99 := hB 19 (0, 99) rfl
  clear hB
  generalize ρ 2 = r2, ρ 7 = r7, ρ 14 = r14, ρ 15 = r15, ρ 16 = r16, ρ 17 = r17, ρ 18 = r18, ρ 19 = r19, α 28 = a28, α 32 = a32, α 33 = a33, α 34 = a34 at *
  subst f1
  subst f2
  subst f7
  subst f8
  omega)
def w_showsBehind_1_6 : VC := (([(0, 23), (0, 49), (1, 8), (0, 11), (0, 9), (0, 6), (0, 6), (1, 8), (0, 9), (0, 49), (0, 49), ((-2147483648), 2147483647), ((-2147483648), 2147483647), (0, 5), (0, 23), (0, 7), (0, 7), (0, 23), (0, 99), (0, 99)]), [(1, [(some 18, 0), (some 19, 0)], []), (20, [(some 19, 0), (some 15, 0)], [34]), (20, [(some 18, 0), (some 16, 0)], [28]), (1, [(none, 1), (none, 0)], []), (2, [(some 16, 0), (some 2, 0)], []), (3, [(some 16, 0), (none, 0)], []), (0, [(some 17, 0), (some 14, 0)], []), (20, [(some 17, 0), (some 15, 0)], [32]), (20, [(some 16, 0), (some 15, 0)], [33]), (2, [(some 15, 0), (some 7, 0)], []), (195, [(some 15, 0), (some 14, 0), (some 2, 0)], [32, 33, 34, 28]), (3, [(some 7, 0), (some 15, 0)], [])], (194, [(none, 0), (some 14, 0), (some 7, 0), (some 2, 0)], [32, 33, 34, 28]))
set_option maxRecDepth 20000 in
theorem v_showsBehind_1_6 {PT : PTy} (hp : HP15 PT) : vcOk PT w_showsBehind_1_6 := vc_of (fun ρ α hB hF => by
  obtain ⟨f0, f1, f2, -, f4, -, f6, f7, f8, f9, f10, f11, -⟩ := hF
  have e194 : PT 194 = P_sbX := hp.2.1
  have e195 : PT 195 = P_sbI := hp.2.2.1
  simp only [hF0, hF1, hF2, hF3, hF20, hFp_194, hFp_195, e194, e195, P_sbX, P_sbI, den_s, den_c, Int.add_zero, List.map_cons, List.map_nil] at f0 f1 f2 f4 f6 f7 f8 f9 f10 f11 ⊢
  have b2 : (1 : Int) ≤ ρ 2 ∧ ρ 2 ≤ 8 := hB 2 (1, 8) rfl
  have b7 : (1 : Int) ≤ ρ 7 ∧ ρ 7 ≤ 8 := hB 7 (1, 8) rfl
  have b14 : (0 : Int) ≤ ρ 14 ∧ ρ 14 ≤ 23 := hB 14 (0, 23) rfl
  have b15 : (0 : Int) ≤ ρ 15 ∧ ρ 15 ≤ 7 := hB 15 (0, 7) rfl
  have b16 : (0 : Int) ≤ ρ 16 ∧ ρ 16 ≤ 7 := hB 16 (0, 7) rfl
  have b17 : (0 : Int) ≤ ρ 17 ∧ ρ 17 ≤ 23 := hB 17 (0, 23) rfl
  have b18 : (0 : Int) ≤ ρ 18 ∧ ρ 18 ≤ 99 := hB 18 (0, 99) rfl
  have b19 : (0 : Int) ≤ ρ 19 ∧ ρ 19 ≤ 99 := hB 19 (0, 99) rfl
  clear hB
  generalize ρ 2 = r2, ρ 7 = r7, ρ 14 = r14, ρ 15 = r15, ρ 16 = r16, ρ 17 = r17, ρ 18 = r18, ρ 19 = r19, α 28 = a28, α 32 = a32, α 33 = a33, α 34 = a34 at *
  subst f1
  subst f2
  subst f7
  subst f8
  first
    | exact Or.inl ⟨by first | rfl | trivial, fun j h1 h2 hd => f10 j h1 (by omega) hd⟩
    | exact Or.inr ⟨by first | rfl | trivial, r15, by omega, by omega, by omega, fun h => by unfold okS at h; omega⟩)
set_option maxRecDepth 1000000 in
theorem k_showsBehind {PT : PTy} (hp : HP15 PT) : wfX c_showsBehind = true ∧ xcOk PT c_showsBehind := xctr (xl0) c_showsBehind 61 mX0_showsBehind rfl h_showsBehind (by decide +kernel) (by decide +kernel) (by decide) (vcs_by [w_showsBehind_0_0, w_showsBehind_0_1] (by decide +kernel) (vc (v_showsBehind_0_0 hp) (vc (v_showsBehind_0_1 hp) vn))) (fmc (vcs_by [w_showsBehind_1_0, w_showsBehind_1_1, w_showsBehind_1_2, w_showsBehind_1_3, w_showsBehind_1_4, w_showsBehind_1_5, w_showsBehind_1_6] (by decide +kernel) (vc (v_showsBehind_1_0 hp) (vc (v_showsBehind_1_1 hp) (vc (v_showsBehind_1_2 hp) (vc (v_showsBehind_1_3 hp) (vc (v_showsBehind_1_4 hp) (vc (v_showsBehind_1_5 hp) (vc (v_showsBehind_1_6 hp) vn)))))))) fmn)
def c_showsAll : XC := (15, 3, (bX), [.inr (.inl 5), .inr (.inl 31)], (gX 14), [(150, [(some 9, 0), (some 2, 0), (some 3, 0), (some 4, 0), (some 5, 0), (some 6, 0)], [26, 27, 7, 8, 10, 11, 12, 13, 15, 16, 19, 20, 21, 23, 24, 25])], [((bX ++ [(0, 1), (0, 49)]), some (.inl (some 14, 0)), (hst (gX 14) [(5, .inr (.inr (.inr (0, [.inr (.inl 6), .inr (.inl 9), .inr (.inl 14), .inr (.inl 18), .inr (.inl 22), .inr (.inl 26), .inr (.inl 27), .inr (.inl 28), .inr (.inl 29), .inr (.inl 30), .inl (some 9, 0), .inl (some 15, 0), .inl (some 11, 0), .inl (some 12, 0), .inr (.inl 14)]))))]), (ansT 58 [(28, 58), (29, 59), (30, 60)]), 61, [(197, [(some 14, 0), (some 7, 0), (some 2, 0), (some 3, 0), (some 4, 0), (some 5, 0), (some 6, 0), (some 11, 0), (some 12, 0)], [7, 8, 10, 11, 12, 13, 15, 16, 19, 20, 21, 23, 24, 25, 32, 33, 34])])])
def h_showsAll : List XH := [(6, (bX ++ [(0, 24), (0, 49)]), [some (.inr (.inl 5)), some (.inr (.inl 31)), some (.inl (some 14, 0))], (hst (gX 14) [(5, .inr (.inr (.inr (0, [.inr (.inl 6), .inr (.inl 9), .inr (.inl 14), .inr (.inl 18), .inr (.inl 22), .inr (.inl 26), .inr (.inl 27), .inr (.inl 28), .inr (.inl 29), .inr (.inl 30), .inl (some 9, 0), .inl (some 15, 0), .inl (some 11, 0), .inl (some 12, 0), .inr (.inl 14)]))))]), (ansT 58 [(28, 58), (29, 59), (30, 60)]), 61, [(149, [(some 15, 0), (some 14, 0), (some 2, 0), (some 3, 0), (some 4, 0), (some 5, 0), (some 6, 0), (some 11, 0), (some 12, 0)], [7, 8, 10, 11, 12, 13, 15, 16, 19, 20, 21, 23, 24, 25, 26, 58, 59, 60]), (196, [(some 14, 0), (some 7, 0), (some 2, 0), (some 3, 0), (some 4, 0), (some 5, 0), (some 6, 0), (some 11, 0), (some 12, 0)], [7, 8, 10, 11, 12, 13, 15, 16, 19, 20, 21, 23, 24, 25, 32, 33, 34]), (3, [(none, 24), (some 14, 0)], [])], [(true, (none, 1)), (true, (some 14, 0))])]
def w_showsAll_0_0 : VC := ((bX), [(89, [], [8, 58, 59, 60]), (150, [(some 9, 0), (some 2, 0), (some 3, 0), (some 4, 0), (some 5, 0), (some 6, 0)], [26, 27, 7, 8, 10, 11, 12, 13, 15, 16, 19, 20, 21, 23, 24, 25])], (149, [(none, 0), (none, 0), (some 2, 0), (some 3, 0), (some 4, 0), (some 5, 0), (some 6, 0), (some 11, 0), (some 12, 0)], [7, 8, 10, 11, 12, 13, 15, 16, 19, 20, 21, 23, 24, 25, 26, 58, 59, 60]))
set_option maxRecDepth 20000 in
theorem v_showsAll_0_0 {PT : PTy} (hp : HP15 PT) : vcOk PT w_showsAll_0_0 := vc_of (fun ρ α hB hF => by
  obtain ⟨f0, f1, -⟩ := hF
  have e89 : PT 89 = P_bg := hp.1.1.1.1.1.1.1.1.1.1.1.1.2.2.2.2.2.2.2.2.2.2.1
  have e149 : PT 149 = P_yi := hp.1.1.1.1.2.2.2.1
  have e150 : PT 150 = P_ar2 := hp.1.1.1.1.2.2.2.2.1
  simp only [hFp_89, hFp_149, hFp_150, e89, e149, e150, P_bg, P_yi, P_ar2, den_s, den_c, Int.add_zero, List.map_cons, List.map_nil] at f0 f1 ⊢
  have b2 : (0 : Int) ≤ ρ 2 ∧ ρ 2 ≤ 8 := hB 2 (0, 8) rfl
  have b3 : (0 : Int) ≤ ρ 3 ∧ ρ 3 ≤ 11 := hB 3 (0, 11) rfl
  have b4 : (0 : Int) ≤ ρ 4 ∧ ρ 4 ≤ 9 := hB 4 (0, 9) rfl
  have b5 : (0 : Int) ≤ ρ 5 ∧ ρ 5 ≤ 6 := hB 5 (0, 6) rfl
  have b6 : (0 : Int) ≤ ρ 6 ∧ ρ 6 ≤ 6 := hB 6 (0, 6) rfl
  have b9 : (0 : Int) ≤ ρ 9 ∧ ρ 9 ≤ 49 := hB 9 (0, 49) rfl
  have b11 : ((-2147483648) : Int) ≤ ρ 11 ∧ ρ 11 ≤ 2147483647 := hB 11 ((-2147483648), 2147483647) rfl
  have b12 : ((-2147483648) : Int) ≤ ρ 12 ∧ ρ 12 ≤ 2147483647 := hB 12 ((-2147483648), 2147483647) rfl
  exact yI_z f0)
def w_showsAll_0_1 : VC := ((bX), [(89, [], [8, 58, 59, 60]), (150, [(some 9, 0), (some 2, 0), (some 3, 0), (some 4, 0), (some 5, 0), (some 6, 0)], [26, 27, 7, 8, 10, 11, 12, 13, 15, 16, 19, 20, 21, 23, 24, 25])], (196, [(none, 0), (some 7, 0), (some 2, 0), (some 3, 0), (some 4, 0), (some 5, 0), (some 6, 0), (some 11, 0), (some 12, 0)], [7, 8, 10, 11, 12, 13, 15, 16, 19, 20, 21, 23, 24, 25, 32, 33, 34]))
set_option maxRecDepth 20000 in
theorem v_showsAll_0_1 {PT : PTy} (hp : HP15 PT) : vcOk PT w_showsAll_0_1 := vc_of (fun ρ α hB hF => by
  obtain ⟨f0, f1, -⟩ := hF
  have e89 : PT 89 = P_bg := hp.1.1.1.1.1.1.1.1.1.1.1.1.2.2.2.2.2.2.2.2.2.2.1
  have e150 : PT 150 = P_ar2 := hp.1.1.1.1.2.2.2.2.1
  have e196 : PT 196 = P_saI := hp.2.2.2.1
  simp only [hFp_89, hFp_150, hFp_196, e89, e150, e196, P_bg, P_ar2, P_saI, den_s, den_c, Int.add_zero, List.map_cons, List.map_nil] at f0 f1 ⊢
  have b2 : (0 : Int) ≤ ρ 2 ∧ ρ 2 ≤ 8 := hB 2 (0, 8) rfl
  have b3 : (0 : Int) ≤ ρ 3 ∧ ρ 3 ≤ 11 := hB 3 (0, 11) rfl
  have b4 : (0 : Int) ≤ ρ 4 ∧ ρ 4 ≤ 9 := hB 4 (0, 9) rfl
  have b5 : (0 : Int) ≤ ρ 5 ∧ ρ 5 ≤ 6 := hB 5 (0, 6) rfl
  have b6 : (0 : Int) ≤ ρ 6 ∧ ρ 6 ≤ 6 := hB 6 (0, 6) rfl
  have b7 : (0 : Int) ≤ ρ 7 ∧ ρ 7 ≤ 8 := hB 7 (0, 8) rfl
  have b9 : (0 : Int) ≤ ρ 9 ∧ ρ 9 ≤ 49 := hB 9 (0, 49) rfl
  have b11 : ((-2147483648) : Int) ≤ ρ 11 ∧ ρ 11 ≤ 2147483647 := hB 11 ((-2147483648), 2147483647) rfl
  have b12 : ((-2147483648) : Int) ≤ ρ 12 ∧ ρ 12 ≤ 2147483647 := hB 12 ((-2147483648), 2147483647) rfl
  exact fun j h1 h2 h3 h4 => by omega)
def w_showsAll_0_2 : VC := ((bX), [(89, [], [8, 58, 59, 60]), (150, [(some 9, 0), (some 2, 0), (some 3, 0), (some 4, 0), (some 5, 0), (some 6, 0)], [26, 27, 7, 8, 10, 11, 12, 13, 15, 16, 19, 20, 21, 23, 24, 25])], (3, [(none, 24), (none, 0)], []))
theorem v_showsAll_0_2 {PT : PTy} (_ : HP15 PT) : vcOk PT w_showsAll_0_2 := vc_of (fun ρ α _ _ => by simp only [hF3, den_c] <;> omega)
def w_showsAll_1_0 : VC := ((bX ++ [(24, 24), (0, 49)]), [(3, [(some 14, 0), (none, 24)], []), (149, [(some 15, 0), (some 14, 0), (some 2, 0), (some 3, 0), (some 4, 0), (some 5, 0), (some 6, 0), (some 11, 0), (some 12, 0)], [7, 8, 10, 11, 12, 13, 15, 16, 19, 20, 21, 23, 24, 25, 26, 58, 59, 60]), (196, [(some 14, 0), (some 7, 0), (some 2, 0), (some 3, 0), (some 4, 0), (some 5, 0), (some 6, 0), (some 11, 0), (some 12, 0)], [7, 8, 10, 11, 12, 13, 15, 16, 19, 20, 21, 23, 24, 25, 32, 33, 34]), (3, [(none, 24), (some 14, 0)], []), (150, [(some 9, 0), (some 2, 0), (some 3, 0), (some 4, 0), (some 5, 0), (some 6, 0)], [26, 27, 7, 8, 10, 11, 12, 13, 15, 16, 19, 20, 21, 23, 24, 25])], (197, [(none, 1), (some 7, 0), (some 2, 0), (some 3, 0), (some 4, 0), (some 5, 0), (some 6, 0), (some 11, 0), (some 12, 0)], [7, 8, 10, 11, 12, 13, 15, 16, 19, 20, 21, 23, 24, 25, 32, 33, 34]))
set_option maxRecDepth 20000 in
theorem v_showsAll_1_0 {PT : PTy} (hp : HP15 PT) : vcOk PT w_showsAll_1_0 := vc_of (fun ρ α hB hF => by
  obtain ⟨-, f1, f2, -, f4, -⟩ := hF
  have e149 : PT 149 = P_yi := hp.1.1.1.1.2.2.2.1
  have e150 : PT 150 = P_ar2 := hp.1.1.1.1.2.2.2.2.1
  have e196 : PT 196 = P_saI := hp.2.2.2.1
  have e197 : PT 197 = P_saX := hp.2.2.2.2.1
  simp only [hFp_149, hFp_150, hFp_196, hFp_197, e149, e150, e196, e197, P_yi, P_ar2, P_saI, P_saX, den_s, den_c, Int.add_zero, List.map_cons, List.map_nil] at f1 f2 f4 ⊢
  have b2 : (0 : Int) ≤ ρ 2 ∧ ρ 2 ≤ 8 := hB 2 (0, 8) rfl
  have b3 : (0 : Int) ≤ ρ 3 ∧ ρ 3 ≤ 11 := hB 3 (0, 11) rfl
  have b4 : (0 : Int) ≤ ρ 4 ∧ ρ 4 ≤ 9 := hB 4 (0, 9) rfl
  have b5 : (0 : Int) ≤ ρ 5 ∧ ρ 5 ≤ 6 := hB 5 (0, 6) rfl
  have b6 : (0 : Int) ≤ ρ 6 ∧ ρ 6 ≤ 6 := hB 6 (0, 6) rfl
  have b7 : (0 : Int) ≤ ρ 7 ∧ ρ 7 ≤ 8 := hB 7 (0, 8) rfl
  have b9 : (0 : Int) ≤ ρ 9 ∧ ρ 9 ≤ 49 := hB 9 (0, 49) rfl
  have b11 : ((-2147483648) : Int) ≤ ρ 11 ∧ ρ 11 ≤ 2147483647 := hB 11 ((-2147483648), 2147483647) rfl
  have b12 : ((-2147483648) : Int) ≤ ρ 12 ∧ ρ 12 ≤ 2147483647 := hB 12 ((-2147483648), 2147483647) rfl
  have b14 : (24 : Int) ≤ ρ 14 ∧ ρ 14 ≤ 24 := hB 14 (24, 24) rfl
  have b15 : (0 : Int) ≤ ρ 15 ∧ ρ 15 ≤ 49 := hB 15 (0, 49) rfl
  clear hB
  generalize ρ 2 = r2, ρ 3 = r3, ρ 4 = r4, ρ 5 = r5, ρ 6 = r6, ρ 7 = r7, ρ 9 = r9, ρ 11 = r11, ρ 12 = r12, ρ 14 = r14, ρ 15 = r15, α 7 = a7, α 8 = a8, α 10 = a10, α 11 = a11, α 12 = a12, α 13 = a13, α 15 = a15, α 16 = a16, α 19 = a19, α 20 = a20, α 21 = a21, α 23 = a23, α 24 = a24, α 25 = a25, α 26 = a26, α 27 = a27, α 32 = a32, α 33 = a33, α 34 = a34, α 58 = a58, α 59 = a59, α 60 = a60 at *
  exact Or.inl ⟨by first | rfl | trivial, fun j h1 h2 h3 h4 => f2 j h1 h2 h3 (by omega)⟩)
def w_showsAll_1_1 : VC := ((bX ++ [(0, 23), (0, 49)]), [(2, [(some 14, 0), (none, 24)], []), (149, [(some 15, 0), (some 14, 0), (some 2, 0), (some 3, 0), (some 4, 0), (some 5, 0), (some 6, 0), (some 11, 0), (some 12, 0)], [7, 8, 10, 11, 12, 13, 15, 16, 19, 20, 21, 23, 24, 25, 26, 58, 59, 60]), (196, [(some 14, 0), (some 7, 0), (some 2, 0), (some 3, 0), (some 4, 0), (some 5, 0), (some 6, 0), (some 11, 0), (some 12, 0)], [7, 8, 10, 11, 12, 13, 15, 16, 19, 20, 21, 23, 24, 25, 32, 33, 34]), (3, [(none, 24), (some 14, 0)], []), (150, [(some 9, 0), (some 2, 0), (some 3, 0), (some 4, 0), (some 5, 0), (some 6, 0)], [26, 27, 7, 8, 10, 11, 12, 13, 15, 16, 19, 20, 21, 23, 24, 25])], (87, [(some 9, 0)], [26, 27]))
set_option maxRecDepth 20000 in
theorem v_showsAll_1_1 {PT : PTy} (hp : HP15 PT) : vcOk PT w_showsAll_1_1 := vc_of (fun ρ α hB hF => by
  obtain ⟨-, f1, f2, -, f4, -⟩ := hF
  have e87 : PT 87 = P_pr := hp.1.1.1.1.1.1.1.1.1.1.1.1.2.2.2.2.2.2.2.2.1
  have e149 : PT 149 = P_yi := hp.1.1.1.1.2.2.2.1
  have e150 : PT 150 = P_ar2 := hp.1.1.1.1.2.2.2.2.1
  have e196 : PT 196 = P_saI := hp.2.2.2.1
  simp only [hFp_87, hFp_149, hFp_150, hFp_196, e87, e149, e150, e196, P_pr, P_yi, P_ar2, P_saI, den_s, den_c, Int.add_zero, List.map_cons, List.map_nil] at f1 f2 f4 ⊢
  have b2 : (0 : Int) ≤ ρ 2 ∧ ρ 2 ≤ 8 := hB 2 (0, 8) rfl
  have b3 : (0 : Int) ≤ ρ 3 ∧ ρ 3 ≤ 11 := hB 3 (0, 11) rfl
  have b4 : (0 : Int) ≤ ρ 4 ∧ ρ 4 ≤ 9 := hB 4 (0, 9) rfl
  have b5 : (0 : Int) ≤ ρ 5 ∧ ρ 5 ≤ 6 := hB 5 (0, 6) rfl
  have b6 : (0 : Int) ≤ ρ 6 ∧ ρ 6 ≤ 6 := hB 6 (0, 6) rfl
  have b7 : (0 : Int) ≤ ρ 7 ∧ ρ 7 ≤ 8 := hB 7 (0, 8) rfl
  have b9 : (0 : Int) ≤ ρ 9 ∧ ρ 9 ≤ 49 := hB 9 (0, 49) rfl
  have b11 : ((-2147483648) : Int) ≤ ρ 11 ∧ ρ 11 ≤ 2147483647 := hB 11 ((-2147483648), 2147483647) rfl
  have b12 : ((-2147483648) : Int) ≤ ρ 12 ∧ ρ 12 ≤ 2147483647 := hB 12 ((-2147483648), 2147483647) rfl
  have b14 : (0 : Int) ≤ ρ 14 ∧ ρ 14 ≤ 23 := hB 14 (0, 23) rfl
  have b15 : (0 : Int) ≤ ρ 15 ∧ ρ 15 ≤ 49 := hB 15 (0, 49) rfl
  exact (f4).1)
def w_showsAll_1_2 : VC := ((bX ++ [(0, 23), (0, 49), (0, 49), (1, 1)]), [(1, [(some 17, 0), (none, 0)], []), (194, [(some 17, 0), (some 14, 0), (some 7, 0), (some 2, 0)], [32, 33, 34, 61]), (91, [(some 15, 0), (some 16, 0), (some 9, 0), (some 14, 0), (some 11, 0), (some 12, 0)], [26, 27, 7, 8, 10, 11, 16, 20, 21, 24, 25, 58, 59, 60, 61, 62, 63]), (2, [(some 14, 0), (none, 24)], []), (149, [(some 15, 0), (some 14, 0), (some 2, 0), (some 3, 0), (some 4, 0), (some 5, 0), (some 6, 0), (some 11, 0), (some 12, 0)], [7, 8, 10, 11, 12, 13, 15, 16, 19, 20, 21, 23, 24, 25, 26, 58, 59, 60]), (196, [(some 14, 0), (some 7, 0), (some 2, 0), (some 3, 0), (some 4, 0), (some 5, 0), (some 6, 0), (some 11, 0), (some 12, 0)], [7, 8, 10, 11, 12, 13, 15, 16, 19, 20, 21, 23, 24, 25, 32, 33, 34]), (3, [(none, 24), (some 14, 0)], []), (150, [(some 9, 0), (some 2, 0), (some 3, 0), (some 4, 0), (some 5, 0), (some 6, 0)], [26, 27, 7, 8, 10, 11, 12, 13, 15, 16, 19, 20, 21, 23, 24, 25])], (149, [(some 16, 0), (some 14, 1), (some 2, 0), (some 3, 0), (some 4, 0), (some 5, 0), (some 6, 0), (some 11, 0), (some 12, 0)], [7, 8, 10, 11, 12, 13, 15, 16, 19, 20, 21, 23, 24, 25, 26, 61, 62, 63]))
set_option maxRecDepth 20000 in
theorem v_showsAll_1_2 {PT : PTy} (hp : HP15 PT) : vcOk PT w_showsAll_1_2 := vc_of (fun ρ α hB hF => by
  obtain ⟨-, f1, f2, -, f4, f5, -, f7, -⟩ := hF
  have e91 : PT 91 = P_adE := hp.1.1.1.1.1.1.1.1.1.1.1.1.2.2.2.2.2.2.2.2.2.2.2.2.1
  have e149 : PT 149 = P_yi := hp.1.1.1.1.2.2.2.1
  have e150 : PT 150 = P_ar2 := hp.1.1.1.1.2.2.2.2.1
  have e194 : PT 194 = P_sbX := hp.2.1
  have e196 : PT 196 = P_saI := hp.2.2.2.1
  simp only [hFp_91, hFp_149, hFp_150, hFp_194, hFp_196, e91, e149, e150, e194, e196, P_adE, P_yi, P_ar2, P_sbX, P_saI, den_s, den_c, Int.add_zero, List.map_cons, List.map_nil] at f1 f2 f4 f5 f7 ⊢
  have b2 : (0 : Int) ≤ ρ 2 ∧ ρ 2 ≤ 8 := hB 2 (0, 8) rfl
  have b3 : (0 : Int) ≤ ρ 3 ∧ ρ 3 ≤ 11 := hB 3 (0, 11) rfl
  have b4 : (0 : Int) ≤ ρ 4 ∧ ρ 4 ≤ 9 := hB 4 (0, 9) rfl
  have b5 : (0 : Int) ≤ ρ 5 ∧ ρ 5 ≤ 6 := hB 5 (0, 6) rfl
  have b6 : (0 : Int) ≤ ρ 6 ∧ ρ 6 ≤ 6 := hB 6 (0, 6) rfl
  have b7 : (0 : Int) ≤ ρ 7 ∧ ρ 7 ≤ 8 := hB 7 (0, 8) rfl
  have b9 : (0 : Int) ≤ ρ 9 ∧ ρ 9 ≤ 49 := hB 9 (0, 49) rfl
  have b11 : ((-2147483648) : Int) ≤ ρ 11 ∧ ρ 11 ≤ 2147483647 := hB 11 ((-2147483648), 2147483647) rfl
  have b12 : ((-2147483648) : Int) ≤ ρ 12 ∧ ρ 12 ≤ 2147483647 := hB 12 ((-2147483648), 2147483647) rfl
  have b14 : (0 : Int) ≤ ρ 14 ∧ ρ 14 ≤ 23 := hB 14 (0, 23) rfl
  have b15 : (0 : Int) ≤ ρ 15 ∧ ρ 15 ≤ 49 := hB 15 (0, 49) rfl
  have b16 : (0 : Int) ≤ ρ 16 ∧ ρ 16 ≤ 49 := hB 16 (0, 49) rfl
  have b17 : (1 : Int) ≤ ρ 17 ∧ ρ 17 ≤ 1 := hB 17 (1, 1) rfl
  exact yI_s (f7).2 f4 (by omega) (f2).1)
def w_showsAll_1_3 : VC := ((bX ++ [(0, 23), (0, 49), (0, 49), (1, 1)]), [(1, [(some 17, 0), (none, 0)], []), (194, [(some 17, 0), (some 14, 0), (some 7, 0), (some 2, 0)], [32, 33, 34, 61]), (91, [(some 15, 0), (some 16, 0), (some 9, 0), (some 14, 0), (some 11, 0), (some 12, 0)], [26, 27, 7, 8, 10, 11, 16, 20, 21, 24, 25, 58, 59, 60, 61, 62, 63]), (2, [(some 14, 0), (none, 24)], []), (149, [(some 15, 0), (some 14, 0), (some 2, 0), (some 3, 0), (some 4, 0), (some 5, 0), (some 6, 0), (some 11, 0), (some 12, 0)], [7, 8, 10, 11, 12, 13, 15, 16, 19, 20, 21, 23, 24, 25, 26, 58, 59, 60]), (196, [(some 14, 0), (some 7, 0), (some 2, 0), (some 3, 0), (some 4, 0), (some 5, 0), (some 6, 0), (some 11, 0), (some 12, 0)], [7, 8, 10, 11, 12, 13, 15, 16, 19, 20, 21, 23, 24, 25, 32, 33, 34]), (3, [(none, 24), (some 14, 0)], []), (150, [(some 9, 0), (some 2, 0), (some 3, 0), (some 4, 0), (some 5, 0), (some 6, 0)], [26, 27, 7, 8, 10, 11, 12, 13, 15, 16, 19, 20, 21, 23, 24, 25])], (196, [(some 14, 1), (some 7, 0), (some 2, 0), (some 3, 0), (some 4, 0), (some 5, 0), (some 6, 0), (some 11, 0), (some 12, 0)], [7, 8, 10, 11, 12, 13, 15, 16, 19, 20, 21, 23, 24, 25, 32, 33, 34]))
set_option maxRecDepth 20000 in
theorem v_showsAll_1_3 {PT : PTy} (hp : HP15 PT) : vcOk PT w_showsAll_1_3 := vc_of (fun ρ α hB hF => by
  obtain ⟨-, f1, f2, -, f4, f5, -, f7, -⟩ := hF
  have e91 : PT 91 = P_adE := hp.1.1.1.1.1.1.1.1.1.1.1.1.2.2.2.2.2.2.2.2.2.2.2.2.1
  have e149 : PT 149 = P_yi := hp.1.1.1.1.2.2.2.1
  have e150 : PT 150 = P_ar2 := hp.1.1.1.1.2.2.2.2.1
  have e194 : PT 194 = P_sbX := hp.2.1
  have e196 : PT 196 = P_saI := hp.2.2.2.1
  simp only [hFp_91, hFp_149, hFp_150, hFp_194, hFp_196, e91, e149, e150, e194, e196, P_adE, P_yi, P_ar2, P_sbX, P_saI, den_s, den_c, Int.add_zero, List.map_cons, List.map_nil] at f1 f2 f4 f5 f7 ⊢
  have b2 : (0 : Int) ≤ ρ 2 ∧ ρ 2 ≤ 8 := hB 2 (0, 8) rfl
  have b3 : (0 : Int) ≤ ρ 3 ∧ ρ 3 ≤ 11 := hB 3 (0, 11) rfl
  have b4 : (0 : Int) ≤ ρ 4 ∧ ρ 4 ≤ 9 := hB 4 (0, 9) rfl
  have b5 : (0 : Int) ≤ ρ 5 ∧ ρ 5 ≤ 6 := hB 5 (0, 6) rfl
  have b6 : (0 : Int) ≤ ρ 6 ∧ ρ 6 ≤ 6 := hB 6 (0, 6) rfl
  have b7 : (0 : Int) ≤ ρ 7 ∧ ρ 7 ≤ 8 := hB 7 (0, 8) rfl
  have b9 : (0 : Int) ≤ ρ 9 ∧ ρ 9 ≤ 49 := hB 9 (0, 49) rfl
  have b11 : ((-2147483648) : Int) ≤ ρ 11 ∧ ρ 11 ≤ 2147483647 := hB 11 ((-2147483648), 2147483647) rfl
  have b12 : ((-2147483648) : Int) ≤ ρ 12 ∧ ρ 12 ≤ 2147483647 := hB 12 ((-2147483648), 2147483647) rfl
  have b14 : (0 : Int) ≤ ρ 14 ∧ ρ 14 ≤ 23 := hB 14 (0, 23) rfl
  have b15 : (0 : Int) ≤ ρ 15 ∧ ρ 15 ≤ 49 := hB 15 (0, 49) rfl
  have b16 : (0 : Int) ≤ ρ 16 ∧ ρ 16 ≤ 49 := hB 16 (0, 49) rfl
  have b17 : (1 : Int) ≤ ρ 17 ∧ ρ 17 ≤ 1 := hB 17 (1, 1) rfl
  clear hB
  generalize ρ 2 = r2, ρ 3 = r3, ρ 4 = r4, ρ 5 = r5, ρ 6 = r6, ρ 7 = r7, ρ 9 = r9, ρ 11 = r11, ρ 12 = r12, ρ 14 = r14, ρ 15 = r15, ρ 16 = r16, ρ 17 = r17, α 7 = a7, α 8 = a8, α 10 = a10, α 11 = a11, α 12 = a12, α 13 = a13, α 15 = a15, α 16 = a16, α 19 = a19, α 20 = a20, α 21 = a21, α 23 = a23, α 24 = a24, α 25 = a25, α 26 = a26, α 27 = a27, α 32 = a32, α 33 = a33, α 34 = a34, α 58 = a58, α 59 = a59, α 60 = a60, α 61 = a61, α 62 = a62, α 63 = a63 at *
  have hy := yI_e (f7).2 (yI_s (f7).2 f4 (by omega) (f2).1) (f2).2
  have hs := f1
  intro j h1 h2 h3 h4
  rcases hs with ⟨q0, q⟩ | ⟨q0, q⟩
  · by_cases e : a32 j = r14
    · exact ⟨_, _, _, by rw [e]; exact hy, q j h1 h2 e⟩
    · exact f5 j h1 h2 h3 (by omega)
  · exfalso; omega)
def w_showsAll_1_4 : VC := ((bX ++ [(0, 23), (0, 49), (0, 49), (1, 1)]), [(1, [(some 17, 0), (none, 0)], []), (194, [(some 17, 0), (some 14, 0), (some 7, 0), (some 2, 0)], [32, 33, 34, 61]), (91, [(some 15, 0), (some 16, 0), (some 9, 0), (some 14, 0), (some 11, 0), (some 12, 0)], [26, 27, 7, 8, 10, 11, 16, 20, 21, 24, 25, 58, 59, 60, 61, 62, 63]), (2, [(some 14, 0), (none, 24)], []), (149, [(some 15, 0), (some 14, 0), (some 2, 0), (some 3, 0), (some 4, 0), (some 5, 0), (some 6, 0), (some 11, 0), (some 12, 0)], [7, 8, 10, 11, 12, 13, 15, 16, 19, 20, 21, 23, 24, 25, 26, 58, 59, 60]), (196, [(some 14, 0), (some 7, 0), (some 2, 0), (some 3, 0), (some 4, 0), (some 5, 0), (some 6, 0), (some 11, 0), (some 12, 0)], [7, 8, 10, 11, 12, 13, 15, 16, 19, 20, 21, 23, 24, 25, 32, 33, 34]), (3, [(none, 24), (some 14, 0)], []), (150, [(some 9, 0), (some 2, 0), (some 3, 0), (some 4, 0), (some 5, 0), (some 6, 0)], [26, 27, 7, 8, 10, 11, 12, 13, 15, 16, 19, 20, 21, 23, 24, 25])], (3, [(none, 24), (some 14, 1)], []))
set_option maxRecDepth 20000 in
theorem v_showsAll_1_4 {PT : PTy} (hp : HP15 PT) : vcOk PT w_showsAll_1_4 := vc_of (fun ρ α hB hF => by
  obtain ⟨-, f1, f2, -, f4, f5, -, f7, -⟩ := hF
  have e91 : PT 91 = P_adE := hp.1.1.1.1.1.1.1.1.1.1.1.1.2.2.2.2.2.2.2.2.2.2.2.2.1
  have e149 : PT 149 = P_yi := hp.1.1.1.1.2.2.2.1
  have e150 : PT 150 = P_ar2 := hp.1.1.1.1.2.2.2.2.1
  have e194 : PT 194 = P_sbX := hp.2.1
  have e196 : PT 196 = P_saI := hp.2.2.2.1
  simp only [hF3, hFp_91, hFp_149, hFp_150, hFp_194, hFp_196, e91, e149, e150, e194, e196, P_adE, P_yi, P_ar2, P_sbX, P_saI, den_s, den_c, Int.add_zero, List.map_cons, List.map_nil] at f1 f2 f4 f5 f7 ⊢
  have b2 : (0 : Int) ≤ ρ 2 ∧ ρ 2 ≤ 8 := hB 2 (0, 8) rfl
  have b3 : (0 : Int) ≤ ρ 3 ∧ ρ 3 ≤ 11 := hB 3 (0, 11) rfl
  have b4 : (0 : Int) ≤ ρ 4 ∧ ρ 4 ≤ 9 := hB 4 (0, 9) rfl
  have b5 : (0 : Int) ≤ ρ 5 ∧ ρ 5 ≤ 6 := hB 5 (0, 6) rfl
  have b6 : (0 : Int) ≤ ρ 6 ∧ ρ 6 ≤ 6 := hB 6 (0, 6) rfl
  have b7 : (0 : Int) ≤ ρ 7 ∧ ρ 7 ≤ 8 := hB 7 (0, 8) rfl
  have b9 : (0 : Int) ≤ ρ 9 ∧ ρ 9 ≤ 49 := hB 9 (0, 49) rfl
  have b11 : ((-2147483648) : Int) ≤ ρ 11 ∧ ρ 11 ≤ 2147483647 := hB 11 ((-2147483648), 2147483647) rfl
  have b12 : ((-2147483648) : Int) ≤ ρ 12 ∧ ρ 12 ≤ 2147483647 := hB 12 ((-2147483648), 2147483647) rfl
  have b14 : (0 : Int) ≤ ρ 14 ∧ ρ 14 ≤ 23 := hB 14 (0, 23) rfl
  have b15 : (0 : Int) ≤ ρ 15 ∧ ρ 15 ≤ 49 := hB 15 (0, 49) rfl
  have b16 : (0 : Int) ≤ ρ 16 ∧ ρ 16 ≤ 49 := hB 16 (0, 49) rfl
  have b17 : (1 : Int) ≤ ρ 17 ∧ ρ 17 ≤ 1 := hB 17 (1, 1) rfl
  clear hB
  generalize ρ 2 = r2, ρ 3 = r3, ρ 4 = r4, ρ 5 = r5, ρ 6 = r6, ρ 7 = r7, ρ 9 = r9, ρ 11 = r11, ρ 12 = r12, ρ 14 = r14, ρ 15 = r15, ρ 16 = r16, ρ 17 = r17, α 7 = a7, α 8 = a8, α 10 = a10, α 11 = a11, α 12 = a12, α 13 = a13, α 15 = a15, α 16 = a16, α 19 = a19, α 20 = a20, α 21 = a21, α 23 = a23, α 24 = a24, α 25 = a25, α 26 = a26, α 27 = a27, α 32 = a32, α 33 = a33, α 34 = a34, α 58 = a58, α 59 = a59, α 60 = a60, α 61 = a61, α 62 = a62, α 63 = a63 at *
  omega)
def w_showsAll_1_5 : VC := ((bX ++ [(0, 23), (0, 49), (0, 49), (0, 0)]), [(0, [(some 17, 0), (none, 0)], []), (194, [(some 17, 0), (some 14, 0), (some 7, 0), (some 2, 0)], [32, 33, 34, 61]), (91, [(some 15, 0), (some 16, 0), (some 9, 0), (some 14, 0), (some 11, 0), (some 12, 0)], [26, 27, 7, 8, 10, 11, 16, 20, 21, 24, 25, 58, 59, 60, 61, 62, 63]), (2, [(some 14, 0), (none, 24)], []), (149, [(some 15, 0), (some 14, 0), (some 2, 0), (some 3, 0), (some 4, 0), (some 5, 0), (some 6, 0), (some 11, 0), (some 12, 0)], [7, 8, 10, 11, 12, 13, 15, 16, 19, 20, 21, 23, 24, 25, 26, 58, 59, 60]), (196, [(some 14, 0), (some 7, 0), (some 2, 0), (some 3, 0), (some 4, 0), (some 5, 0), (some 6, 0), (some 11, 0), (some 12, 0)], [7, 8, 10, 11, 12, 13, 15, 16, 19, 20, 21, 23, 24, 25, 32, 33, 34]), (3, [(none, 24), (some 14, 0)], []), (150, [(some 9, 0), (some 2, 0), (some 3, 0), (some 4, 0), (some 5, 0), (some 6, 0)], [26, 27, 7, 8, 10, 11, 12, 13, 15, 16, 19, 20, 21, 23, 24, 25])], (197, [(none, 0), (some 7, 0), (some 2, 0), (some 3, 0), (some 4, 0), (some 5, 0), (some 6, 0), (some 11, 0), (some 12, 0)], [7, 8, 10, 11, 12, 13, 15, 16, 19, 20, 21, 23, 24, 25, 32, 33, 34]))
set_option maxRecDepth 20000 in
theorem v_showsAll_1_5 {PT : PTy} (hp : HP15 PT) : vcOk PT w_showsAll_1_5 := vc_of (fun ρ α hB hF => by
  obtain ⟨f0, f1, f2, -, f4, f5, -, f7, -⟩ := hF
  have e91 : PT 91 = P_adE := hp.1.1.1.1.1.1.1.1.1.1.1.1.2.2.2.2.2.2.2.2.2.2.2.2.1
  have e149 : PT 149 = P_yi := hp.1.1.1.1.2.2.2.1
  have e150 : PT 150 = P_ar2 := hp.1.1.1.1.2.2.2.2.1
  have e194 : PT 194 = P_sbX := hp.2.1
  have e196 : PT 196 = P_saI := hp.2.2.2.1
  have e197 : PT 197 = P_saX := hp.2.2.2.2.1
  simp only [hF0, hFp_91, hFp_149, hFp_150, hFp_194, hFp_196, hFp_197, e91, e149, e150, e194, e196, e197, P_adE, P_yi, P_ar2, P_sbX, P_saI, P_saX, den_s, den_c, Int.add_zero, List.map_cons, List.map_nil] at f0 f1 f2 f4 f5 f7 ⊢
  have b2 : (0 : Int) ≤ ρ 2 ∧ ρ 2 ≤ 8 := hB 2 (0, 8) rfl
  have b3 : (0 : Int) ≤ ρ 3 ∧ ρ 3 ≤ 11 := hB 3 (0, 11) rfl
  have b4 : (0 : Int) ≤ ρ 4 ∧ ρ 4 ≤ 9 := hB 4 (0, 9) rfl
  have b5 : (0 : Int) ≤ ρ 5 ∧ ρ 5 ≤ 6 := hB 5 (0, 6) rfl
  have b6 : (0 : Int) ≤ ρ 6 ∧ ρ 6 ≤ 6 := hB 6 (0, 6) rfl
  have b7 : (0 : Int) ≤ ρ 7 ∧ ρ 7 ≤ 8 := hB 7 (0, 8) rfl
  have b9 : (0 : Int) ≤ ρ 9 ∧ ρ 9 ≤ 49 := hB 9 (0, 49) rfl
  have b11 : ((-2147483648) : Int) ≤ ρ 11 ∧ ρ 11 ≤ 2147483647 := hB 11 ((-2147483648), 2147483647) rfl
  have b12 : ((-2147483648) : Int) ≤ ρ 12 ∧ ρ 12 ≤ 2147483647 := hB 12 ((-2147483648), 2147483647) rfl
  have b14 : (0 : Int) ≤ ρ 14 ∧ ρ 14 ≤ 23 := hB 14 (0, 23) rfl
  have b15 : (0 : Int) ≤ ρ 15 ∧ ρ 15 ≤ 49 := hB 15 (0, 49) rfl
  have b16 : (0 : Int) ≤ ρ 16 ∧ ρ 16 ≤ 49 := hB 16 (0, 49) rfl
  have b17 : (0 : Int) ≤ ρ 17 ∧ ρ 17 ≤ 0 := hB 17 (0, 0) rfl
  clear hB
  generalize ρ 2 = r2, ρ 3 = r3, ρ 4 = r4, ρ 5 = r5, ρ 6 = r6, ρ 7 = r7, ρ 9 = r9, ρ 11 = r11, ρ 12 = r12, ρ 14 = r14, ρ 15 = r15, ρ 16 = r16, ρ 17 = r17, α 7 = a7, α 8 = a8, α 10 = a10, α 11 = a11, α 12 = a12, α 13 = a13, α 15 = a15, α 16 = a16, α 19 = a19, α 20 = a20, α 21 = a21, α 23 = a23, α 24 = a24, α 25 = a25, α 26 = a26, α 27 = a27, α 32 = a32, α 33 = a33, α 34 = a34, α 58 = a58, α 59 = a59, α 60 = a60, α 61 = a61, α 62 = a62, α 63 = a63 at *
  have hy := yI_e (f7).2 (yI_s (f7).2 f4 (by omega) (f2).1) (f2).2
  rcases f1 with ⟨q0, q⟩ | ⟨q0, j, j1, j2, j3, j4⟩
  · exfalso; omega
  · exact Or.inr ⟨by first | rfl | trivial, j, j1, j2, by omega, by omega, _, _, _, by rw [j3]; exact hy, j4⟩)
set_option maxRecDepth 1000000 in
theorem k_showsAll {PT : PTy} (hp : HP15 PT) : wfX c_showsAll = true ∧ xcOk PT c_showsAll := xctr (xl (k_begin14 hp.1.1.1.1.1.1.1.1.1.1.1) (xl (k_advance14 hp.1.1.1.1.1.1.1.1.1.1.1) (xl (k_showsBehind hp) (xl0)))) c_showsAll 34 mX0_showsAll rfl h_showsAll (by decide +kernel) (by decide +kernel) (by decide) (vcs_by [w_showsAll_0_0, w_showsAll_0_1, w_showsAll_0_2] (by decide +kernel) (vc (v_showsAll_0_0 hp) (vc (v_showsAll_0_1 hp) (vc (v_showsAll_0_2 hp) vn)))) (fmc (vcs_by [w_showsAll_1_0, w_showsAll_1_1, w_showsAll_1_2, w_showsAll_1_3, w_showsAll_1_4, w_showsAll_1_5] (by decide +kernel) (vc (v_showsAll_1_0 hp) (vc (v_showsAll_1_1 hp) (vc (v_showsAll_1_2 hp) (vc (v_showsAll_1_3 hp) (vc (v_showsAll_1_4 hp) (vc (v_showsAll_1_5 hp) vn))))))) fmn)
def c_isSeen : XC := (172, 5, (bY), [.inr (.inl 0)], gY2, [], [((bY ++ [(0, 1)]), some (.inl (some 13, 0)), gY2, (ansT 35 [(19, 35), (20, 36), (21, 37), (22, 38), (23, 39), (24, 40)]), 41, [(104, [(none, 24), (some 2, 0), (some 8, 0), (some 3, 0), (some 9, 0), (some 5, 0), (some 6, 0), (some 10, 0), (some 11, 0)], [3, 4, 5, 6, 7, 8, 17, 18, 11, 12, 13, 14, 15, 16, 19, 20, 21, 35, 36, 37, 38, 39, 40]), (200, [(some 13, 0), (some 7, 0), (some 2, 0)], [26, 27, 28, 38])])])
def h_isSeen : List XH := [(8, (bY ++ [(0, 1), (0, 8)]), [some (.inr (.inl 0)), some (.inl (some 13, 0)), some (.inl (some 14, 0))], gY2, (ansT 35 [(19, 35), (20, 36), (21, 37), (22, 38), (23, 39), (24, 40)]), 41, [(104, [(none, 24), (some 2, 0), (some 8, 0), (some 3, 0), (some 9, 0), (some 5, 0), (some 6, 0), (some 10, 0), (some 11, 0)], [3, 4, 5, 6, 7, 8, 17, 18, 11, 12, 13, 14, 15, 16, 19, 20, 21, 35, 36, 37, 38, 39, 40]), (200, [(some 13, 0), (some 14, 0), (some 2, 0)], [26, 27, 28, 38]), (3, [(some 7, 0), (some 14, 0)], [])], [(true, (none, 1)), (true, (some 14, 0))])]
def w_isSeen_0_0 : VC := ((bY), [(104, [(none, 24), (some 2, 0), (some 8, 0), (some 3, 0), (some 9, 0), (some 5, 0), (some 6, 0), (some 10, 0), (some 11, 0)], [3, 4, 5, 6, 7, 8, 17, 18, 11, 12, 13, 14, 15, 16, 19, 20, 21, 35, 36, 37, 38, 39, 40])], (200, [(none, 1), (none, 0), (some 2, 0)], [26, 27, 28, 38]))
set_option maxRecDepth 20000 in
theorem v_isSeen_0_0 {PT : PTy} (hp : HP15 PT) : vcOk PT w_isSeen_0_0 := vc_of (fun ρ α hB hF => by
  obtain ⟨f0, -⟩ := hF
  have e104 : PT 104 = P_ru := hp.1.1.1.1.1.1.1.1.1.1.2.2.2.2.2.2.2.2.2.2.1
  have e200 : PT 200 = P_sy := hp.2.2.2.2.2.2.2.1
  simp only [hFp_104, hFp_200, e104, e200, P_ru, P_sy, den_s, den_c, Int.add_zero, List.map_cons, List.map_nil] at f0 ⊢
  have b2 : (0 : Int) ≤ ρ 2 ∧ ρ 2 ≤ 8 := hB 2 (0, 8) rfl
  have b3 : (0 : Int) ≤ ρ 3 ∧ ρ 3 ≤ 10 := hB 3 (0, 10) rfl
  have b5 : (0 : Int) ≤ ρ 5 ∧ ρ 5 ≤ 6 := hB 5 (0, 6) rfl
  have b6 : (0 : Int) ≤ ρ 6 ∧ ρ 6 ≤ 6 := hB 6 (0, 6) rfl
  have b8 : (0 : Int) ≤ ρ 8 ∧ ρ 8 ≤ 11 := hB 8 (0, 11) rfl
  have b9 : (0 : Int) ≤ ρ 9 ∧ ρ 9 ≤ 9 := hB 9 (0, 9) rfl
  have b10 : ((-2147483648) : Int) ≤ ρ 10 ∧ ρ 10 ≤ 2147483647 := hB 10 ((-2147483648), 2147483647) rfl
  have b11 : ((-2147483648) : Int) ≤ ρ 11 ∧ ρ 11 ≤ 2147483647 := hB 11 ((-2147483648), 2147483647) rfl
  clear hB
  generalize ρ 2 = r2, ρ 3 = r3, ρ 5 = r5, ρ 6 = r6, ρ 8 = r8, ρ 9 = r9, ρ 10 = r10, ρ 11 = r11, α 3 = a3, α 4 = a4, α 5 = a5, α 6 = a6, α 7 = a7, α 8 = a8, α 11 = a11, α 12 = a12, α 13 = a13, α 14 = a14, α 15 = a15, α 16 = a16, α 17 = a17, α 18 = a18, α 19 = a19, α 20 = a20, α 21 = a21, α 26 = a26, α 27 = a27, α 28 = a28, α 35 = a35, α 36 = a36, α 37 = a37, α 38 = a38, α 39 = a39, α 40 = a40 at *
  exact Or.inl ⟨by first | rfl | trivial, fun j h1 h2 => by exfalso; omega⟩)
def w_isSeen_0_1 : VC := ((bY), [(104, [(none, 24), (some 2, 0), (some 8, 0), (some 3, 0), (some 9, 0), (some 5, 0), (some 6, 0), (some 10, 0), (some 11, 0)], [3, 4, 5, 6, 7, 8, 17, 18, 11, 12, 13, 14, 15, 16, 19, 20, 21, 35, 36, 37, 38, 39, 40])], (3, [(some 7, 0), (none, 0)], []))
set_option maxRecDepth 20000 in
theorem v_isSeen_0_1 {PT : PTy} (hp : HP15 PT) : vcOk PT w_isSeen_0_1 := vc_of (fun ρ α hB hF => by
  obtain ⟨f0, -⟩ := hF
  have e104 : PT 104 = P_ru := hp.1.1.1.1.1.1.1.1.1.1.2.2.2.2.2.2.2.2.2.2.1
  simp only [hF3, hFp_104, e104, P_ru, den_s, den_c, Int.add_zero, List.map_cons, List.map_nil] at f0 ⊢
  have b2 : (0 : Int) ≤ ρ 2 ∧ ρ 2 ≤ 8 := hB 2 (0, 8) rfl
  have b3 : (0 : Int) ≤ ρ 3 ∧ ρ 3 ≤ 10 := hB 3 (0, 10) rfl
  have b5 : (0 : Int) ≤ ρ 5 ∧ ρ 5 ≤ 6 := hB 5 (0, 6) rfl
  have b6 : (0 : Int) ≤ ρ 6 ∧ ρ 6 ≤ 6 := hB 6 (0, 6) rfl
  have b7 : (0 : Int) ≤ ρ 7 ∧ ρ 7 ≤ 8 := hB 7 (0, 8) rfl
  have b8 : (0 : Int) ≤ ρ 8 ∧ ρ 8 ≤ 11 := hB 8 (0, 11) rfl
  have b9 : (0 : Int) ≤ ρ 9 ∧ ρ 9 ≤ 9 := hB 9 (0, 9) rfl
  have b10 : ((-2147483648) : Int) ≤ ρ 10 ∧ ρ 10 ≤ 2147483647 := hB 10 ((-2147483648), 2147483647) rfl
  have b11 : ((-2147483648) : Int) ≤ ρ 11 ∧ ρ 11 ≤ 2147483647 := hB 11 ((-2147483648), 2147483647) rfl
  clear hB
  generalize ρ 2 = r2, ρ 3 = r3, ρ 5 = r5, ρ 6 = r6, ρ 7 = r7, ρ 8 = r8, ρ 9 = r9, ρ 10 = r10, ρ 11 = r11, α 3 = a3, α 4 = a4, α 5 = a5, α 6 = a6, α 7 = a7, α 8 = a8, α 11 = a11, α 12 = a12, α 13 = a13, α 14 = a14, α 15 = a15, α 16 = a16, α 17 = a17, α 18 = a18, α 19 = a19, α 20 = a20, α 21 = a21, α 35 = a35, α 36 = a36, α 37 = a37, α 38 = a38, α 39 = a39, α 40 = a40 at *
  omega)
def w_isSeen_1_0 : VC := ((bY ++ [(0, 1), (0, 8)]), [(3, [(some 14, 0), (some 7, 0)], []), (104, [(none, 24), (some 2, 0), (some 8, 0), (some 3, 0), (some 9, 0), (some 5, 0), (some 6, 0), (some 10, 0), (some 11, 0)], [3, 4, 5, 6, 7, 8, 17, 18, 11, 12, 13, 14, 15, 16, 19, 20, 21, 35, 36, 37, 38, 39, 40]), (200, [(some 13, 0), (some 14, 0), (some 2, 0)], [26, 27, 28, 38]), (3, [(some 7, 0), (some 14, 0)], [])], (200, [(some 13, 0), (some 7, 0), (some 2, 0)], [26, 27, 28, 38]))
set_option maxRecDepth 20000 in
theorem v_isSeen_1_0 {PT : PTy} (hp : HP15 PT) : vcOk PT w_isSeen_1_0 := vc_of (fun ρ α hB hF => by
  obtain ⟨f0, f1, f2, f3, -⟩ := hF
  have e104 : PT 104 = P_ru := hp.1.1.1.1.1.1.1.1.1.1.2.2.2.2.2.2.2.2.2.2.1
  have e200 : PT 200 = P_sy := hp.2.2.2.2.2.2.2.1
  simp only [hF3, hFp_104, hFp_200, e104, e200, P_ru, P_sy, den_s, den_c, Int.add_zero, List.map_cons, List.map_nil] at f0 f1 f2 f3 ⊢
  have b2 : (0 : Int) ≤ ρ 2 ∧ ρ 2 ≤ 8 := hB 2 (0, 8) rfl
  have b3 : (0 : Int) ≤ ρ 3 ∧ ρ 3 ≤ 10 := hB 3 (0, 10) rfl
  have b5 : (0 : Int) ≤ ρ 5 ∧ ρ 5 ≤ 6 := hB 5 (0, 6) rfl
  have b6 : (0 : Int) ≤ ρ 6 ∧ ρ 6 ≤ 6 := hB 6 (0, 6) rfl
  have b7 : (0 : Int) ≤ ρ 7 ∧ ρ 7 ≤ 8 := hB 7 (0, 8) rfl
  have b8 : (0 : Int) ≤ ρ 8 ∧ ρ 8 ≤ 11 := hB 8 (0, 11) rfl
  have b9 : (0 : Int) ≤ ρ 9 ∧ ρ 9 ≤ 9 := hB 9 (0, 9) rfl
  have b10 : ((-2147483648) : Int) ≤ ρ 10 ∧ ρ 10 ≤ 2147483647 := hB 10 ((-2147483648), 2147483647) rfl
  have b11 : ((-2147483648) : Int) ≤ ρ 11 ∧ ρ 11 ≤ 2147483647 := hB 11 ((-2147483648), 2147483647) rfl
  have b13 : (0 : Int) ≤ ρ 13 ∧ ρ 13 ≤ 1 := hB 13 (0, 1) rfl
  have b14 : (0 : Int) ≤ ρ 14 ∧ ρ 14 ≤ 8 := hB 14 (0, 8) rfl
  clear hB
  generalize ρ 2 = r2, ρ 3 = r3, ρ 5 = r5, ρ 6 = r6, ρ 7 = r7, ρ 8 = r8, ρ 9 = r9, ρ 10 = r10, ρ 11 = r11, ρ 13 = r13, ρ 14 = r14, α 3 = a3, α 4 = a4, α 5 = a5, α 6 = a6, α 7 = a7, α 8 = a8, α 11 = a11, α 12 = a12, α 13 = a13, α 14 = a14, α 15 = a15, α 16 = a16, α 17 = a17, α 18 = a18, α 19 = a19, α 20 = a20, α 21 = a21, α 26 = a26, α 27 = a27, α 28 = a28, α 35 = a35, α 36 = a36, α 37 = a37, α 38 = a38, α 39 = a39, α 40 = a40 at *
  rcases f2 with ⟨q0, q⟩ | ⟨q0, j, j1, j2, j3⟩
  · first
      | exact Or.inl ⟨q0, fun j h1 h2 => q j h1 (by omega)⟩
      | (exfalso; omega)
  · exact Or.inr ⟨q0, j, j1, by omega, j3⟩)
def w_isSeen_1_1 : VC := (([(0, 23), (0, 49), (0, 8), (0, 10), (0, 8), (0, 6), (0, 6), (1, 8), (0, 11), (0, 9), ((-2147483648), 2147483647), ((-2147483648), 2147483647), (0, 5), (0, 0), (0, 7)]), [(0, [(some 13, 0), (none, 0)], []), (2, [(some 14, 0), (some 7, 0)], []), (104, [(none, 24), (some 2, 0), (some 8, 0), (some 3, 0), (some 9, 0), (some 5, 0), (some 6, 0), (some 10, 0), (some 11, 0)], [3, 4, 5, 6, 7, 8, 17, 18, 11, 12, 13, 14, 15, 16, 19, 20, 21, 35, 36, 37, 38, 39, 40]), (200, [(some 13, 0), (some 14, 0), (some 2, 0)], [26, 27, 28, 38]), (3, [(some 7, 0), (some 14, 0)], [])], (200, [(some 13, 0), (some 7, 0), (some 2, 0)], [26, 27, 28, 38]))
set_option maxRecDepth 20000 in
theorem v_isSeen_1_1 {PT : PTy} (hp : HP15 PT) : vcOk PT w_isSeen_1_1 := vc_of (fun ρ α hB hF => by
  obtain ⟨f0, f1, f2, f3, f4, -⟩ := hF
  have e104 : PT 104 = P_ru := hp.1.1.1.1.1.1.1.1.1.1.2.2.2.2.2.2.2.2.2.2.1
  have e200 : PT 200 = P_sy := hp.2.2.2.2.2.2.2.1
  simp only [hF0, hF2, hF3, hFp_104, hFp_200, e104, e200, P_ru, P_sy, den_s, den_c, Int.add_zero, List.map_cons, List.map_nil] at f0 f1 f2 f3 f4 ⊢
  have b2 : (0 : Int) ≤ ρ 2 ∧ ρ 2 ≤ 8 := hB 2 (0, 8) rfl
  have b3 : (0 : Int) ≤ ρ 3 ∧ ρ 3 ≤ 10 := hB 3 (0, 10) rfl
  have b5 : (0 : Int) ≤ ρ 5 ∧ ρ 5 ≤ 6 := hB 5 (0, 6) rfl
  have b6 : (0 : Int) ≤ ρ 6 ∧ ρ 6 ≤ 6 := hB 6 (0, 6) rfl
  have b7 : (1 : Int) ≤ ρ 7 ∧ ρ 7 ≤ 8 := hB 7 (1, 8) rfl
  have b8 : (0 : Int) ≤ ρ 8 ∧ ρ 8 ≤ 11 := hB 8 (0, 11) rfl
  have b9 : (0 : Int) ≤ ρ 9 ∧ ρ 9 ≤ 9 := hB 9 (0, 9) rfl
  have b10 : ((-2147483648) : Int) ≤ ρ 10 ∧ ρ 10 ≤ 2147483647 := hB 10 ((-2147483648), 2147483647) rfl
  have b11 : ((-2147483648) : Int) ≤ ρ 11 ∧ ρ 11 ≤ 2147483647 := hB 11 ((-2147483648), 2147483647) rfl
  have b13 : (0 : Int) ≤ ρ 13 ∧ ρ 13 ≤ 0 := hB 13 (0, 0) rfl
  have b14 : (0 : Int) ≤ ρ 14 ∧ ρ 14 ≤ 7 := hB 14 (0, 7) rfl
  clear hB
  generalize ρ 2 = r2, ρ 3 = r3, ρ 5 = r5, ρ 6 = r6, ρ 7 = r7, ρ 8 = r8, ρ 9 = r9, ρ 10 = r10, ρ 11 = r11, ρ 13 = r13, ρ 14 = r14, α 3 = a3, α 4 = a4, α 5 = a5, α 6 = a6, α 7 = a7, α 8 = a8, α 11 = a11, α 12 = a12, α 13 = a13, α 14 = a14, α 15 = a15, α 16 = a16, α 17 = a17, α 18 = a18, α 19 = a19, α 20 = a20, α 21 = a21, α 26 = a26, α 27 = a27, α 28 = a28, α 35 = a35, α 36 = a36, α 37 = a37, α 38 = a38, α 39 = a39, α 40 = a40 at *
  rcases f3 with ⟨q0, q⟩ | ⟨q0, j, j1, j2, j3⟩
  · first
      | exact Or.inl ⟨q0, fun j h1 h2 => q j h1 (by omega)⟩
      | (exfalso; omega)
  · exact Or.inr ⟨q0, j, j1, by omega, j3⟩)
def w_isSeen_1_2 : VC := (([(0, 23), (0, 49), (0, 7), (0, 10), (0, 8), (0, 6), (0, 6), (1, 8), (0, 11), (0, 9), ((-2147483648), 2147483647), ((-2147483648), 2147483647), (0, 5), (1, 1), (0, 7), (0, 7)]), [(3, [(some 15, 0), (some 2, 0)], []), (20, [(some 15, 0), (some 14, 0)], [27]), (1, [(some 13, 0), (none, 0)], []), (2, [(some 14, 0), (some 7, 0)], []), (104, [(none, 24), (some 2, 0), (some 8, 0), (some 3, 0), (some 9, 0), (some 5, 0), (some 6, 0), (some 10, 0), (some 11, 0)], [3, 4, 5, 6, 7, 8, 17, 18, 11, 12, 13, 14, 15, 16, 19, 20, 21, 35, 36, 37, 38, 39, 40]), (200, [(some 13, 0), (some 14, 0), (some 2, 0)], [26, 27, 28, 38]), (3, [(some 7, 0), (some 14, 0)], [])], (200, [(none, 0), (some 14, 1), (some 2, 0)], [26, 27, 28, 38]))
set_option maxRecDepth 20000 in
theorem v_isSeen_1_2 {PT : PTy} (hp : HP15 PT) : vcOk PT w_isSeen_1_2 := vc_of (fun ρ α hB hF => by
  obtain ⟨f0, f1, -, f3, f4, f5, f6, -⟩ := hF
  have e104 : PT 104 = P_ru := hp.1.1.1.1.1.1.1.1.1.1.2.2.2.2.2.2.2.2.2.2.1
  have e200 : PT 200 = P_sy := hp.2.2.2.2.2.2.2.1
  simp only [hF2, hF3, hF20, hFp_104, hFp_200, e104, e200, P_ru, P_sy, den_s, den_c, Int.add_zero, List.map_cons, List.map_nil] at f0 f1 f3 f4 f5 f6 ⊢
  have b2 : (0 : Int) ≤ ρ 2 ∧ ρ 2 ≤ 7 := hB 2 (0, 7) rfl
  have b3 : (0 : Int) ≤ ρ 3 ∧ ρ 3 ≤ 10 := hB 3 (0, 10) rfl
  have b5 : (0 : Int) ≤ ρ 5 ∧ ρ 5 ≤ 6 := hB 5 (0, 6) rfl
  have b6 : (0 : Int) ≤ ρ 6 ∧ ρ 6 ≤ 6 := hB 6 (0, 6) rfl
  have b7 : (1 : Int) ≤ ρ 7 ∧ ρ 7 ≤ 8 := hB 7 (1, 8) rfl
  have b8 : (0 : Int) ≤ ρ 8 ∧ ρ 8 ≤ 11 := hB 8 (0, 11) rfl
  have b9 : (0 : Int) ≤ ρ 9 ∧ ρ 9 ≤ 9 := hB 9 (0, 9) rfl
  have b10 : ((-2147483648) : Int) ≤ ρ 10 ∧ ρ 10 ≤ 2147483647 := hB 10 ((-2147483648), 2147483647) rfl
  have b11 : ((-2147483648) : Int) ≤ ρ 11 ∧ ρ 11 ≤ 2147483647 := hB 11 ((-2147483648), 2147483647) rfl
  have b13 : (1 : Int) ≤ ρ 13 ∧ ρ 13 ≤ 1 := hB 13 (1, 1) rfl
  have b14 : (0 : Int) ≤ ρ 14 ∧ ρ 14 ≤ 7 := hB 14 (0, 7) rfl
  have b15 : (0 : Int) ≤ ρ 15 ∧ ρ 15 ≤ 7 := hB 15 (0, 7) rfl
  clear hB
  generalize ρ 2 = r2, ρ 3 = r3, ρ 5 = r5, ρ 6 = r6, ρ 7 = r7, ρ 8 = r8, ρ 9 = r9, ρ 10 = r10, ρ 11 = r11, ρ 13 = r13, ρ 14 = r14, ρ 15 = r15, α 3 = a3, α 4 = a4, α 5 = a5, α 6 = a6, α 7 = a7, α 8 = a8, α 11 = a11, α 12 = a12, α 13 = a13, α 14 = a14, α 15 = a15, α 16 = a16, α 17 = a17, α 18 = a18, α 19 = a19, α 20 = a20, α 21 = a21, α 26 = a26, α 27 = a27, α 28 = a28, α 35 = a35, α 36 = a36, α 37 = a37, α 38 = a38, α 39 = a39, α 40 = a40 at *
  subst f1
  rcases f5 with ⟨q0, q⟩ | ⟨q0, j, j1, j2, j3⟩
  · first
      | exact Or.inl ⟨by first | rfl | omega, fun j h1 h2 => by
          by_cases e : j = r14
          · subst e; exact ⟨by omega, by omega⟩
          · exact q j h1 (by omega)⟩
      | exact Or.inr ⟨by first | rfl | omega, r14, by omega, by omega, fun h => by have h1 := h.1; have h2 := h.2; omega⟩
  · exfalso; omega)
def w_isSeen_1_3 : VC := (([(0, 23), (0, 49), (0, 7), (0, 10), (0, 8), (0, 6), (0, 6), (1, 8), (0, 11), (0, 9), ((-2147483648), 2147483647), ((-2147483648), 2147483647), (0, 5), (1, 1), (0, 7), (0, 7)]), [(3, [(some 15, 0), (some 2, 0)], []), (20, [(some 15, 0), (some 14, 0)], [27]), (1, [(some 13, 0), (none, 0)], []), (2, [(some 14, 0), (some 7, 0)], []), (104, [(none, 24), (some 2, 0), (some 8, 0), (some 3, 0), (some 9, 0), (some 5, 0), (some 6, 0), (some 10, 0), (some 11, 0)], [3, 4, 5, 6, 7, 8, 17, 18, 11, 12, 13, 14, 15, 16, 19, 20, 21, 35, 36, 37, 38, 39, 40]), (200, [(some 13, 0), (some 14, 0), (some 2, 0)], [26, 27, 28, 38]), (3, [(some 7, 0), (some 14, 0)], [])], (3, [(some 7, 0), (some 14, 1)], []))
set_option maxRecDepth 20000 in
theorem v_isSeen_1_3 {PT : PTy} (hp : HP15 PT) : vcOk PT w_isSeen_1_3 := vc_of (fun ρ α hB hF => by
  obtain ⟨f0, f1, -, f3, f4, f5, f6, -⟩ := hF
  have e104 : PT 104 = P_ru := hp.1.1.1.1.1.1.1.1.1.1.2.2.2.2.2.2.2.2.2.2.1
  have e200 : PT 200 = P_sy := hp.2.2.2.2.2.2.2.1
  simp only [hF2, hF3, hF20, hFp_104, hFp_200, e104, e200, P_ru, P_sy, den_s, den_c, Int.add_zero, List.map_cons, List.map_nil] at f0 f1 f3 f4 f5 f6 ⊢
  have b2 : (0 : Int) ≤ ρ 2 ∧ ρ 2 ≤ 7 := hB 2 (0, 7) rfl
  have b3 : (0 : Int) ≤ ρ 3 ∧ ρ 3 ≤ 10 := hB 3 (0, 10) rfl
  have b5 : (0 : Int) ≤ ρ 5 ∧ ρ 5 ≤ 6 := hB 5 (0, 6) rfl
  have b6 : (0 : Int) ≤ ρ 6 ∧ ρ 6 ≤ 6 := hB 6 (0, 6) rfl
  have b7 : (1 : Int) ≤ ρ 7 ∧ ρ 7 ≤ 8 := hB 7 (1, 8) rfl
  have b8 : (0 : Int) ≤ ρ 8 ∧ ρ 8 ≤ 11 := hB 8 (0, 11) rfl
  have b9 : (0 : Int) ≤ ρ 9 ∧ ρ 9 ≤ 9 := hB 9 (0, 9) rfl
  have b10 : ((-2147483648) : Int) ≤ ρ 10 ∧ ρ 10 ≤ 2147483647 := hB 10 ((-2147483648), 2147483647) rfl
  have b11 : ((-2147483648) : Int) ≤ ρ 11 ∧ ρ 11 ≤ 2147483647 := hB 11 ((-2147483648), 2147483647) rfl
  have b13 : (1 : Int) ≤ ρ 13 ∧ ρ 13 ≤ 1 := hB 13 (1, 1) rfl
  have b14 : (0 : Int) ≤ ρ 14 ∧ ρ 14 ≤ 7 := hB 14 (0, 7) rfl
  have b15 : (0 : Int) ≤ ρ 15 ∧ ρ 15 ≤ 7 := hB 15 (0, 7) rfl
  clear hB
  generalize ρ 2 = r2, ρ 3 = r3, ρ 5 = r5, ρ 6 = r6, ρ 7 = r7, ρ 8 = r8, ρ 9 = r9, ρ 10 = r10, ρ 11 = r11, ρ 13 = r13, ρ 14 = r14, ρ 15 = r15, α 3 = a3, α 4 = a4, α 5 = a5, α 6 = a6, α 7 = a7, α 8 = a8, α 11 = a11, α 12 = a12, α 13 = a13, α 14 = a14, α 15 = a15, α 16 = a16, α 17 = a17, α 18 = a18, α 19 = a19, α 20 = a20, α 21 = a21, α 26 = a26, α 27 = a27, α 28 = a28, α 35 = a35, α 36 = a36, α 37 = a37, α 38 = a38, α 39 = a39, α 40 = a40 at *
  subst f1
  omega)
def w_isSeen_1_4 : VC := (([(0, 23), (0, 49), (1, 8), (0, 10), (0, 8), (0, 6), (0, 6), (1, 8), (0, 11), (0, 9), ((-2147483648), 2147483647), ((-2147483648), 2147483647), (0, 5), (1, 1), (0, 7), (0, 7), (0, 23), (0, 184), (0, 7), (0, 191), (0, 99), (0, 99)]), [(1, [(some 20, 0), (some 21, 0)], []), (20, [(some 21, 0), (some 14, 0)], [28]), (20, [(some 20, 0), (some 19, 0)], [38]), (4, [(some 19, 0), (some 17, 0), (some 18, 0)], []), (20, [(some 18, 0), (some 14, 0)], [27]), (6, [(some 17, 0), (none, 8), (some 16, 0)], []), (20, [(some 16, 0), (some 14, 0)], [26]), (2, [(some 15, 0), (some 2, 0)], []), (20, [(some 15, 0), (some 14, 0)], [27]), (1, [(some 13, 0), (none, 0)], []), (2, [(some 14, 0), (some 7, 0)], []), (104, [(none, 24), (some 2, 0), (some 8, 0), (some 3, 0), (some 9, 0), (some 5, 0), (some 6, 0), (some 10, 0), (some 11, 0)], [3, 4, 5, 6, 7, 8, 17, 18, 11, 12, 13, 14, 15, 16, 19, 20, 21, 35, 36, 37, 38, 39, 40]), (200, [(some 13, 0), (some 14, 0), (some 2, 0)], [26, 27, 28, 38]), (3, [(some 7, 0), (some 14, 0)], [])], (200, [(none, 0), (some 14, 1), (some 2, 0)], [26, 27, 28, 38]))
set_option maxRecDepth 20000 in
theorem v_isSeen_1_4 {PT : PTy} (hp : HP15 PT) : vcOk PT w_isSeen_1_4 := vc_of (fun ρ α hB hF => by
  obtain ⟨f0, f1, f2, f3, f4, f5, f6, f7, f8, -, f10, f11, f12, f13, -⟩ := hF
  have e104 : PT 104 = P_ru := hp.1.1.1.1.1.1.1.1.1.1.2.2.2.2.2.2.2.2.2.2.1
  have e200 : PT 200 = P_sy := hp.2.2.2.2.2.2.2.1
  simp only [hF1, hF2, hF3, hF4, hF6, hF20, hFp_104, hFp_200, e104, e200, P_ru, P_sy, den_s, den_c, Int.add_zero, List.map_cons, List.map_nil] at f0 f1 f2 f3 f4 f5 f6 f7 f8 f10 f11 f12 f13 ⊢
  have b2 : (1 : Int) ≤ ρ 2 ∧ ρ 2 ≤ 8 := hB 2 (1, 8) rfl
  have b3 : (0 : Int) ≤ ρ 3 ∧ ρ 3 ≤ 10 := hB 3 (0, 10) rfl
  have b5 : (0 : Int) ≤ ρ 5 ∧ ρ 5 ≤ 6 := hB 5 (0, 6) rfl
  have b6 : (0 : Int) ≤ ρ 6 ∧ ρ 6 ≤ 6 := hB 6 (0, 6) rfl
  have b7 : (1 : Int) ≤ ρ 7 ∧ ρ 7 ≤ 8 := hB 7 (1, 8) rfl
  have b8 : (0 : Int) ≤ ρ 8 ∧ ρ 8 ≤ 11 := hB 8 (0, 11) rfl
  have b9 : (0 : Int) ≤ ρ 9 ∧ ρ 9 ≤ 9 := hB 9 (0, 9) rfl
  have b10 : ((-2147483648) : Int) ≤ ρ 10 ∧ ρ 10 ≤ 2147483647 := hB 10 ((-2147483648), 2147483647) rfl
  have b11 : ((-2147483648) : Int) ≤ ρ 11 ∧ ρ 11 ≤ 2147483647 := hB 11 ((-2147483648), 2147483647) rfl
  have b13 : (1 : Int) ≤ ρ 13 ∧ ρ 13 ≤ 1 := hB 13 (1, 1) rfl
  have b14 : (0 : Int) ≤ ρ 14 ∧ ρ 14 ≤ 7 := hB 14 (0, 7) rfl
  have b15 : (0 : Int) ≤ ρ 15 ∧ ρ 15 ≤ 7 := hB 15 (0, 7) rfl
  have b16 : (0 : Int) ≤ ρ 16 ∧ ρ 16 ≤ 23 := hB 16 (0, 23) rfl
  have b17 : (0 : Int) ≤ ρ 17 ∧ ρ 17 ≤ 184 := hB 17 (0, 184) rfl
  have b18 : (0 : Int) ≤ ρ 18 ∧ ρ 18 ≤ 7 := hB 18 (0, 7) rfl
  have b19 : (0 : Int) ≤ ρ 19 ∧ ρ 19 ≤ 191 := hB 19 (0, 191) rfl
  have b20 : (0 : Int) ≤ ρ 20 ∧ ρ 20 ≤ 99 := hB 20 (0, 99) rfl
  have b21 : (0 : Int) ≤ ρ 21 ∧ ρ 21 ≤ 99 := hB 21 (0, 99) rfl
  clear hB
  generalize ρ 2 = r2, ρ 3 = r3, ρ 5 = r5, ρ 6 = r6, ρ 7 = r7, ρ 8 = r8, ρ 9 = r9, ρ 10 = r10, ρ 11 = r11, ρ 13 = r13, ρ 14 = r14, ρ 15 = r15, ρ 16 = r16, ρ 17 = r17, ρ 18 = r18, ρ 19 = r19, ρ 20 = r20, ρ 21 = r21, α 3 = a3, α 4 = a4, α 5 = a5, α 6 = a6, α 7 = a7, α 8 = a8, α 11 = a11, α 12 = a12, α 13 = a13, α 14 = a14, α 15 = a15, α 16 = a16, α 17 = a17, α 18 = a18, α 19 = a19, α 20 = a20, α 21 = a21, α 26 = a26, α 27 = a27, α 28 = a28, α 35 = a35, α 36 = a36, α 37 = a37, α 38 = a38, α 39 = a39, α 40 = a40 at *
  subst f1
  subst f2
  subst f3
  subst f4
  subst f5
  subst f6
  subst f8
  rcases f12 with ⟨q0, q⟩ | ⟨q0, j, j1, j2, j3⟩
  · first
      | exact Or.inl ⟨by first | rfl | omega, fun j h1 h2 => by
          by_cases e : j = r14
          · subst e; exact ⟨by omega, by omega⟩
          · exact q j h1 (by omega)⟩
      | exact Or.inr ⟨by first | rfl | omega, r14, by omega, by omega, fun h => by have h1 := h.1; have h2 := h.2; omega⟩
  · exfalso; omega)
def w_isSeen_1_5 : VC := (([(0, 23), (0, 49), (1, 8), (0, 10), (0, 8), (0, 6), (0, 6), (1, 8), (0, 11), (0, 9), ((-2147483648), 2147483647), ((-2147483648), 2147483647), (0, 5), (1, 1), (0, 7), (0, 7), (0, 23), (0, 184), (0, 7), (0, 191), (0, 99), (0, 99)]), [(1, [(some 20, 0), (some 21, 0)], []), (20, [(some 21, 0), (some 14, 0)], [28]), (20, [(some 20, 0), (some 19, 0)], [38]), (4, [(some 19, 0), (some 17, 0), (some 18, 0)], []), (20, [(some 18, 0), (some 14, 0)], [27]), (6, [(some 17, 0), (none, 8), (some 16, 0)], []), (20, [(some 16, 0), (some 14, 0)], [26]), (2, [(some 15, 0), (some 2, 0)], []), (20, [(some 15, 0), (some 14, 0)], [27]), (1, [(some 13, 0), (none, 0)], []), (2, [(some 14, 0), (some 7, 0)], []), (104, [(none, 24), (some 2, 0), (some 8, 0), (some 3, 0), (some 9, 0), (some 5, 0), (some 6, 0), (some 10, 0), (some 11, 0)], [3, 4, 5, 6, 7, 8, 17, 18, 11, 12, 13, 14, 15, 16, 19, 20, 21, 35, 36, 37, 38, 39, 40]), (200, [(some 13, 0), (some 14, 0), (some 2, 0)], [26, 27, 28, 38]), (3, [(some 7, 0), (some 14, 0)], [])], (3, [(some 7, 0), (some 14, 1)], []))
set_option maxRecDepth 20000 in
theorem v_isSeen_1_5 {PT : PTy} (hp : HP15 PT) : vcOk PT w_isSeen_1_5 := vc_of (fun ρ α hB hF => by
  obtain ⟨f0, f1, f2, f3, f4, f5, f6, f7, f8, -, f10, f11, f12, f13, -⟩ := hF
  have e104 : PT 104 = P_ru := hp.1.1.1.1.1.1.1.1.1.1.2.2.2.2.2.2.2.2.2.2.1
  have e200 : PT 200 = P_sy := hp.2.2.2.2.2.2.2.1
  simp only [hF1, hF2, hF3, hF4, hF6, hF20, hFp_104, hFp_200, e104, e200, P_ru, P_sy, den_s, den_c, Int.add_zero, List.map_cons, List.map_nil] at f0 f1 f2 f3 f4 f5 f6 f7 f8 f10 f11 f12 f13 ⊢
  have b2 : (1 : Int) ≤ ρ 2 ∧ ρ 2 ≤ 8 := hB 2 (1, 8) rfl
  have b3 : (0 : Int) ≤ ρ 3 ∧ ρ 3 ≤ 10 := hB 3 (0, 10) rfl
  have b5 : (0 : Int) ≤ ρ 5 ∧ ρ 5 ≤ 6 := hB 5 (0, 6) rfl
  have b6 : (0 : Int) ≤ ρ 6 ∧ ρ 6 ≤ 6 := hB 6 (0, 6) rfl
  have b7 : (1 : Int) ≤ ρ 7 ∧ ρ 7 ≤ 8 := hB 7 (1, 8) rfl
  have b8 : (0 : Int) ≤ ρ 8 ∧ ρ 8 ≤ 11 := hB 8 (0, 11) rfl
  have b9 : (0 : Int) ≤ ρ 9 ∧ ρ 9 ≤ 9 := hB 9 (0, 9) rfl
  have b10 : ((-2147483648) : Int) ≤ ρ 10 ∧ ρ 10 ≤ 2147483647 := hB 10 ((-2147483648), 2147483647) rfl
  have b11 : ((-2147483648) : Int) ≤ ρ 11 ∧ ρ 11 ≤ 2147483647 := hB 11 ((-2147483648), 2147483647) rfl
  have b13 : (1 : Int) ≤ ρ 13 ∧ ρ 13 ≤ 1 := hB 13 (1, 1) rfl
  have b14 : (0 : Int) ≤ ρ 14 ∧ ρ 14 ≤ 7 := hB 14 (0, 7) rfl
  have b15 : (0 : Int) ≤ ρ 15 ∧ ρ 15 ≤ 7 := hB 15 (0, 7) rfl
  have b16 : (0 : Int) ≤ ρ 16 ∧ ρ 16 ≤ 23 := hB 16 (0, 23) rfl
  have b17 : (0 : Int) ≤ ρ 17 ∧ ρ 17 ≤ 184 := hB 17 (0, 184) rfl
  have b18 : (0 : Int) ≤ ρ 18 ∧ ρ 18 ≤ 7 := hB 18 (0, 7) rfl
  have b19 : (0 : Int) ≤ ρ 19 ∧ ρ 19 ≤ 191 := hB 19 (0, 191) rfl
  have b20 : (0 : Int) ≤ ρ 20 ∧ ρ 20 ≤ 99 := hB 20 (0, 99) rfl
  have b21 : (0 : Int) ≤ ρ 21 ∧ ρ 21 ≤ 99 := hB 21 (0, 99) rfl
  clear hB
  generalize ρ 2 = r2, ρ 3 = r3, ρ 5 = r5, ρ 6 = r6, ρ 7 = r7, ρ 8 = r8, ρ 9 = r9, ρ 10 = r10, ρ 11 = r11, ρ 13 = r13, ρ 14 = r14, ρ 15 = r15, ρ 16 = r16, ρ 17 = r17, ρ 18 = r18, ρ 19 = r19, ρ 20 = r20, ρ 21 = r21, α 3 = a3, α 4 = a4, α 5 = a5, α 6 = a6, α 7 = a7, α 8 = a8, α 11 = a11, α 12 = a12, α 13 = a13, α 14 = a14, α 15 = a15, α 16 = a16, α 17 = a17, α 18 = a18, α 19 = a19, α 20 = a20, α 21 = a21, α 26 = a26, α 27 = a27, α 28 = a28, α 35 = a35, α 36 = a36, α 37 = a37, α 38 = a38, α 39 = a39, α 40 = a40 at *
  subst f1
  subst f2
  subst f3
  subst f4
  subst f5
  subst f6
  subst f8
  omega)
def w_isSeen_1_6 : VC := (([(0, 23), (0, 49), (1, 8), (0, 10), (0, 8), (0, 6), (0, 6), (1, 8), (0, 11), (0, 9), ((-2147483648), 2147483647), ((-2147483648), 2147483647), (0, 5), (1, 1), (0, 7), (0, 7), (0, 23), (0, 184), (0, 7), (0, 191), (0, 99), (0, 99)]), [(0, [(some 20, 0), (some 21, 0)], []), (20, [(some 21, 0), (some 14, 0)], [28]), (20, [(some 20, 0), (some 19, 0)], [38]), (4, [(some 19, 0), (some 17, 0), (some 18, 0)], []), (20, [(some 18, 0), (some 14, 0)], [27]), (6, [(some 17, 0), (none, 8), (some 16, 0)], []), (20, [(some 16, 0), (some 14, 0)], [26]), (2, [(some 15, 0), (some 2, 0)], []), (20, [(some 15, 0), (some 14, 0)], [27]), (1, [(some 13, 0), (none, 0)], []), (2, [(some 14, 0), (some 7, 0)], []), (104, [(none, 24), (some 2, 0), (some 8, 0), (some 3, 0), (some 9, 0), (some 5, 0), (some 6, 0), (some 10, 0), (some 11, 0)], [3, 4, 5, 6, 7, 8, 17, 18, 11, 12, 13, 14, 15, 16, 19, 20, 21, 35, 36, 37, 38, 39, 40]), (200, [(some 13, 0), (some 14, 0), (some 2, 0)], [26, 27, 28, 38]), (3, [(some 7, 0), (some 14, 0)], [])], (200, [(none, 1), (some 14, 1), (some 2, 0)], [26, 27, 28, 38]))
set_option maxRecDepth 20000 in
theorem v_isSeen_1_6 {PT : PTy} (hp : HP15 PT) : vcOk PT w_isSeen_1_6 := vc_of (fun ρ α hB hF => by
  obtain ⟨f0, f1, f2, f3, f4, f5, f6, f7, f8, -, f10, f11, f12, f13, -⟩ := hF
  have e104 : PT 104 = P_ru := hp.1.1.1.1.1.1.1.1.1.1.2.2.2.2.2.2.2.2.2.2.1
  have e200 : PT 200 = P_sy := hp.2.2.2.2.2.2.2.1
  simp only [hF0, hF2, hF3, hF4, hF6, hF20, hFp_104, hFp_200, e104, e200, P_ru, P_sy, den_s, den_c, Int.add_zero, List.map_cons, List.map_nil] at f0 f1 f2 f3 f4 f5 f6 f7 f8 f10 f11 f12 f13 ⊢
  have b2 : (1 : Int) ≤ ρ 2 ∧ ρ 2 ≤ 8 := hB 2 (1, 8) rfl
  have b3 : (0 : Int) ≤ ρ 3 ∧ ρ 3 ≤ 10 := hB 3 (0, 10) rfl
  have b5 : (0 : Int) ≤ ρ 5 ∧ ρ 5 ≤ 6 := hB 5 (0, 6) rfl
  have b6 : (0 : Int) ≤ ρ 6 ∧ ρ 6 ≤ 6 := hB 6 (0, 6) rfl
  have b7 : (1 : Int) ≤ ρ 7 ∧ ρ 7 ≤ 8 := hB 7 (1, 8) rfl
  have b8 : (0 : Int) ≤ ρ 8 ∧ ρ 8 ≤ 11 := hB 8 (0, 11) rfl
  have b9 : (0 : Int) ≤ ρ 9 ∧ ρ 9 ≤ 9 := hB 9 (0, 9) rfl
  have b10 : ((-2147483648) : Int) ≤ ρ 10 ∧ ρ 10 ≤ 2147483647 := hB 10 ((-2147483648), 2147483647) rfl
  have b11 : ((-2147483648) : Int) ≤ ρ 11 ∧ ρ 11 ≤ 2147483647 := hB 11 ((-2147483648), 2147483647) rfl
  have b13 : (1 : Int) ≤ ρ 13 ∧ ρ 13 ≤ 1 := hB 13 (1, 1) rfl
  have b14 : (0 : Int) ≤ ρ 14 ∧ ρ 14 ≤ 7 := hB 14 (0, 7) rfl
  have b15 : (0 : Int) ≤ ρ 15 ∧ ρ 15 ≤ 7 := hB 15 (0, 7) rfl
  have b16 : (0 : Int) ≤ ρ 16 ∧ ρ 16 ≤ 23 := hB 16 (0, 23) rfl
  have b17 : (0 : Int) ≤ ρ 17 ∧ ρ 17 ≤ 184 := hB 17 (0, 184) rfl
  have b18 : (0 : Int) ≤ ρ 18 ∧ ρ 18 ≤ 7 := hB 18 (0, 7) rfl
  have b19 : (0 : Int) ≤ ρ 19 ∧ ρ 19 ≤ 191 := hB 19 (0, 191) rfl
  have b20 : (0 : Int) ≤ ρ 20 ∧ ρ 20 ≤ 99 := hB 20 (0, 99) rfl
  have b21 : (0 : Int) ≤ ρ 21 ∧ ρ 21 ≤ 99 := hB 21 (0, 99) rfl
  clear hB
  generalize ρ 2 = r2, ρ 3 = r3, ρ 5 = r5, ρ 6 = r6, ρ 7 = r7, ρ 8 = r8, ρ 9 = r9, ρ 10 = r10, ρ 11 = r11, ρ 13 = r13, ρ 14 = r14, ρ 15 = r15, ρ 16 = r16, ρ 17 = r17, ρ 18 = r18, ρ 19 = r19, ρ 20 = r20, ρ 21 = r21, α 3 = a3, α 4 = a4, α 5 = a5, α 6 = a6, α 7 = a7, α 8 = a8, α 11 = a11, α 12 = a12, α 13 = a13, α 14 = a14, α 15 = a15, α 16 = a16, α 17 = a17, α 18 = a18, α 19 = a19, α 20 = a20, α 21 = a21, α 26 = a26, α 27 = a27, α 28 = a28, α 35 = a35, α 36 = a36, α 37 = a37, α 38 = a38, α 39 = a39, α 40 = a40 at *
  subst f1
  subst f2
  subst f3
  subst f4
  subst f5
  subst f6
  subst f8
  rcases f12 with ⟨q0, q⟩ | ⟨q0, j, j1, j2, j3⟩
  · first
      | exact Or.inl ⟨by first | rfl | omega, fun j h1 h2 => by
          by_cases e : j = r14
          · subst e; exact ⟨by omega, by omega⟩
          · exact q j h1 (by omega)⟩
      | exact Or.inr ⟨by first | rfl | omega, r14, by omega, by omega, fun h => by have h1 := h.1; have h2 := h.2; omega⟩
  · exfalso; omega)
def w_isSeen_1_7 : VC := (([(0, 23), (0, 49), (1, 8), (0, 10), (0, 8), (0, 6), (0, 6), (1, 8), (0, 11), (0, 9), ((-2147483648), 2147483647), ((-2147483648), 2147483647), (0, 5), (1, 1), (0, 7), (0, 7), (0, 23), (0, 184), (0, 7), (0, 191), (0, 99), (0, 99)]), [(0, [(some 20, 0), (some 21, 0)], []), (20, [(some 21, 0), (some 14, 0)], [28]), (20, [(some 20, 0), (some 19, 0)], [38]), (4, [(some 19, 0), (some 17, 0), (some 18, 0)], []), (20, [(some 18, 0), (some 14, 0)], [27]), (6, [(some 17, 0), (none, 8), (some 16, 0)], []), (20, [(some 16, 0), (some 14, 0)], [26]), (2, [(some 15, 0), (some 2, 0)], []), (20, [(some 15, 0), (some 14, 0)], [27]), (1, [(some 13, 0), (none, 0)], []), (2, [(some 14, 0), (some 7, 0)], []), (104, [(none, 24), (some 2, 0), (some 8, 0), (some 3, 0), (some 9, 0), (some 5, 0), (some 6, 0), (some 10, 0), (some 11, 0)], [3, 4, 5, 6, 7, 8, 17, 18, 11, 12, 13, 14, 15, 16, 19, 20, 21, 35, 36, 37, 38, 39, 40]), (200, [(some 13, 0), (some 14, 0), (some 2, 0)], [26, 27, 28, 38]), (3, [(some 7, 0), (some 14, 0)], [])], (3, [(some 7, 0), (some 14, 1)], []))
set_option maxRecDepth 20000 in
theorem v_isSeen_1_7 {PT : PTy} (hp : HP15 PT) : vcOk PT w_isSeen_1_7 := vc_of (fun ρ α hB hF => by
  obtain ⟨f0, f1, f2, f3, f4, f5, f6, f7, f8, -, f10, f11, f12, f13, -⟩ := hF
  have e104 : PT 104 = P_ru := hp.1.1.1.1.1.1.1.1.1.1.2.2.2.2.2.2.2.2.2.2.1
  have e200 : PT 200 = P_sy := hp.2.2.2.2.2.2.2.1
  simp only [hF0, hF2, hF3, hF4, hF6, hF20, hFp_104, hFp_200, e104, e200, P_ru, P_sy, den_s, den_c, Int.add_zero, List.map_cons, List.map_nil] at f0 f1 f2 f3 f4 f5 f6 f7 f8 f10 f11 f12 f13 ⊢
  have b2 : (1 : Int) ≤ ρ 2 ∧ ρ 2 ≤ 8 := hB 2 (1, 8) rfl
  have b3 : (0 : Int) ≤ ρ 3 ∧ ρ 3 ≤ 10 := hB 3 (0, 10) rfl
  have b5 : (0 : Int) ≤ ρ 5 ∧ ρ 5 ≤ 6 := hB 5 (0, 6) rfl
  have b6 : (0 : Int) ≤ ρ 6 ∧ ρ 6 ≤ 6 := hB 6 (0, 6) rfl
  have b7 : (1 : Int) ≤ ρ 7 ∧ ρ 7 ≤ 8 := hB 7 (1, 8) rfl
  have b8 : (0 : Int) ≤ ρ 8 ∧ ρ 8 ≤ 11 := hB 8 (0, 11) rfl
  have b9 : (0 : Int) ≤ ρ 9 ∧ ρ 9 ≤ 9 := hB 9 (0, 9) rfl
  have b10 : ((-2147483648) : Int) ≤ ρ 10 ∧ ρ 10 ≤ 2147483647 := hB 10 ((-2147483648), 2147483647) rfl
  have b11 : ((-2147483648) : Int) ≤ ρ 11 ∧ ρ 11 ≤ 2147483647 := hB 11 ((-2147483648), 2147483647) rfl
  have b13 : (1 : Int) ≤ ρ 13 ∧ ρ 13 ≤ 1 := hB 13 (1, 1) rfl
  have b14 : (0 : Int) ≤ ρ 14 ∧ ρ 14 ≤ 7 := hB 14 (0, 7) rfl
  have b15 : (0 : Int) ≤ ρ 15 ∧ ρ 15 ≤ 7 := hB 15 (0, 7) rfl
  have b16 : (0 : Int) ≤ ρ 16 ∧ ρ 16 ≤ 23 := hB 16 (0, 23) rfl
  have b17 : (0 : Int) ≤ ρ 17 ∧ ρ 17 ≤ 184 := hB 17 (0, 184) rfl
  have b18 : (0 : Int) ≤ ρ 18 ∧ ρ 18 ≤ 7 := hB 18 (0, 7) rfl
  have b19 : (0 : Int) ≤ ρ 19 ∧ ρ 19 ≤ 191 := hB 19 (0, 191) rfl
  have b20 : (0 : Int) ≤ ρ 20 ∧ ρ 20 ≤ 99 := hB 20 (0, 99) rfl
  have b21 : (0 : Int) ≤ ρ 21 ∧ ρ 21 ≤ 99 := hB 21 (0, 99) rfl
  clear hB
  generalize ρ 2 = r2, ρ 3 = r3, ρ 5 = r5, ρ 6 = r6, ρ 7 = r7, ρ 8 = r8, ρ 9 = r9, ρ 10 = r10, ρ 11 = r11, ρ 13 = r13, ρ 14 = r14, ρ 15 = r15, ρ 16 = r16, ρ 17 = r17, ρ 18 = r18, ρ 19 = r19, ρ 20 = r20, ρ 21 = r21, α 3 = a3, α 4 = a4, α 5 = a5, α 6 = a6, α 7 = a7, α 8 = a8, α 11 = a11, α 12 = a12, α 13 = a13, α 14 = a14, α 15 = a15, α 16 = a16, α 17 = a17, α 18 = a18, α 19 = a19, α 20 = a20, α 21 = a21, α 26 = a26, α 27 = a27, α 28 = a28, α 35 = a35, α 36 = a36, α 37 = a37, α 38 = a38, α 39 = a39, α 40 = a40 at *
  subst f1
  subst f2
  subst f3
  subst f4
  subst f5
  subst f6
  subst f8
  omega)
set_option maxRecDepth 1000000 in
theorem k_isSeen {PT : PTy} (hp : HP15 PT) : wfX c_isSeen = true ∧ xcOk PT c_isSeen := xctr (xl (k_runs hp.1.1.1.1.1.1.1.1.1.1) (xl0)) c_isSeen 58 mX7_isSeen rfl h_isSeen (by decide +kernel) (by decide +kernel) (by decide) (vcs_by [w_isSeen_0_0, w_isSeen_0_1] (by decide +kernel) (vc (v_isSeen_0_0 hp) (vc (v_isSeen_0_1 hp) vn))) (fmc (vcs_by [w_isSeen_1_0, w_isSeen_1_1, w_isSeen_1_2, w_isSeen_1_3, w_isSeen_1_4, w_isSeen_1_5, w_isSeen_1_6, w_isSeen_1_7] (by decide +kernel) (vc (v_isSeen_1_0 hp) (vc (v_isSeen_1_1 hp) (vc (v_isSeen_1_2 hp) (vc (v_isSeen_1_3 hp) (vc (v_isSeen_1_4 hp) (vc (v_isSeen_1_5 hp) (vc (v_isSeen_1_6 hp) (vc (v_isSeen_1_7 hp) vn))))))))) fmn)
def c_neverNow : XC := (173, 6, (bY), [.inr (.inl 0)], gY2, [(78, [], [1])], [((bY ++ [((-2147483648), 2147483647), (0, 8), (0, 10), (0, 11), ((-2147483648), 2147483647), ((-2147483648), 2147483647)]), some (.inl (some 13, 0)), (hst gY2 [(0, .inr (.inr (.inr (7, [.inr (.inl 1), .inr (.inl 2), .inl (some 14, 0), .inr (.inl 3), .inr (.inl 4), .inl (some 15, 0), .inr (.inl 5), .inr (.inl 6), .inr (.inl 7), .inr (.inl 8), .inl (some 4, 0), .inr (.inl 9), .inr (.inl 10), .inl (some 5, 0), .inr (.inl 11), .inr (.inl 12), .inr (.inl 13), .inl (some 6, 0), .inr (.inl 14), .inr (.inl 15), .inr (.inl 16), .inl (some 16, 0), .inl (some 4, 0), .inr (.inl 17), .inr (.inl 18), .inl (some 17, 0), .inl (some 18, 0), .inr (.inl 19), .inr (.inl 20), .inr (.inl 21), .inr (.inl 22), .inr (.inl 23), .inr (.inl 24), .inr (.inl 25), .inl (some 7, 0), .inr (.inl 26), .inr (.inl 27), .inr (.inl 28), .inr (.inl 29), .inr (.inl 30), .inr (.inl 31), .inr (.inl 32), .inr (.inl 33), .inr (.inl 34), .inl (some 12, 0)]))))]), [0, 1, 2, 35, 36, 37, 38, 39, 40, 9, 10, 11, 12, 13, 14, 15, 16, 41, 42, 43, 44, 45, 46, 47, 48, 25, 26, 27, 28, 29, 30, 31, 32, 33, 34], 49, [(202, [(some 13, 0), (some 7, 0), (some 14, 0), (some 15, 0), (some 4, 0), (some 5, 0), (some 6, 0)], [1, 2, 35, 36, 37, 38, 39, 40, 41, 42, 9, 10, 11, 12, 13, 14, 15, 16, 26, 27, 28])])])
def h_neverNow : List XH := [(8, (bY ++ [((-2147483648), 2147483647), (0, 8), (0, 8), (0, 10), (0, 11), ((-2147483648), 2147483647), ((-2147483648), 2147483647)]), [some (.inr (.inl 0)), some (.inl (some 13, 0)), some (.inl (some 14, 0))], (hst gY2 [(0, .inr (.inr (.inr (7, [.inr (.inl 1), .inr (.inl 2), .inl (some 15, 0), .inr (.inl 3), .inr (.inl 4), .inl (some 16, 0), .inr (.inl 5), .inr (.inl 6), .inr (.inl 7), .inr (.inl 8), .inl (some 4, 0), .inr (.inl 9), .inr (.inl 10), .inl (some 5, 0), .inr (.inl 11), .inr (.inl 12), .inr (.inl 13), .inl (some 6, 0), .inr (.inl 14), .inr (.inl 15), .inr (.inl 16), .inl (some 17, 0), .inl (some 4, 0), .inr (.inl 17), .inr (.inl 18), .inl (some 18, 0), .inl (some 19, 0), .inr (.inl 19), .inr (.inl 20), .inr (.inl 21), .inr (.inl 22), .inr (.inl 23), .inr (.inl 24), .inr (.inl 25), .inl (some 7, 0), .inr (.inl 26), .inr (.inl 27), .inr (.inl 28), .inr (.inl 29), .inr (.inl 30), .inr (.inl 31), .inr (.inl 32), .inr (.inl 33), .inr (.inl 34), .inl (some 12, 0)]))))]), [0, 1, 2, 35, 36, 37, 38, 39, 40, 9, 10, 11, 12, 13, 14, 15, 16, 41, 42, 43, 44, 45, 46, 47, 48, 25, 26, 27, 28, 29, 30, 31, 32, 33, 34], 49, [(106, [(some 15, 0), (some 16, 0)], [1, 2, 35, 36, 37, 38, 39, 40]), (105, [(some 4, 0)], [9, 10, 41, 42]), (201, [(some 14, 0), (some 13, 0), (some 7, 0), (some 15, 0), (some 16, 0), (some 4, 0), (some 5, 0), (some 6, 0)], [35, 36, 37, 38, 39, 40, 41, 42, 11, 12, 13, 14, 15, 16, 26, 27, 28]), (0, [(some 17, 0), (some 16, 0)], []), (0, [(some 19, 0), (none, 0)], []), (0, [(some 4, 0), (some 4, 0)], []), (3, [(some 4, 0), (some 14, 0)], [])], [(true, (none, 1)), (true, (some 14, 0))])]
def w_neverNow_0_0 : VC := ((bY ++ [(0, 8), (0, 10), (0, 11), ((-2147483648), 2147483647), ((-2147483648), 2147483647)]), [(106, [(some 13, 0), (some 14, 0)], [1, 2, 35, 36, 37, 38, 39, 40]), (105, [(some 4, 0)], [9, 10, 41, 42]), (0, [(some 15, 0), (some 14, 0)], []), (0, [(some 4, 0), (some 4, 0)], []), (0, [(some 16, 0), (none, 0)], []), (0, [(some 17, 0), (none, 0)], []), (78, [], [1])], (201, [(none, 0), (none, 0), (some 7, 0), (some 13, 0), (some 14, 0), (some 4, 0), (some 5, 0), (some 6, 0)], [35, 36, 37, 38, 39, 40, 41, 42, 11, 12, 13, 14, 15, 16, 26, 27, 28]))
set_option maxRecDepth 20000 in
theorem v_neverNow_0_0 {PT : PTy} (hp : HP15 PT) : vcOk PT w_neverNow_0_0 := vc_of (fun ρ α hB hF => by
  obtain ⟨f0, f1, f2, f3, f4, f5, f6, -⟩ := hF
  have e78 : PT 78 = P_ly := hp.1.1.1.1.1.1.1.1.1.1.1.1.1.2.2.2.2.2.2.2.1
  have e105 : PT 105 = P_cp2 := hp.1.1.1.1.1.1.1.1.1.1.2.2.2.2.2.2.2.2.2.2.2.1
  have e106 : PT 106 = P_rd := hp.1.1.1.1.1.1.1.1.1.1.2.2.2.2.2.2.2.2.2.2.2.2.1
  have e201 : PT 201 = P_nyI := hp.2.2.2.2.2.2.2.2.1
  simp only [hF0, hFp_78, hFp_105, hFp_106, hFp_201, e78, e105, e106, e201, P_ly, P_cp2, P_rd, P_nyI, den_s, den_c, Int.add_zero, List.map_cons, List.map_nil] at f0 f1 f2 f3 f4 f5 f6 ⊢
  have b4 : (0 : Int) ≤ ρ 4 ∧ ρ 4 ≤ 8 := hB 4 (0, 8) rfl
  have b5 : (0 : Int) ≤ ρ 5 ∧ ρ 5 ≤ 6 := hB 5 (0, 6) rfl
  have b6 : (0 : Int) ≤ ρ 6 ∧ ρ 6 ≤ 6 := hB 6 (0, 6) rfl
  have b7 : (0 : Int) ≤ ρ 7 ∧ ρ 7 ≤ 8 := hB 7 (0, 8) rfl
  have b13 : (0 : Int) ≤ ρ 13 ∧ ρ 13 ≤ 8 := hB 13 (0, 8) rfl
  have b14 : (0 : Int) ≤ ρ 14 ∧ ρ 14 ≤ 10 := hB 14 (0, 10) rfl
  have b15 : (0 : Int) ≤ ρ 15 ∧ ρ 15 ≤ 11 := hB 15 (0, 11) rfl
  have b16 : ((-2147483648) : Int) ≤ ρ 16 ∧ ρ 16 ≤ 2147483647 := hB 16 ((-2147483648), 2147483647) rfl
  have b17 : ((-2147483648) : Int) ≤ ρ 17 ∧ ρ 17 ≤ 2147483647 := hB 17 ((-2147483648), 2147483647) rfl
  clear hB
  generalize ρ 4 = r4, ρ 5 = r5, ρ 6 = r6, ρ 7 = r7, ρ 13 = r13, ρ 14 = r14, ρ 15 = r15, ρ 16 = r16, ρ 17 = r17, α 1 = a1, α 2 = a2, α 9 = a9, α 10 = a10, α 11 = a11, α 12 = a12, α 13 = a13, α 14 = a14, α 15 = a15, α 16 = a16, α 26 = a26, α 27 = a27, α 28 = a28, α 35 = a35, α 36 = a36, α 37 = a37, α 38 = a38, α 39 = a39, α 40 = a40, α 41 = a41, α 42 = a42 at *
  exact obB_z)
def w_neverNow_0_1 : VC := ((bY ++ [(0, 8), (0, 10), (0, 11), ((-2147483648), 2147483647), ((-2147483648), 2147483647)]), [(106, [(some 13, 0), (some 14, 0)], [1, 2, 35, 36, 37, 38, 39, 40]), (105, [(some 4, 0)], [9, 10, 41, 42]), (0, [(some 15, 0), (some 14, 0)], []), (0, [(some 4, 0), (some 4, 0)], []), (0, [(some 16, 0), (none, 0)], []), (0, [(some 17, 0), (none, 0)], []), (78, [], [1])], (3, [(some 4, 0), (none, 0)], []))
set_option maxRecDepth 20000 in
theorem v_neverNow_0_1 {PT : PTy} (hp : HP15 PT) : vcOk PT w_neverNow_0_1 := vc_of (fun ρ α hB hF => by
  obtain ⟨f0, f1, f2, f3, f4, f5, f6, -⟩ := hF
  have e78 : PT 78 = P_ly := hp.1.1.1.1.1.1.1.1.1.1.1.1.1.2.2.2.2.2.2.2.1
  have e105 : PT 105 = P_cp2 := hp.1.1.1.1.1.1.1.1.1.1.2.2.2.2.2.2.2.2.2.2.2.1
  have e106 : PT 106 = P_rd := hp.1.1.1.1.1.1.1.1.1.1.2.2.2.2.2.2.2.2.2.2.2.2.1
  simp only [hF0, hF3, hFp_78, hFp_105, hFp_106, e78, e105, e106, P_ly, P_cp2, P_rd, den_s, den_c, Int.add_zero, List.map_cons, List.map_nil] at f0 f1 f2 f3 f4 f5 f6 ⊢
  have b4 : (0 : Int) ≤ ρ 4 ∧ ρ 4 ≤ 8 := hB 4 (0, 8) rfl
  have b13 : (0 : Int) ≤ ρ 13 ∧ ρ 13 ≤ 8 := hB 13 (0, 8) rfl
  have b14 : (0 : Int) ≤ ρ 14 ∧ ρ 14 ≤ 10 := hB 14 (0, 10) rfl
  have b15 : (0 : Int) ≤ ρ 15 ∧ ρ 15 ≤ 11 := hB 15 (0, 11) rfl
  have b16 : ((-2147483648) : Int) ≤ ρ 16 ∧ ρ 16 ≤ 2147483647 := hB 16 ((-2147483648), 2147483647) rfl
  have b17 : ((-2147483648) : Int) ≤ ρ 17 ∧ ρ 17 ≤ 2147483647 := hB 17 ((-2147483648), 2147483647) rfl
  clear hB
  generalize ρ 4 = r4, ρ 13 = r13, ρ 14 = r14, ρ 15 = r15, ρ 16 = r16, ρ 17 = r17, α 1 = a1, α 2 = a2, α 9 = a9, α 10 = a10, α 35 = a35, α 36 = a36, α 37 = a37, α 38 = a38, α 39 = a39, α 40 = a40, α 41 = a41, α 42 = a42 at *
  omega)
def w_neverNow_1_0 : VC := ((bY ++ [((-2147483648), 2147483647), (0, 8), (0, 8), (0, 10), (0, 11), ((-2147483648), 2147483647), ((-2147483648), 2147483647)]), [(3, [(some 14, 0), (some 4, 0)], []), (106, [(some 15, 0), (some 16, 0)], [1, 2, 35, 36, 37, 38, 39, 40]), (105, [(some 4, 0)], [9, 10, 41, 42]), (201, [(some 14, 0), (some 13, 0), (some 7, 0), (some 15, 0), (some 16, 0), (some 4, 0), (some 5, 0), (some 6, 0)], [35, 36, 37, 38, 39, 40, 41, 42, 11, 12, 13, 14, 15, 16, 26, 27, 28]), (0, [(some 17, 0), (some 16, 0)], []), (0, [(some 19, 0), (none, 0)], []), (0, [(some 4, 0), (some 4, 0)], []), (3, [(some 4, 0), (some 14, 0)], []), (78, [], [1])], (202, [(some 13, 0), (some 7, 0), (some 15, 0), (some 16, 0), (some 4, 0), (some 5, 0), (some 6, 0)], [1, 2, 35, 36, 37, 38, 39, 40, 41, 42, 9, 10, 11, 12, 13, 14, 15, 16, 26, 27, 28]))
set_option maxRecDepth 20000 in
theorem v_neverNow_1_0 {PT : PTy} (hp : HP15 PT) : vcOk PT w_neverNow_1_0 := vc_of (fun ρ α hB hF => by
  obtain ⟨f0, f1, f2, f3, f4, f5, f6, f7, f8, -⟩ := hF
  have e78 : PT 78 = P_ly := hp.1.1.1.1.1.1.1.1.1.1.1.1.1.2.2.2.2.2.2.2.1
  have e105 : PT 105 = P_cp2 := hp.1.1.1.1.1.1.1.1.1.1.2.2.2.2.2.2.2.2.2.2.2.1
  have e106 : PT 106 = P_rd := hp.1.1.1.1.1.1.1.1.1.1.2.2.2.2.2.2.2.2.2.2.2.2.1
  have e201 : PT 201 = P_nyI := hp.2.2.2.2.2.2.2.2.1
  have e202 : PT 202 = P_onvY := hp.2.2.2.2.2.2.2.2.2.1
  simp only [hF0, hF3, hFp_78, hFp_105, hFp_106, hFp_201, hFp_202, e78, e105, e106, e201, e202, P_ly, P_cp2, P_rd, P_nyI, P_onvY, den_s, den_c, Int.add_zero, List.map_cons, List.map_nil] at f0 f1 f2 f3 f4 f5 f6 f7 f8 ⊢
  have b4 : (0 : Int) ≤ ρ 4 ∧ ρ 4 ≤ 8 := hB 4 (0, 8) rfl
  have b5 : (0 : Int) ≤ ρ 5 ∧ ρ 5 ≤ 6 := hB 5 (0, 6) rfl
  have b6 : (0 : Int) ≤ ρ 6 ∧ ρ 6 ≤ 6 := hB 6 (0, 6) rfl
  have b7 : (0 : Int) ≤ ρ 7 ∧ ρ 7 ≤ 8 := hB 7 (0, 8) rfl
  have b13 : ((-2147483648) : Int) ≤ ρ 13 ∧ ρ 13 ≤ 2147483647 := hB 13 ((-2147483648), 2147483647) rfl
  have b14 : (0 : Int) ≤ ρ 14 ∧ ρ 14 ≤ 8 := hB 14 (0, 8) rfl
  have b15 : (0 : Int) ≤ ρ 15 ∧ ρ 15 ≤ 8 := hB 15 (0, 8) rfl
  have b16 : (0 : Int) ≤ ρ 16 ∧ ρ 16 ≤ 10 := hB 16 (0, 10) rfl
  have b17 : (0 : Int) ≤ ρ 17 ∧ ρ 17 ≤ 11 := hB 17 (0, 11) rfl
  have b19 : ((-2147483648) : Int) ≤ ρ 19 ∧ ρ 19 ≤ 2147483647 := hB 19 ((-2147483648), 2147483647) rfl
  clear hB
  generalize ρ 4 = r4, ρ 5 = r5, ρ 6 = r6, ρ 7 = r7, ρ 13 = r13, ρ 14 = r14, ρ 15 = r15, ρ 16 = r16, ρ 17 = r17, ρ 19 = r19, α 1 = a1, α 2 = a2, α 9 = a9, α 10 = a10, α 11 = a11, α 12 = a12, α 13 = a13, α 14 = a14, α 15 = a15, α 16 = a16, α 26 = a26, α 27 = a27, α 28 = a28, α 35 = a35, α 36 = a36, α 37 = a37, α 38 = a38, α 39 = a39, α 40 = a40, α 41 = a41, α 42 = a42 at *
  have hh := f3
  rw [show r14 = r4 by omega] at hh
  exact ⟨⟨f1, f2⟩, hh⟩)
def w_neverNow_1_1 : VC := (([(0, 23), (0, 49), (0, 8), (0, 10), (1, 8), (0, 6), (0, 6), (0, 8), (0, 11), (0, 9), ((-2147483648), 2147483647), ((-2147483648), 2147483647), (0, 5), ((-2147483648), 2147483647), (0, 7), (0, 8), (0, 10), (0, 11), ((-2147483648), 2147483647), ((-2147483648), 2147483647), (1, 128), (0, 0), ((-2147483648), 2147483647)]), [(11, [(some 22, 0), (some 13, 0), (none, 0)], []), (0, [(some 21, 0), (none, 0)], []), (104, [(none, 24), (some 15, 0), (some 17, 0), (some 16, 0), (some 4, 0), (some 5, 0), (some 6, 0), (some 20, 0), (some 19, 0)], [35, 36, 37, 38, 39, 40, 41, 42, 11, 12, 13, 14, 15, 16, 43, 44, 45, 49, 50, 51, 52, 53, 54]), (200, [(some 21, 0), (some 7, 0), (some 15, 0)], [26, 27, 28, 52]), (13, [(some 20, 0), (none, 1), (some 14, 0)], []), (2, [(some 14, 0), (some 4, 0)], []), (106, [(some 15, 0), (some 16, 0)], [1, 2, 35, 36, 37, 38, 39, 40]), (105, [(some 4, 0)], [9, 10, 41, 42]), (201, [(some 14, 0), (some 13, 0), (some 7, 0), (some 15, 0), (some 16, 0), (some 4, 0), (some 5, 0), (some 6, 0)], [35, 36, 37, 38, 39, 40, 41, 42, 11, 12, 13, 14, 15, 16, 26, 27, 28]), (0, [(some 17, 0), (some 16, 0)], []), (0, [(some 19, 0), (none, 0)], []), (0, [(some 4, 0), (some 4, 0)], []), (3, [(some 4, 0), (some 14, 0)], []), (78, [], [1])], (201, [(some 14, 1), (some 22, 0), (some 7, 0), (some 15, 0), (some 16, 0), (some 4, 0), (some 5, 0), (some 6, 0)], [35, 36, 37, 38, 39, 40, 41, 42, 11, 12, 13, 14, 15, 16, 26, 27, 28]))
set_option maxRecDepth 20000 in
theorem v_neverNow_1_1 {PT : PTy} (hp : HP15 PT) : vcOk PT w_neverNow_1_1 := vc_of (fun ρ α hB hF => by
  obtain ⟨f0, f1, f2, f3, f4, f5, f6, f7, f8, f9, f10, f11, f12, f13, -⟩ := hF
  have e78 : PT 78 = P_ly := hp.1.1.1.1.1.1.1.1.1.1.1.1.1.2.2.2.2.2.2.2.1
  have e104 : PT 104 = P_ru := hp.1.1.1.1.1.1.1.1.1.1.2.2.2.2.2.2.2.2.2.2.1
  have e105 : PT 105 = P_cp2 := hp.1.1.1.1.1.1.1.1.1.1.2.2.2.2.2.2.2.2.2.2.2.1
  have e106 : PT 106 = P_rd := hp.1.1.1.1.1.1.1.1.1.1.2.2.2.2.2.2.2.2.2.2.2.2.1
  have e200 : PT 200 = P_sy := hp.2.2.2.2.2.2.2.1
  have e201 : PT 201 = P_nyI := hp.2.2.2.2.2.2.2.2.1
  simp only [hF0, hF2, hF3, hF11, hF13, hFp_78, hFp_104, hFp_105, hFp_106, hFp_200, hFp_201, e78, e104, e105, e106, e200, e201, P_ly, P_ru, P_cp2, P_rd, P_sy, P_nyI, den_s, den_c, Int.add_zero, List.map_cons, List.map_nil] at f0 f1 f2 f3 f4 f5 f6 f7 f8 f9 f10 f11 f12 f13 ⊢
  have b4 : (1 : Int) ≤ ρ 4 ∧ ρ 4 ≤ 8 := hB 4 (1, 8) rfl
  have b5 : (0 : Int) ≤ ρ 5 ∧ ρ 5 ≤ 6 := hB 5 (0, 6) rfl
  have b6 : (0 : Int) ≤ ρ 6 ∧ ρ 6 ≤ 6 := hB 6 (0, 6) rfl
  have b7 : (0 : Int) ≤ ρ 7 ∧ ρ 7 ≤ 8 := hB 7 (0, 8) rfl
  have b13 : ((-2147483648) : Int) ≤ ρ 13 ∧ ρ 13 ≤ 2147483647 := hB 13 ((-2147483648), 2147483647) rfl
  have b14 : (0 : Int) ≤ ρ 14 ∧ ρ 14 ≤ 7 := hB 14 (0, 7) rfl
  have b15 : (0 : Int) ≤ ρ 15 ∧ ρ 15 ≤ 8 := hB 15 (0, 8) rfl
  have b16 : (0 : Int) ≤ ρ 16 ∧ ρ 16 ≤ 10 := hB 16 (0, 10) rfl
  have b17 : (0 : Int) ≤ ρ 17 ∧ ρ 17 ≤ 11 := hB 17 (0, 11) rfl
  have b19 : ((-2147483648) : Int) ≤ ρ 19 ∧ ρ 19 ≤ 2147483647 := hB 19 ((-2147483648), 2147483647) rfl
  have b20 : (1 : Int) ≤ ρ 20 ∧ ρ 20 ≤ 128 := hB 20 (1, 128) rfl
  have b21 : (0 : Int) ≤ ρ 21 ∧ ρ 21 ≤ 0 := hB 21 (0, 0) rfl
  have b22 : ((-2147483648) : Int) ≤ ρ 22 ∧ ρ 22 ≤ 2147483647 := hB 22 ((-2147483648), 2147483647) rfl
  clear hB
  generalize ρ 4 = r4, ρ 5 = r5, ρ 6 = r6, ρ 7 = r7, ρ 13 = r13, ρ 14 = r14, ρ 15 = r15, ρ 16 = r16, ρ 17 = r17, ρ 19 = r19, ρ 20 = r20, ρ 21 = r21, ρ 22 = r22, α 1 = a1, α 2 = a2, α 9 = a9, α 10 = a10, α 11 = a11, α 12 = a12, α 13 = a13, α 14 = a14, α 15 = a15, α 16 = a16, α 26 = a26, α 27 = a27, α 28 = a28, α 35 = a35, α 36 = a36, α 37 = a37, α 38 = a38, α 39 = a39, α 40 = a40, α 41 = a41, α 42 = a42, α 43 = a43, α 44 = a44, α 45 = a45, α 49 = a49, α 50 = a50, α 51 = a51, α 52 = a52, α 53 = a53, α 54 = a54 at *
  subst f0
  subst f4
  obtain ⟨h1, h2⟩ := f2
  have e1 : r17 = r16 := by omega
  have e3 : r19 = 0 := by omega
  have e4 : r4 = r4 := by omega
  rw [e1, e3, e4] at h1 h2
  have hs := f3
  first
    | exact obB_s f8 (by omega) ⟨_, _, _, _, _, _, ⟨_, _, _, h1, h2⟩, hs⟩ (by rw [if_pos (by omega)])
    | exact obB_s f8 (by omega) ⟨_, _, _, _, _, _, ⟨_, _, _, h1, h2⟩, hs⟩ (by rw [if_neg (by omega)]; exact mOr_0 (by omega) (by omega)))
def w_neverNow_1_2 : VC := (([(0, 23), (0, 49), (0, 8), (0, 10), (1, 8), (0, 6), (0, 6), (0, 8), (0, 11), (0, 9), ((-2147483648), 2147483647), ((-2147483648), 2147483647), (0, 5), ((-2147483648), 2147483647), (0, 7), (0, 8), (0, 10), (0, 11), ((-2147483648), 2147483647), ((-2147483648), 2147483647), (1, 128), (0, 0), ((-2147483648), 2147483647)]), [(11, [(some 22, 0), (some 13, 0), (none, 0)], []), (0, [(some 21, 0), (none, 0)], []), (104, [(none, 24), (some 15, 0), (some 17, 0), (some 16, 0), (some 4, 0), (some 5, 0), (some 6, 0), (some 20, 0), (some 19, 0)], [35, 36, 37, 38, 39, 40, 41, 42, 11, 12, 13, 14, 15, 16, 43, 44, 45, 49, 50, 51, 52, 53, 54]), (200, [(some 21, 0), (some 7, 0), (some 15, 0)], [26, 27, 28, 52]), (13, [(some 20, 0), (none, 1), (some 14, 0)], []), (2, [(some 14, 0), (some 4, 0)], []), (106, [(some 15, 0), (some 16, 0)], [1, 2, 35, 36, 37, 38, 39, 40]), (105, [(some 4, 0)], [9, 10, 41, 42]), (201, [(some 14, 0), (some 13, 0), (some 7, 0), (some 15, 0), (some 16, 0), (some 4, 0), (some 5, 0), (some 6, 0)], [35, 36, 37, 38, 39, 40, 41, 42, 11, 12, 13, 14, 15, 16, 26, 27, 28]), (0, [(some 17, 0), (some 16, 0)], []), (0, [(some 19, 0), (none, 0)], []), (0, [(some 4, 0), (some 4, 0)], []), (3, [(some 4, 0), (some 14, 0)], []), (78, [], [1])], (3, [(some 4, 0), (some 14, 1)], []))
set_option maxRecDepth 20000 in
theorem v_neverNow_1_2 {PT : PTy} (hp : HP15 PT) : vcOk PT w_neverNow_1_2 := vc_of (fun ρ α hB hF => by
  obtain ⟨f0, f1, f2, f3, f4, f5, f6, f7, f8, f9, f10, f11, f12, f13, -⟩ := hF
  have e78 : PT 78 = P_ly := hp.1.1.1.1.1.1.1.1.1.1.1.1.1.2.2.2.2.2.2.2.1
  have e104 : PT 104 = P_ru := hp.1.1.1.1.1.1.1.1.1.1.2.2.2.2.2.2.2.2.2.2.1
  have e105 : PT 105 = P_cp2 := hp.1.1.1.1.1.1.1.1.1.1.2.2.2.2.2.2.2.2.2.2.2.1
  have e106 : PT 106 = P_rd := hp.1.1.1.1.1.1.1.1.1.1.2.2.2.2.2.2.2.2.2.2.2.2.1
  have e200 : PT 200 = P_sy := hp.2.2.2.2.2.2.2.1
  have e201 : PT 201 = P_nyI := hp.2.2.2.2.2.2.2.2.1
  simp only [hF0, hF2, hF3, hF11, hF13, hFp_78, hFp_104, hFp_105, hFp_106, hFp_200, hFp_201, e78, e104, e105, e106, e200, e201, P_ly, P_ru, P_cp2, P_rd, P_sy, P_nyI, den_s, den_c, Int.add_zero, List.map_cons, List.map_nil] at f0 f1 f2 f3 f4 f5 f6 f7 f8 f9 f10 f11 f12 f13 ⊢
  have b4 : (1 : Int) ≤ ρ 4 ∧ ρ 4 ≤ 8 := hB 4 (1, 8) rfl
  have b5 : (0 : Int) ≤ ρ 5 ∧ ρ 5 ≤ 6 := hB 5 (0, 6) rfl
  have b6 : (0 : Int) ≤ ρ 6 ∧ ρ 6 ≤ 6 := hB 6 (0, 6) rfl
  have b7 : (0 : Int) ≤ ρ 7 ∧ ρ 7 ≤ 8 := hB 7 (0, 8) rfl
  have b13 : ((-2147483648) : Int) ≤ ρ 13 ∧ ρ 13 ≤ 2147483647 := hB 13 ((-2147483648), 2147483647) rfl
  have b14 : (0 : Int) ≤ ρ 14 ∧ ρ 14 ≤ 7 := hB 14 (0, 7) rfl
  have b15 : (0 : Int) ≤ ρ 15 ∧ ρ 15 ≤ 8 := hB 15 (0, 8) rfl
  have b16 : (0 : Int) ≤ ρ 16 ∧ ρ 16 ≤ 10 := hB 16 (0, 10) rfl
  have b17 : (0 : Int) ≤ ρ 17 ∧ ρ 17 ≤ 11 := hB 17 (0, 11) rfl
  have b19 : ((-2147483648) : Int) ≤ ρ 19 ∧ ρ 19 ≤ 2147483647 := hB 19 ((-2147483648), 2147483647) rfl
  have b20 : (1 : Int) ≤ ρ 20 ∧ ρ 20 ≤ 128 := hB 20 (1, 128) rfl
  have b21 : (0 : Int) ≤ ρ 21 ∧ ρ 21 ≤ 0 := hB 21 (0, 0) rfl
  have b22 : ((-2147483648) : Int) ≤ ρ 22 ∧ ρ 22 ≤ 2147483647 := hB 22 ((-2147483648), 2147483647) rfl
  clear hB
  generalize ρ 4 = r4, ρ 5 = r5, ρ 6 = r6, ρ 7 = r7, ρ 13 = r13, ρ 14 = r14, ρ 15 = r15, ρ 16 = r16, ρ 17 = r17, ρ 19 = r19, ρ 20 = r20, ρ 21 = r21, ρ 22 = r22, α 1 = a1, α 2 = a2, α 9 = a9, α 10 = a10, α 11 = a11, α 12 = a12, α 13 = a13, α 14 = a14, α 15 = a15, α 16 = a16, α 26 = a26, α 27 = a27, α 28 = a28, α 35 = a35, α 36 = a36, α 37 = a37, α 38 = a38, α 39 = a39, α 40 = a40, α 41 = a41, α 42 = a42, α 43 = a43, α 44 = a44, α 45 = a45, α 49 = a49, α 50 = a50, α 51 = a51, α 52 = a52, α 53 = a53, α 54 = a54 at *
  subst f0
  subst f4
  omega)
def w_neverNow_1_3 : VC := (([(0, 23), (0, 49), (0, 8), (0, 10), (1, 8), (0, 6), (0, 6), (0, 8), (0, 11), (0, 9), ((-2147483648), 2147483647), ((-2147483648), 2147483647), (0, 5), ((-2147483648), 2147483647), (0, 7), (0, 8), (0, 10), (0, 11), ((-2147483648), 2147483647), ((-2147483648), 2147483647), (1, 128), (1, 1), (1, 128), ((-2147483648), 2147483647)]), [(11, [(some 23, 0), (some 13, 0), (some 22, 0)], []), (13, [(some 22, 0), (none, 1), (some 14, 0)], []), (1, [(some 21, 0), (none, 0)], []), (104, [(none, 24), (some 15, 0), (some 17, 0), (some 16, 0), (some 4, 0), (some 5, 0), (some 6, 0), (some 20, 0), (some 19, 0)], [35, 36, 37, 38, 39, 40, 41, 42, 11, 12, 13, 14, 15, 16, 43, 44, 45, 49, 50, 51, 52, 53, 54]), (200, [(some 21, 0), (some 7, 0), (some 15, 0)], [26, 27, 28, 52]), (13, [(some 20, 0), (none, 1), (some 14, 0)], []), (2, [(some 14, 0), (some 4, 0)], []), (106, [(some 15, 0), (some 16, 0)], [1, 2, 35, 36, 37, 38, 39, 40]), (105, [(some 4, 0)], [9, 10, 41, 42]), (201, [(some 14, 0), (some 13, 0), (some 7, 0), (some 15, 0), (some 16, 0), (some 4, 0), (some 5, 0), (some 6, 0)], [35, 36, 37, 38, 39, 40, 41, 42, 11, 12, 13, 14, 15, 16, 26, 27, 28]), (0, [(some 17, 0), (some 16, 0)], []), (0, [(some 19, 0), (none, 0)], []), (0, [(some 4, 0), (some 4, 0)], []), (3, [(some 4, 0), (some 14, 0)], []), (78, [], [1])], (201, [(some 14, 1), (some 23, 0), (some 7, 0), (some 15, 0), (some 16, 0), (some 4, 0), (some 5, 0), (some 6, 0)], [35, 36, 37, 38, 39, 40, 41, 42, 11, 12, 13, 14, 15, 16, 26, 27, 28]))
set_option maxRecDepth 20000 in
theorem v_neverNow_1_3 {PT : PTy} (hp : HP15 PT) : vcOk PT w_neverNow_1_3 := vc_of (fun ρ α hB hF => by
  obtain ⟨f0, f1, -, f3, f4, f5, f6, f7, f8, f9, f10, f11, f12, f13, f14, -⟩ := hF
  have e78 : PT 78 = P_ly := hp.1.1.1.1.1.1.1.1.1.1.1.1.1.2.2.2.2.2.2.2.1
  have e104 : PT 104 = P_ru := hp.1.1.1.1.1.1.1.1.1.1.2.2.2.2.2.2.2.2.2.2.1
  have e105 : PT 105 = P_cp2 := hp.1.1.1.1.1.1.1.1.1.1.2.2.2.2.2.2.2.2.2.2.2.1
  have e106 : PT 106 = P_rd := hp.1.1.1.1.1.1.1.1.1.1.2.2.2.2.2.2.2.2.2.2.2.2.1
  have e200 : PT 200 = P_sy := hp.2.2.2.2.2.2.2.1
  have e201 : PT 201 = P_nyI := hp.2.2.2.2.2.2.2.2.1
  simp only [hF0, hF2, hF3, hF11, hF13, hFp_78, hFp_104, hFp_105, hFp_106, hFp_200, hFp_201, e78, e104, e105, e106, e200, e201, P_ly, P_ru, P_cp2, P_rd, P_sy, P_nyI, den_s, den_c, Int.add_zero, List.map_cons, List.map_nil] at f0 f1 f3 f4 f5 f6 f7 f8 f9 f10 f11 f12 f13 f14 ⊢
  have b4 : (1 : Int) ≤ ρ 4 ∧ ρ 4 ≤ 8 := hB 4 (1, 8) rfl
  have b5 : (0 : Int) ≤ ρ 5 ∧ ρ 5 ≤ 6 := hB 5 (0, 6) rfl
  have b6 : (0 : Int) ≤ ρ 6 ∧ ρ 6 ≤ 6 := hB 6 (0, 6) rfl
  have b7 : (0 : Int) ≤ ρ 7 ∧ ρ 7 ≤ 8 := hB 7 (0, 8) rfl
  have b13 : ((-2147483648) : Int) ≤ ρ 13 ∧ ρ 13 ≤ 2147483647 := hB 13 ((-2147483648), 2147483647) rfl
  have b14 : (0 : Int) ≤ ρ 14 ∧ ρ 14 ≤ 7 := hB 14 (0, 7) rfl
  have b15 : (0 : Int) ≤ ρ 15 ∧ ρ 15 ≤ 8 := hB 15 (0, 8) rfl
  have b16 : (0 : Int) ≤ ρ 16 ∧ ρ 16 ≤ 10 := hB 16 (0, 10) rfl
  have b17 : (0 : Int) ≤ ρ 17 ∧ ρ 17 ≤ 11 := hB 17 (0, 11) rfl
  have b19 : ((-2147483648) : Int) ≤ ρ 19 ∧ ρ 19 ≤ 2147483647 := hB 19 ((-2147483648), 2147483647) rfl
  have b20 : (1 : Int) ≤ ρ 20 ∧ ρ 20 ≤ 128 := hB 20 (1, 128) rfl
  have b21 : (1 : Int) ≤ ρ 21 ∧ ρ 21 ≤ 1 := hB 21 (1, 1) rfl
  have b22 : (1 : Int) ≤ ρ 22 ∧ ρ 22 ≤ 128 := hB 22 (1, 128) rfl
  have b23 : ((-2147483648) : Int) ≤ ρ 23 ∧ ρ 23 ≤ 2147483647 := hB 23 ((-2147483648), 2147483647) rfl
  clear hB
  generalize ρ 4 = r4, ρ 5 = r5, ρ 6 = r6, ρ 7 = r7, ρ 13 = r13, ρ 14 = r14, ρ 15 = r15, ρ 16 = r16, ρ 17 = r17, ρ 19 = r19, ρ 20 = r20, ρ 21 = r21, ρ 22 = r22, ρ 23 = r23, α 1 = a1, α 2 = a2, α 9 = a9, α 10 = a10, α 11 = a11, α 12 = a12, α 13 = a13, α 14 = a14, α 15 = a15, α 16 = a16, α 26 = a26, α 27 = a27, α 28 = a28, α 35 = a35, α 36 = a36, α 37 = a37, α 38 = a38, α 39 = a39, α 40 = a40, α 41 = a41, α 42 = a42, α 43 = a43, α 44 = a44, α 45 = a45, α 49 = a49, α 50 = a50, α 51 = a51, α 52 = a52, α 53 = a53, α 54 = a54 at *
  subst f0
  subst f1
  subst f5
  obtain ⟨h1, h2⟩ := f3
  have e1 : r17 = r16 := by omega
  have e3 : r19 = 0 := by omega
  have e4 : r4 = r4 := by omega
  rw [e1, e3, e4] at h1 h2
  have hs := f4
  first
    | exact obB_s f9 (by omega) ⟨_, _, _, _, _, _, ⟨_, _, _, h1, h2⟩, hs⟩ (by rw [if_pos (by omega)])
    | exact obB_s f9 (by omega) ⟨_, _, _, _, _, _, ⟨_, _, _, h1, h2⟩, hs⟩ (by rw [if_neg (by omega)]; exact mOr_0 (by omega) (by omega)))
def w_neverNow_1_4 : VC := (([(0, 23), (0, 49), (0, 8), (0, 10), (1, 8), (0, 6), (0, 6), (0, 8), (0, 11), (0, 9), ((-2147483648), 2147483647), ((-2147483648), 2147483647), (0, 5), ((-2147483648), 2147483647), (0, 7), (0, 8), (0, 10), (0, 11), ((-2147483648), 2147483647), ((-2147483648), 2147483647), (1, 128), (1, 1), (1, 128), ((-2147483648), 2147483647)]), [(11, [(some 23, 0), (some 13, 0), (some 22, 0)], []), (13, [(some 22, 0), (none, 1), (some 14, 0)], []), (1, [(some 21, 0), (none, 0)], []), (104, [(none, 24), (some 15, 0), (some 17, 0), (some 16, 0), (some 4, 0), (some 5, 0), (some 6, 0), (some 20, 0), (some 19, 0)], [35, 36, 37, 38, 39, 40, 41, 42, 11, 12, 13, 14, 15, 16, 43, 44, 45, 49, 50, 51, 52, 53, 54]), (200, [(some 21, 0), (some 7, 0), (some 15, 0)], [26, 27, 28, 52]), (13, [(some 20, 0), (none, 1), (some 14, 0)], []), (2, [(some 14, 0), (some 4, 0)], []), (106, [(some 15, 0), (some 16, 0)], [1, 2, 35, 36, 37, 38, 39, 40]), (105, [(some 4, 0)], [9, 10, 41, 42]), (201, [(some 14, 0), (some 13, 0), (some 7, 0), (some 15, 0), (some 16, 0), (some 4, 0), (some 5, 0), (some 6, 0)], [35, 36, 37, 38, 39, 40, 41, 42, 11, 12, 13, 14, 15, 16, 26, 27, 28]), (0, [(some 17, 0), (some 16, 0)], []), (0, [(some 19, 0), (none, 0)], []), (0, [(some 4, 0), (some 4, 0)], []), (3, [(some 4, 0), (some 14, 0)], []), (78, [], [1])], (3, [(some 4, 0), (some 14, 1)], []))
set_option maxRecDepth 20000 in
theorem v_neverNow_1_4 {PT : PTy} (hp : HP15 PT) : vcOk PT w_neverNow_1_4 := vc_of (fun ρ α hB hF => by
  obtain ⟨f0, f1, -, f3, f4, f5, f6, f7, f8, f9, f10, f11, f12, f13, f14, -⟩ := hF
  have e78 : PT 78 = P_ly := hp.1.1.1.1.1.1.1.1.1.1.1.1.1.2.2.2.2.2.2.2.1
  have e104 : PT 104 = P_ru := hp.1.1.1.1.1.1.1.1.1.1.2.2.2.2.2.2.2.2.2.2.1
  have e105 : PT 105 = P_cp2 := hp.1.1.1.1.1.1.1.1.1.1.2.2.2.2.2.2.2.2.2.2.2.1
  have e106 : PT 106 = P_rd := hp.1.1.1.1.1.1.1.1.1.1.2.2.2.2.2.2.2.2.2.2.2.2.1
  have e200 : PT 200 = P_sy := hp.2.2.2.2.2.2.2.1
  have e201 : PT 201 = P_nyI := hp.2.2.2.2.2.2.2.2.1
  simp only [hF0, hF2, hF3, hF11, hF13, hFp_78, hFp_104, hFp_105, hFp_106, hFp_200, hFp_201, e78, e104, e105, e106, e200, e201, P_ly, P_ru, P_cp2, P_rd, P_sy, P_nyI, den_s, den_c, Int.add_zero, List.map_cons, List.map_nil] at f0 f1 f3 f4 f5 f6 f7 f8 f9 f10 f11 f12 f13 f14 ⊢
  have b4 : (1 : Int) ≤ ρ 4 ∧ ρ 4 ≤ 8 := hB 4 (1, 8) rfl
  have b5 : (0 : Int) ≤ ρ 5 ∧ ρ 5 ≤ 6 := hB 5 (0, 6) rfl
  have b6 : (0 : Int) ≤ ρ 6 ∧ ρ 6 ≤ 6 := hB 6 (0, 6) rfl
  have b7 : (0 : Int) ≤ ρ 7 ∧ ρ 7 ≤ 8 := hB 7 (0, 8) rfl
  have b13 : ((-2147483648) : Int) ≤ ρ 13 ∧ ρ 13 ≤ 2147483647 := hB 13 ((-2147483648), 2147483647) rfl
  have b14 : (0 : Int) ≤ ρ 14 ∧ ρ 14 ≤ 7 := hB 14 (0, 7) rfl
  have b15 : (0 : Int) ≤ ρ 15 ∧ ρ 15 ≤ 8 := hB 15 (0, 8) rfl
  have b16 : (0 : Int) ≤ ρ 16 ∧ ρ 16 ≤ 10 := hB 16 (0, 10) rfl
  have b17 : (0 : Int) ≤ ρ 17 ∧ ρ 17 ≤ 11 := hB 17 (0, 11) rfl
  have b19 : ((-2147483648) : Int) ≤ ρ 19 ∧ ρ 19 ≤ 2147483647 := hB 19 ((-2147483648), 2147483647) rfl
  have b20 : (1 : Int) ≤ ρ 20 ∧ ρ 20 ≤ 128 := hB 20 (1, 128) rfl
  have b21 : (1 : Int) ≤ ρ 21 ∧ ρ 21 ≤ 1 := hB 21 (1, 1) rfl
  have b22 : (1 : Int) ≤ ρ 22 ∧ ρ 22 ≤ 128 := hB 22 (1, 128) rfl
  have b23 : ((-2147483648) : Int) ≤ ρ 23 ∧ ρ 23 ≤ 2147483647 := hB 23 ((-2147483648), 2147483647) rfl
  clear hB
  generalize ρ 4 = r4, ρ 5 = r5, ρ 6 = r6, ρ 7 = r7, ρ 13 = r13, ρ 14 = r14, ρ 15 = r15, ρ 16 = r16, ρ 17 = r17, ρ 19 = r19, ρ 20 = r20, ρ 21 = r21, ρ 22 = r22, ρ 23 = r23, α 1 = a1, α 2 = a2, α 9 = a9, α 10 = a10, α 11 = a11, α 12 = a12, α 13 = a13, α 14 = a14, α 15 = a15, α 16 = a16, α 26 = a26, α 27 = a27, α 28 = a28, α 35 = a35, α 36 = a36, α 37 = a37, α 38 = a38, α 39 = a39, α 40 = a40, α 41 = a41, α 42 = a42, α 43 = a43, α 44 = a44, α 45 = a45, α 49 = a49, α 50 = a50, α 51 = a51, α 52 = a52, α 53 = a53, α 54 = a54 at *
  subst f0
  subst f1
  subst f5
  omega)
set_option maxRecDepth 1000000 in
theorem k_neverNow {PT : PTy} (hp : HP15 PT) : wfX c_neverNow = true ∧ xcOk PT c_neverNow := xctr (xl (k_asTold hp.1.1.1.1.1.1.1.1.1.1) (xl (k_isSeen hp) (xl0))) c_neverNow 42 mX7_neverNow rfl h_neverNow (by decide +kernel) (by decide +kernel) (by decide) (vcs_by [w_neverNow_0_0, w_neverNow_0_1] (by decide +kernel) (vc (v_neverNow_0_0 hp) (vc (v_neverNow_0_1 hp) vn))) (fmc (vcs_by [w_neverNow_1_0, w_neverNow_1_1, w_neverNow_1_2, w_neverNow_1_3, w_neverNow_1_4] (by decide +kernel) (vc (v_neverNow_1_0 hp) (vc (v_neverNow_1_1 hp) (vc (v_neverNow_1_2 hp) (vc (v_neverNow_1_3 hp) (vc (v_neverNow_1_4 hp) vn)))))) fmn)
