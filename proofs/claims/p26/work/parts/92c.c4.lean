/-! ===== the class: its course; printed by wip/gen/x ===== -/
def P_bits (l : List Int) (a : List (Int → Int)) : Prop := match l, a with
  | [r, n], [L, Z] => r = foldI (fun i b => if L i - Z i = 0 ∨ L i - Z i = 1 then mOr b (mShl 1 i) else b) 0 n.toNat
  | _, _ => False
theorem hFp_92 {PT : PTy} {ρ : Nat → Int} {α : Nat → Int → Int} (l : List AN) (a : List Nat) : hF PT ρ α (92, l, a) = PT 92 (l.map (den ρ)) (a.map α) := rfl
def P_nkd (l : List Int) (a : List (Int → Int)) : Prop := match l, a with
  | [r, n], [L] => r = foldI (fun i b => if L i = 0 then mOr b (mShl 1 i) else b) 0 n.toNat
  | _, _ => False
theorem hFp_93 {PT : PTy} {ρ : Nat → Int} {α : Nat → Int → Int} (l : List AN) (a : List Nat) : hF PT ρ α (93, l, a) = PT 93 (l.map (den ρ)) (a.map α) := rfl
def P_rps (l : List Int) (a : List (Int → Int)) : Prop := match l, a with
  | [r, n], [t] => r = foldI (fun i b => mAdd b (t i)) 0 n.toNat
  | _, _ => False
theorem hFp_94 {PT : PTy} {ρ : Nat → Int} {α : Nat → Int → Int} (l : List AN) (a : List Nat) : hF PT ρ α (94, l, a) = PT 94 (l.map (den ρ)) (a.map α) := rfl
def HP4 (PT : PTy) : Prop := HP3 PT ∧ (PT 92 = P_bits ∧ PT 93 = P_nkd ∧ PT 94 = P_rps ∧ True)
def c_fill29_14 : XC := (202, 0, (bX), [.inr (.inl 29), .inl (none, 0)], (gX 14), [], [((bX), none, (gX 14), (ansT 58 [(29, 58)]), 59, [(88, [(none, 0), (none, 8)], [58])])])
def h_fill29_14 : List XH := [(5, (bX ++ [(0, 8)]), [some (.inr (.inl 29)), some (.inl (none, 0)), some (.inl (some 14, 0)), some (.inl (none, 8))], (gX 14), (ansT 58 [(29, 58)]), 59, [(88, [(none, 0), (some 14, 0)], [58])], [(true, (none, 1)), (true, (some 14, 0))])]
def w_fill29_14_0_0 : VC := ((bX), [], (88, [(none, 0), (none, 0)], [29]))
theorem pe88_4 {PT : PTy} (hp : HP4 PT) : PT 88 = P_fil := hp.1.2.2.2.2.2.2.2.2.2.1
set_option maxRecDepth 20000 in
theorem v_fill29_14_0_0 {PT : PTy} (hp : HP4 PT) : vcOk PT w_fill29_14_0_0 := vc_in [] (by decide +kernel) (fun ρ α => by
  intro tt
  have e88 : PT 88 = P_fil := pe88_4 hp
  simp only [hFp_88, e88, P_fil, den_s, den_c, Int.add_zero, List.map_cons, List.map_nil] at ⊢
  intro i h1 h2; omega)
def w_fill29_14_1_0 : VC := ((bX ++ [(8, 8)]), [(3, [(some 14, 0), (none, 8)], []), (88, [(none, 0), (some 14, 0)], [58])], (88, [(none, 0), (none, 8)], [58]))
set_option maxRecDepth 20000 in
theorem v_fill29_14_1_0 {PT : PTy} (hp : HP4 PT) : vcOk PT w_fill29_14_1_0 := vc_iv [(14, 8, 8)] [58] (by decide +kernel) (fun ρ α => by
  intro r14 g14 b14 a58 h58 f0 f1 tt
  clear f0
  have e88 : PT 88 = P_fil := pe88_4 hp
  simp only [hFp_88, e88, P_fil, den_s, den_c, Int.add_zero, List.map_cons, List.map_nil, g14.eq, h58] at f1 ⊢
  first
    | (intro i h1 h2; exact f1 i h1 (by omega))
    | (intro i h1 h2; by_cases q : i = r14; (rw [q, updI_at]); (rw [updI_ne q]; exact f1 i h1 (by omega))))
def w_fill29_14_1_1 : VC := ((bX ++ [(0, 7)]), [(21, [(some 14, 0), (none, 0)], [59, 58]), (2, [(some 14, 0), (none, 8)], []), (88, [(none, 0), (some 14, 0)], [58])], (88, [(none, 0), (some 14, 1)], [59]))
set_option maxRecDepth 20000 in
theorem v_fill29_14_1_1 {PT : PTy} (hp : HP4 PT) : vcOk PT w_fill29_14_1_1 := vc_iv [(14, 0, 7)] [58, 59] (by decide +kernel) (fun ρ α => by
  intro r14 g14 b14 a58 h58 a59 h59 f0 f1 f2 tt
  clear f1
  have e88 : PT 88 = P_fil := pe88_4 hp
  simp only [hF21, hFp_88, e88, P_fil, den_s, den_c, Int.add_zero, List.map_cons, List.map_nil, g14.eq, h58, h59] at f0 f2 ⊢
  subst f0
  first
    | (intro i h1 h2; exact f2 i h1 (by omega))
    | (intro i h1 h2; by_cases q : i = r14; (rw [q, updI_at]); (rw [updI_ne q]; exact f2 i h1 (by omega))))
set_option maxRecDepth 1000000 in
theorem k_fill29_14 {PT : PTy} (hp : HP4 PT) : wfX c_fill29_14 = true ∧ xcOk PT c_fill29_14 := xctr (xl0) c_fill29_14 30 mJ7_fill_53178 rfl h_fill29_14 (by decide +kernel) (by decide +kernel) (by decide) (vcs_by [w_fill29_14_0_0] (by decide +kernel) (vc (v_fill29_14_0_0 hp) vn)) (fmc (vcs_by [w_fill29_14_1_0, w_fill29_14_1_1] (by decide +kernel) (vc (v_fill29_14_1_0 hp) (vc (v_fill29_14_1_1 hp) vn))) fmn)
def c_fill30_14 : XC := (202, 0, (bX), [.inr (.inl 30), .inl (none, 0)], (gX 14), [], [((bX), none, (gX 14), (ansT 58 [(30, 58)]), 59, [(88, [(none, 0), (none, 11)], [58])])])
def h_fill30_14 : List XH := [(5, (bX ++ [(0, 11)]), [some (.inr (.inl 30)), some (.inl (none, 0)), some (.inl (some 14, 0)), some (.inl (none, 11))], (gX 14), (ansT 58 [(30, 58)]), 59, [(88, [(none, 0), (some 14, 0)], [58])], [(true, (none, 1)), (true, (some 14, 0))])]
def w_fill30_14_0_0 : VC := ((bX), [], (88, [(none, 0), (none, 0)], [30]))
set_option maxRecDepth 20000 in
theorem v_fill30_14_0_0 {PT : PTy} (hp : HP4 PT) : vcOk PT w_fill30_14_0_0 := vc_in [] (by decide +kernel) (fun ρ α => by
  intro tt
  have e88 : PT 88 = P_fil := pe88_4 hp
  simp only [hFp_88, e88, P_fil, den_s, den_c, Int.add_zero, List.map_cons, List.map_nil] at ⊢
  intro i h1 h2; omega)
def w_fill30_14_1_0 : VC := ((bX ++ [(11, 11)]), [(3, [(some 14, 0), (none, 11)], []), (88, [(none, 0), (some 14, 0)], [58])], (88, [(none, 0), (none, 11)], [58]))
set_option maxRecDepth 20000 in
theorem v_fill30_14_1_0 {PT : PTy} (hp : HP4 PT) : vcOk PT w_fill30_14_1_0 := vc_iv [(14, 11, 11)] [58] (by decide +kernel) (fun ρ α => by
  intro r14 g14 b14 a58 h58 f0 f1 tt
  clear f0
  have e88 : PT 88 = P_fil := pe88_4 hp
  simp only [hFp_88, e88, P_fil, den_s, den_c, Int.add_zero, List.map_cons, List.map_nil, g14.eq, h58] at f1 ⊢
  first
    | (intro i h1 h2; exact f1 i h1 (by omega))
    | (intro i h1 h2; by_cases q : i = r14; (rw [q, updI_at]); (rw [updI_ne q]; exact f1 i h1 (by omega))))
def w_fill30_14_1_1 : VC := ((bX ++ [(0, 10)]), [(21, [(some 14, 0), (none, 0)], [59, 58]), (2, [(some 14, 0), (none, 11)], []), (88, [(none, 0), (some 14, 0)], [58])], (88, [(none, 0), (some 14, 1)], [59]))
set_option maxRecDepth 20000 in
theorem v_fill30_14_1_1 {PT : PTy} (hp : HP4 PT) : vcOk PT w_fill30_14_1_1 := vc_iv [(14, 0, 10)] [58, 59] (by decide +kernel) (fun ρ α => by
  intro r14 g14 b14 a58 h58 a59 h59 f0 f1 f2 tt
  clear f1
  have e88 : PT 88 = P_fil := pe88_4 hp
  simp only [hF21, hFp_88, e88, P_fil, den_s, den_c, Int.add_zero, List.map_cons, List.map_nil, g14.eq, h58, h59] at f0 f2 ⊢
  subst f0
  first
    | (intro i h1 h2; exact f2 i h1 (by omega))
    | (intro i h1 h2; by_cases q : i = r14; (rw [q, updI_at]); (rw [updI_ne q]; exact f2 i h1 (by omega))))
set_option maxRecDepth 1000000 in
theorem k_fill30_14 {PT : PTy} (hp : HP4 PT) : wfX c_fill30_14 = true ∧ xcOk PT c_fill30_14 := xctr (xl0) c_fill30_14 30 mJ7_fill_53178 rfl h_fill30_14 (by decide +kernel) (by decide +kernel) (by decide) (vcs_by [w_fill30_14_0_0] (by decide +kernel) (vc (v_fill30_14_0_0 hp) vn)) (fmc (vcs_by [w_fill30_14_1_0, w_fill30_14_1_1] (by decide +kernel) (vc (v_fill30_14_1_0 hp) (vc (v_fill30_14_1_1 hp) vn))) fmn)
def c_begin14 : XC := (4, 1, (bX), [.inr (.inl 5)], (gX 14), [], [((bX), none, (hst (gX 14) [(5, .inr (.inr (.inr (0, [.inr (.inl 6), .inr (.inl 9), .inr (.inl 14), .inr (.inl 18), .inr (.inl 22), .inr (.inl 26), .inr (.inl 27), .inr (.inl 28), .inr (.inl 29), .inr (.inl 30), .inl (some 9, 0), .inl (none, 0), .inl (some 11, 0), .inl (some 12, 0), .inr (.inl 14)]))))]), (ansT 58 [(28, 58), (29, 59), (30, 60)]), 61, [(89, [], [8, 58, 59, 60])])])
def h_begin14 : List XH := []
def w_begin14_0_0 : VC := ((bX), [(88, [(none, 0), (none, 11)], [60]), (88, [(none, 0), (none, 8)], [59]), (22, [(none, 0), (none, 0), (none, 8)], [58, 8, 28])], (89, [], [8, 58, 59, 60]))
theorem pe89_4 {PT : PTy} (hp : HP4 PT) : PT 89 = P_bg := hp.1.2.2.2.2.2.2.2.2.2.2.1
set_option maxRecDepth 20000 in
theorem v_begin14_0_0 {PT : PTy} (hp : HP4 PT) : vcOk PT w_begin14_0_0 := vc_iv [] [8, 28, 58, 59, 60] (by decide +kernel) (fun ρ α => by
  intro a8 h8 a28 h28 a58 h58 a59 h59 a60 h60 f0 f1 f2 tt
  have e88 : PT 88 = P_fil := pe88_4 hp
  have e89 : PT 89 = P_bg := pe89_4 hp
  simp only [hF22, hFp_88, hFp_89, e88, e89, P_fil, P_bg, den_s, den_c, Int.add_zero, List.map_cons, List.map_nil, h8, h28, h58, h59, h60] at f0 f1 f2 ⊢
  subst f2
  refine ⟨fun i h1 h2 => ⟨?_, f1 i h1 (by omega)⟩, fun i h1 h2 => f0 i h1 (by omega)⟩
  unfold cpyF
  rw [if_pos (by omega)]
  congr 1
  omega)
set_option maxRecDepth 1000000 in
theorem k_begin14 {PT : PTy} (hp : HP4 PT) : wfX c_begin14 = true ∧ xcOk PT c_begin14 := xctr (xl (k_fill29_14 hp) (xl (k_fill30_14 hp) (xl0))) c_begin14 41 mX0_begin rfl h_begin14 (by decide +kernel) (by decide +kernel) (by decide) (vcs_by [w_begin14_0_0] (by decide +kernel) (vc (v_begin14_0_0 hp) vn)) fmn
def c_advance14 : XC := (5, 2, (bX ++ [(0, 23)]), [.inr (.inl 5), .inl (some 14, 0)], (gX 14), [(87, [(some 9, 0)], [26, 27])], [((bX ++ [(0, 23), (0, 49)]), none, (hst (gX 14) [(5, .inr (.inr (.inr (0, [.inr (.inl 6), .inr (.inl 9), .inr (.inl 14), .inr (.inl 18), .inr (.inl 22), .inr (.inl 26), .inr (.inl 27), .inr (.inl 28), .inr (.inl 29), .inr (.inl 30), .inl (some 9, 0), .inl (some 15, 0), .inl (some 11, 0), .inl (some 12, 0), .inr (.inl 14)]))))]), (ansT 58 [(28, 58), (29, 59), (30, 60)]), 61, [(91, [(some 10, 0), (some 15, 0), (some 9, 0), (some 14, 0), (some 11, 0), (some 12, 0)], [26, 27, 7, 8, 10, 11, 16, 20, 21, 24, 25, 28, 29, 30, 58, 59, 60])])])
def h_advance14 : List XH := [(0, (bX ++ [(0, 23), (0, 49)]), [some (.inr (.inl 5)), some (.inl (some 14, 0)), none], (hst (gX 14) [(5, .inr (.inr (.inr (0, [.inr (.inl 6), .inr (.inl 9), .inr (.inl 14), .inr (.inl 18), .inr (.inl 22), .inr (.inl 26), .inr (.inl 27), .inr (.inl 28), .inr (.inl 29), .inr (.inl 30), .inl (some 9, 0), .inl (some 15, 0), .inl (some 11, 0), .inl (some 12, 0), .inr (.inl 14)]))))]), (ansT 58 [(28, 58), (29, 59), (30, 60)]), 61, [(90, [(some 10, 0), (some 15, 0), (some 9, 0), (some 14, 0), (some 11, 0), (some 12, 0)], [26, 27, 7, 8, 10, 11, 16, 20, 21, 24, 25, 28, 29, 30, 58, 59, 60])], [(true, (none, 1)), (true, (some 15, 0))])]
def w_advance14_0_0 : VC := ((bX ++ [(0, 23)]), [(87, [(some 9, 0)], [26, 27])], (90, [(some 10, 0), (some 10, 0), (some 9, 0), (some 14, 0), (some 11, 0), (some 12, 0)], [26, 27, 7, 8, 10, 11, 16, 20, 21, 24, 25, 28, 29, 30, 28, 29, 30]))
theorem pe87_4 {PT : PTy} (hp : HP4 PT) : PT 87 = P_pr := hp.1.2.2.2.2.2.2.2.2.1
theorem pe90_4 {PT : PTy} (hp : HP4 PT) : PT 90 = P_adI := hp.1.2.2.2.2.2.2.2.2.2.2.2.1
set_option maxRecDepth 20000 in
theorem v_advance14_0_0 {PT : PTy} (hp : HP4 PT) : vcOk PT w_advance14_0_0 := vc_iv [(9, 0, 49), (10, 0, 49), (11, (-2147483648), 2147483647), (12, (-2147483648), 2147483647), (14, 0, 23)] [7, 8, 10, 11, 16, 20, 21, 24, 25, 26, 27, 28, 29, 30] (by decide +kernel) (fun ρ α => by
  intro r9 g9 b9 r10 g10 b10 r11 g11 b11 r12 g12 b12 r14 g14 b14 a7 h7 a8 h8 a10 h10 a11 h11 a16 h16 a20 h20 a21 h21 a24 h24 a25 h25 a26 h26 a27 h27 a28 h28 a29 h29 a30 h30 f0 tt
  have e87 : PT 87 = P_pr := pe87_4 hp
  have e90 : PT 90 = P_adI := pe90_4 hp
  simp only [hFp_87, hFp_90, e87, e90, P_pr, P_adI, den_s, den_c, Int.add_zero, List.map_cons, List.map_nil, g9.eq, g10.eq, g11.eq, g12.eq, g14.eq, h7, h8, h10, h11, h16, h20, h21, h24, h25, h26, h27, h28, h29, h30] at f0 ⊢
  exact adI_z)
def w_advance14_1_0 : VC := ((bX ++ [(0, 23), (0, 49)]), [(3, [(some 15, 0), (some 9, 0)], []), (90, [(some 10, 0), (some 15, 0), (some 9, 0), (some 14, 0), (some 11, 0), (some 12, 0)], [26, 27, 7, 8, 10, 11, 16, 20, 21, 24, 25, 28, 29, 30, 58, 59, 60]), (87, [(some 9, 0)], [26, 27])], (91, [(some 10, 0), (some 15, 0), (some 9, 0), (some 14, 0), (some 11, 0), (some 12, 0)], [26, 27, 7, 8, 10, 11, 16, 20, 21, 24, 25, 28, 29, 30, 58, 59, 60]))
theorem pe91_4 {PT : PTy} (hp : HP4 PT) : PT 91 = P_adE := hp.1.2.2.2.2.2.2.2.2.2.2.2.2.1
set_option maxRecDepth 20000 in
theorem v_advance14_1_0 {PT : PTy} (hp : HP4 PT) : vcOk PT w_advance14_1_0 := vc_iv [(9, 0, 49), (10, 0, 49), (11, (-2147483648), 2147483647), (12, (-2147483648), 2147483647), (14, 0, 23), (15, 0, 49)] [7, 8, 10, 11, 16, 20, 21, 24, 25, 26, 27, 28, 29, 30, 58, 59, 60] (by decide +kernel) (fun ρ α => by
  intro r9 g9 b9 r10 g10 b10 r11 g11 b11 r12 g12 b12 r14 g14 b14 r15 g15 b15 a7 h7 a8 h8 a10 h10 a11 h11 a16 h16 a20 h20 a21 h21 a24 h24 a25 h25 a26 h26 a27 h27 a28 h28 a29 h29 a30 h30 a58 h58 a59 h59 a60 h60 f0 f1 f2 tt
  have e87 : PT 87 = P_pr := pe87_4 hp
  have e90 : PT 90 = P_adI := pe90_4 hp
  have e91 : PT 91 = P_adE := pe91_4 hp
  simp only [hF3, hFp_87, hFp_90, hFp_91, e87, e90, e91, P_pr, P_adI, P_adE, den_s, den_c, Int.add_zero, List.map_cons, List.map_nil, g9.eq, g10.eq, g11.eq, g12.eq, g14.eq, g15.eq, h7, h8, h10, h11, h16, h20, h21, h24, h25, h26, h27, h28, h29, h30, h58, h59, h60] at f0 f1 f2 ⊢
  exact ⟨f1, by omega⟩)
def w_advance14_1_1 : VC := (([(0, 23), (0, 49), (0, 8), (0, 11), (0, 9), (0, 6), (0, 6), (0, 8), (0, 9), (1, 49), (0, 49), ((-2147483648), 2147483647), ((-2147483648), 2147483647), (0, 5), (0, 23), (0, 48), (5, 119), (5, 119)]), [(3, [(some 16, 0), (some 17, 0)], []), (6, [(some 17, 0), (none, 5), (some 14, 1)], []), (20, [(some 16, 0), (some 15, 0)], [26]), (2, [(some 15, 0), (some 9, 0)], []), (90, [(some 10, 0), (some 15, 0), (some 9, 0), (some 14, 0), (some 11, 0), (some 12, 0)], [26, 27, 7, 8, 10, 11, 16, 20, 21, 24, 25, 28, 29, 30, 58, 59, 60]), (87, [(some 9, 0)], [26, 27])], (91, [(some 10, 0), (some 15, 0), (some 9, 0), (some 14, 0), (some 11, 0), (some 12, 0)], [26, 27, 7, 8, 10, 11, 16, 20, 21, 24, 25, 28, 29, 30, 58, 59, 60]))
set_option maxRecDepth 20000 in
theorem v_advance14_1_1 {PT : PTy} (hp : HP4 PT) : vcOk PT w_advance14_1_1 := vc_iv [(9, 1, 49), (10, 0, 49), (11, (-2147483648), 2147483647), (12, (-2147483648), 2147483647), (14, 0, 23), (15, 0, 48), (16, 5, 119), (17, 5, 119)] [7, 8, 10, 11, 16, 20, 21, 24, 25, 26, 27, 28, 29, 30, 58, 59, 60] (by decide +kernel) (fun ρ α => by
  intro r9 g9 b9 r10 g10 b10 r11 g11 b11 r12 g12 b12 r14 g14 b14 r15 g15 b15 r16 g16 b16 r17 g17 b17 a7 h7 a8 h8 a10 h10 a11 h11 a16 h16 a20 h20 a21 h21 a24 h24 a25 h25 a26 h26 a27 h27 a28 h28 a29 h29 a30 h30 a58 h58 a59 h59 a60 h60 f0 f1 f2 f3 f4 f5 tt
  have e87 : PT 87 = P_pr := pe87_4 hp
  have e90 : PT 90 = P_adI := pe90_4 hp
  have e91 : PT 91 = P_adE := pe91_4 hp
  simp only [hF2, hF3, hF6, hF20, hFp_87, hFp_90, hFp_91, e87, e90, e91, P_pr, P_adI, P_adE, den_s, den_c, Int.add_zero, List.map_cons, List.map_nil, g9.eq, g10.eq, g11.eq, g12.eq, g14.eq, g15.eq, g16.eq, g17.eq, h7, h8, h10, h11, h16, h20, h21, h24, h25, h26, h27, h28, h29, h30, h58, h59, h60] at f0 f1 f2 f3 f4 f5 ⊢
  subst f1
  subst f2
  exact ⟨f4, by omega⟩)
def w_advance14_1_2 : VC := (([(0, 23), (0, 49), (0, 8), (0, 11), (0, 9), (0, 6), (0, 6), (0, 8), (0, 9), (1, 49), (0, 49), ((-2147483648), 2147483647), ((-2147483648), 2147483647), (0, 5), (0, 23), (0, 48), (0, 119), (5, 120), (0, 10), (0, 119), (0, 4)]), [(25, [(some 20, 0), (none, 0), (none, 3)], []), (8, [(some 20, 0), (some 19, 0), (none, 5)], []), (20, [(some 19, 0), (some 15, 0)], [26]), (20, [(some 18, 0), (some 15, 0)], [27]), (2, [(some 16, 0), (some 17, 0)], []), (6, [(some 17, 0), (none, 5), (some 14, 1)], []), (20, [(some 16, 0), (some 15, 0)], [26]), (2, [(some 15, 0), (some 9, 0)], []), (90, [(some 10, 0), (some 15, 0), (some 9, 0), (some 14, 0), (some 11, 0), (some 12, 0)], [26, 27, 7, 8, 10, 11, 16, 20, 21, 24, 25, 28, 29, 30, 58, 59, 60]), (87, [(some 9, 0)], [26, 27])], (3, [(some 18, 0), (none, 0)], []))
set_option maxRecDepth 20000 in
theorem v_advance14_1_2 {PT : PTy} (hp : HP4 PT) : vcOk PT w_advance14_1_2 := vc_iv [(9, 1, 49), (10, 0, 49), (11, (-2147483648), 2147483647), (12, (-2147483648), 2147483647), (14, 0, 23), (15, 0, 48), (16, 0, 119), (17, 5, 120), (18, 0, 10), (19, 0, 119), (20, 0, 4)] [7, 8, 10, 11, 16, 20, 21, 24, 25, 26, 27, 28, 29, 30, 58, 59, 60] (by decide +kernel) (fun ρ α => by
  intro r9 g9 b9 r10 g10 b10 r11 g11 b11 r12 g12 b12 r14 g14 b14 r15 g15 b15 r16 g16 b16 r17 g17 b17 r18 g18 b18 r19 g19 b19 r20 g20 b20 a7 h7 a8 h8 a10 h10 a11 h11 a16 h16 a20 h20 a21 h21 a24 h24 a25 h25 a26 h26 a27 h27 a28 h28 a29 h29 a30 h30 a58 h58 a59 h59 a60 h60 f0 f1 f2 f3 f4 f5 f6 f7 f8 f9 tt
  have e87 : PT 87 = P_pr := pe87_4 hp
  have e90 : PT 90 = P_adI := pe90_4 hp
  simp only [hF2, hF3, hF6, hF8, hF20, hF25, hFp_87, hFp_90, e87, e90, P_pr, P_adI, den_s, den_c, Int.add_zero, List.map_cons, List.map_nil, g9.eq, g10.eq, g11.eq, g12.eq, g14.eq, g15.eq, g16.eq, g17.eq, g18.eq, g19.eq, g20.eq, h7, h8, h10, h11, h16, h20, h21, h24, h25, h26, h27, h28, h29, h30, h58, h59, h60] at f0 f1 f2 f3 f4 f5 f6 f7 f8 f9 ⊢
  subst f1
  subst f2
  subst f3
  subst f5
  subst f6
  first
    | omega
    | (have hpr := f9 r15 (by omega) (by omega) (by omega); omega))
def w_advance14_1_3 : VC := (([(0, 23), (0, 49), (0, 8), (0, 11), (0, 9), (0, 6), (0, 6), (0, 8), (0, 9), (1, 49), (0, 49), ((-2147483648), 2147483647), ((-2147483648), 2147483647), (0, 5), (0, 23), (0, 48), (0, 119), (5, 120), (0, 10), (0, 119), (0, 4)]), [(25, [(some 20, 0), (none, 0), (none, 3)], []), (8, [(some 20, 0), (some 19, 0), (none, 5)], []), (20, [(some 19, 0), (some 15, 0)], [26]), (20, [(some 18, 0), (some 15, 0)], [27]), (2, [(some 16, 0), (some 17, 0)], []), (6, [(some 17, 0), (none, 5), (some 14, 1)], []), (20, [(some 16, 0), (some 15, 0)], [26]), (2, [(some 15, 0), (some 9, 0)], []), (90, [(some 10, 0), (some 15, 0), (some 9, 0), (some 14, 0), (some 11, 0), (some 12, 0)], [26, 27, 7, 8, 10, 11, 16, 20, 21, 24, 25, 28, 29, 30, 58, 59, 60]), (87, [(some 9, 0)], [26, 27])], (3, [(none, 8), (some 18, 0)], []))
set_option maxRecDepth 20000 in
theorem v_advance14_1_3 {PT : PTy} (hp : HP4 PT) : vcOk PT w_advance14_1_3 := vc_iv [(9, 1, 49), (10, 0, 49), (11, (-2147483648), 2147483647), (12, (-2147483648), 2147483647), (14, 0, 23), (15, 0, 48), (16, 0, 119), (17, 5, 120), (18, 0, 10), (19, 0, 119), (20, 0, 4)] [7, 8, 10, 11, 16, 20, 21, 24, 25, 26, 27, 28, 29, 30, 58, 59, 60] (by decide +kernel) (fun ρ α => by
  intro r9 g9 b9 r10 g10 b10 r11 g11 b11 r12 g12 b12 r14 g14 b14 r15 g15 b15 r16 g16 b16 r17 g17 b17 r18 g18 b18 r19 g19 b19 r20 g20 b20 a7 h7 a8 h8 a10 h10 a11 h11 a16 h16 a20 h20 a21 h21 a24 h24 a25 h25 a26 h26 a27 h27 a28 h28 a29 h29 a30 h30 a58 h58 a59 h59 a60 h60 f0 f1 f2 f3 f4 f5 f6 f7 f8 f9 tt
  have e87 : PT 87 = P_pr := pe87_4 hp
  have e90 : PT 90 = P_adI := pe90_4 hp
  simp only [hF2, hF3, hF6, hF8, hF20, hF25, hFp_87, hFp_90, e87, e90, P_pr, P_adI, den_s, den_c, Int.add_zero, List.map_cons, List.map_nil, g9.eq, g10.eq, g11.eq, g12.eq, g14.eq, g15.eq, g16.eq, g17.eq, g18.eq, g19.eq, g20.eq, h7, h8, h10, h11, h16, h20, h21, h24, h25, h26, h27, h28, h29, h30, h58, h59, h60] at f0 f1 f2 f3 f4 f5 f6 f7 f8 f9 ⊢
  subst f1
  subst f2
  subst f3
  subst f5
  subst f6
  first
    | omega
    | (have hpr := f9 r15 (by omega) (by omega) (by omega); omega))
def w_advance14_1_4 : VC := (([(0, 23), (0, 49), (0, 8), (0, 11), (0, 9), (0, 6), (0, 6), (0, 8), (0, 9), (1, 49), (0, 49), ((-2147483648), 2147483647), ((-2147483648), 2147483647), (0, 5), (0, 23), (0, 48), (0, 119), (5, 120), (0, 8), (0, 119), (0, 4), (0, 7), (0, 9), (0, 99), (0, 99)]), [(21, [(some 21, 0), (some 24, 0)], [61, 58]), (3, [(none, 99), (some 24, 0)], []), (4, [(some 24, 0), (some 23, 0), (some 22, 0)], []), (20, [(some 23, 0), (some 21, 0)], [58]), (20, [(some 22, 0), (some 18, 0)], [25]), (20, [(some 21, 0), (some 18, 0)], [24]), (25, [(some 20, 0), (none, 0), (none, 3)], []), (8, [(some 20, 0), (some 19, 0), (none, 5)], []), (20, [(some 19, 0), (some 15, 0)], [26]), (20, [(some 18, 0), (some 15, 0)], [27]), (2, [(some 16, 0), (some 17, 0)], []), (6, [(some 17, 0), (none, 5), (some 14, 1)], []), (20, [(some 16, 0), (some 15, 0)], [26]), (2, [(some 15, 0), (some 9, 0)], []), (90, [(some 10, 0), (some 15, 0), (some 9, 0), (some 14, 0), (some 11, 0), (some 12, 0)], [26, 27, 7, 8, 10, 11, 16, 20, 21, 24, 25, 28, 29, 30, 58, 59, 60]), (87, [(some 9, 0)], [26, 27])], (90, [(some 10, 0), (some 15, 1), (some 9, 0), (some 14, 0), (some 11, 0), (some 12, 0)], [26, 27, 7, 8, 10, 11, 16, 20, 21, 24, 25, 28, 29, 30, 61, 59, 60]))
set_option maxRecDepth 20000 in
theorem v_advance14_1_4 {PT : PTy} (hp : HP4 PT) : vcOk PT w_advance14_1_4 := vc_iv [(9, 1, 49), (10, 0, 49), (11, (-2147483648), 2147483647), (12, (-2147483648), 2147483647), (14, 0, 23), (15, 0, 48), (16, 0, 119), (17, 5, 120), (18, 0, 8), (19, 0, 119), (20, 0, 4), (21, 0, 7), (22, 0, 9), (23, 0, 99), (24, 0, 99)] [7, 8, 10, 11, 16, 20, 21, 24, 25, 26, 27, 28, 29, 30, 58, 59, 60, 61] (by decide +kernel) (fun ρ α => by
  intro r9 g9 b9 r10 g10 b10 r11 g11 b11 r12 g12 b12 r14 g14 b14 r15 g15 b15 r16 g16 b16 r17 g17 b17 r18 g18 b18 r19 g19 b19 r20 g20 b20 r21 g21 b21 r22 g22 b22 r23 g23 b23 r24 g24 b24 a7 h7 a8 h8 a10 h10 a11 h11 a16 h16 a20 h20 a21 h21 a24 h24 a25 h25 a26 h26 a27 h27 a28 h28 a29 h29 a30 h30 a58 h58 a59 h59 a60 h60 a61 h61 f0 f1 f2 f3 f4 f5 f6 f7 f8 f9 f10 f11 f12 f13 f14 f15 tt
  clear f1
  have e87 : PT 87 = P_pr := pe87_4 hp
  have e90 : PT 90 = P_adI := pe90_4 hp
  simp only [hF2, hF4, hF6, hF8, hF20, hF21, hF25, hFp_87, hFp_90, e87, e90, P_pr, P_adI, den_s, den_c, Int.add_zero, List.map_cons, List.map_nil, g9.eq, g10.eq, g11.eq, g12.eq, g14.eq, g15.eq, g16.eq, g17.eq, g18.eq, g19.eq, g20.eq, g21.eq, g22.eq, g23.eq, g24.eq, h7, h8, h10, h11, h16, h20, h21, h24, h25, h26, h27, h28, h29, h30, h58, h59, h60, h61] at f0 f2 f3 f4 f5 f6 f7 f8 f9 f10 f11 f12 f13 f14 f15 ⊢
  subst f0
  subst f2
  subst f3
  subst f4
  subst f5
  subst f7
  subst f8
  subst f9
  subst f11
  subst f12
  refine adI_s f14 (by omega) (by omega) ?_
  have k : a26 r15 % 5 = 4 := by omega
  rw [acF_4 k]
  unfold lgF
  dsimp only
  ((repeat' split) <;> first | rfl | (exfalso; omega)))
def w_advance14_1_5 : VC := (([(0, 23), (0, 49), (0, 8), (0, 11), (0, 9), (0, 6), (0, 6), (0, 8), (0, 9), (1, 49), (0, 49), ((-2147483648), 2147483647), ((-2147483648), 2147483647), (0, 5), (0, 23), (0, 48), (0, 119), (5, 120), (0, 8), (0, 119), (0, 4), (0, 7), (0, 9), (0, 99), (100, 108)]), [(21, [(some 21, 0), (none, 99)], [61, 58]), (2, [(none, 99), (some 24, 0)], []), (4, [(some 24, 0), (some 23, 0), (some 22, 0)], []), (20, [(some 23, 0), (some 21, 0)], [58]), (20, [(some 22, 0), (some 18, 0)], [25]), (20, [(some 21, 0), (some 18, 0)], [24]), (25, [(some 20, 0), (none, 0), (none, 3)], []), (8, [(some 20, 0), (some 19, 0), (none, 5)], []), (20, [(some 19, 0), (some 15, 0)], [26]), (20, [(some 18, 0), (some 15, 0)], [27]), (2, [(some 16, 0), (some 17, 0)], []), (6, [(some 17, 0), (none, 5), (some 14, 1)], []), (20, [(some 16, 0), (some 15, 0)], [26]), (2, [(some 15, 0), (some 9, 0)], []), (90, [(some 10, 0), (some 15, 0), (some 9, 0), (some 14, 0), (some 11, 0), (some 12, 0)], [26, 27, 7, 8, 10, 11, 16, 20, 21, 24, 25, 28, 29, 30, 58, 59, 60]), (87, [(some 9, 0)], [26, 27])], (90, [(some 10, 0), (some 15, 1), (some 9, 0), (some 14, 0), (some 11, 0), (some 12, 0)], [26, 27, 7, 8, 10, 11, 16, 20, 21, 24, 25, 28, 29, 30, 61, 59, 60]))
set_option maxRecDepth 20000 in
theorem v_advance14_1_5 {PT : PTy} (hp : HP4 PT) : vcOk PT w_advance14_1_5 := vc_iv [(9, 1, 49), (10, 0, 49), (11, (-2147483648), 2147483647), (12, (-2147483648), 2147483647), (14, 0, 23), (15, 0, 48), (16, 0, 119), (17, 5, 120), (18, 0, 8), (19, 0, 119), (20, 0, 4), (21, 0, 7), (22, 0, 9), (23, 0, 99), (24, 100, 108)] [7, 8, 10, 11, 16, 20, 21, 24, 25, 26, 27, 28, 29, 30, 58, 59, 60, 61] (by decide +kernel) (fun ρ α => by
  intro r9 g9 b9 r10 g10 b10 r11 g11 b11 r12 g12 b12 r14 g14 b14 r15 g15 b15 r16 g16 b16 r17 g17 b17 r18 g18 b18 r19 g19 b19 r20 g20 b20 r21 g21 b21 r22 g22 b22 r23 g23 b23 r24 g24 b24 a7 h7 a8 h8 a10 h10 a11 h11 a16 h16 a20 h20 a21 h21 a24 h24 a25 h25 a26 h26 a27 h27 a28 h28 a29 h29 a30 h30 a58 h58 a59 h59 a60 h60 a61 h61 f0 f1 f2 f3 f4 f5 f6 f7 f8 f9 f10 f11 f12 f13 f14 f15 tt
  clear f1
  have e87 : PT 87 = P_pr := pe87_4 hp
  have e90 : PT 90 = P_adI := pe90_4 hp
  simp only [hF2, hF4, hF6, hF8, hF20, hF21, hF25, hFp_87, hFp_90, e87, e90, P_pr, P_adI, den_s, den_c, Int.add_zero, List.map_cons, List.map_nil, g9.eq, g10.eq, g11.eq, g12.eq, g14.eq, g15.eq, g16.eq, g17.eq, g18.eq, g19.eq, g20.eq, g21.eq, g22.eq, g23.eq, g24.eq, h7, h8, h10, h11, h16, h20, h21, h24, h25, h26, h27, h28, h29, h30, h58, h59, h60, h61] at f0 f2 f3 f4 f5 f6 f7 f8 f9 f10 f11 f12 f13 f14 f15 ⊢
  subst f0
  subst f2
  subst f3
  subst f4
  subst f5
  subst f7
  subst f8
  subst f9
  subst f11
  subst f12
  refine adI_s f14 (by omega) (by omega) ?_
  have k : a26 r15 % 5 = 4 := by omega
  rw [acF_4 k]
  unfold lgF
  dsimp only
  ((repeat' split) <;> first | rfl | (exfalso; omega)))
def w_advance14_1_6 : VC := (([(0, 23), (0, 49), (0, 8), (0, 11), (0, 9), (0, 6), (0, 6), (0, 8), (0, 9), (1, 49), (0, 49), ((-2147483648), 2147483647), ((-2147483648), 2147483647), (0, 5), (0, 23), (0, 48), (0, 119), (5, 120), (0, 10), (0, 119), (0, 0), (0, 7), (0, 7), (0, 1), (0, 9), (0, 9), (0, 99), (0, 99)]), [(21, [(some 21, 0), (some 27, 0)], [62, 58]), (3, [(none, 99), (some 27, 0)], []), (4, [(some 27, 0), (some 26, 0), (some 25, 0)], []), (20, [(some 26, 0), (some 21, 0)], [58]), (7, [(some 25, 0), (some 24, 0), (none, 2)], []), (1, [(some 23, 0), (none, 2)], []), (1, [(some 23, 0), (none, 1)], []), (20, [(some 24, 0), (some 18, 0)], [11]), (20, [(some 23, 0), (some 22, 0)], [7]), (20, [(some 22, 0), (some 18, 0)], [10]), (20, [(some 21, 0), (some 18, 0)], [10]), (21, [(some 18, 0), (none, 1)], [61, 60]), (0, [(some 20, 0), (none, 0)], []), (8, [(some 20, 0), (some 19, 0), (none, 5)], []), (20, [(some 19, 0), (some 15, 0)], [26]), (20, [(some 18, 0), (some 15, 0)], [27]), (2, [(some 16, 0), (some 17, 0)], []), (6, [(some 17, 0), (none, 5), (some 14, 1)], []), (20, [(some 16, 0), (some 15, 0)], [26]), (2, [(some 15, 0), (some 9, 0)], []), (90, [(some 10, 0), (some 15, 0), (some 9, 0), (some 14, 0), (some 11, 0), (some 12, 0)], [26, 27, 7, 8, 10, 11, 16, 20, 21, 24, 25, 28, 29, 30, 58, 59, 60]), (87, [(some 9, 0)], [26, 27])], (90, [(some 10, 0), (some 15, 1), (some 9, 0), (some 14, 0), (some 11, 0), (some 12, 0)], [26, 27, 7, 8, 10, 11, 16, 20, 21, 24, 25, 28, 29, 30, 62, 59, 61]))
set_option maxRecDepth 20000 in
theorem v_advance14_1_6 {PT : PTy} (hp : HP4 PT) : vcOk PT w_advance14_1_6 := vc_iv [(9, 1, 49), (10, 0, 49), (11, (-2147483648), 2147483647), (12, (-2147483648), 2147483647), (14, 0, 23), (15, 0, 48), (16, 0, 119), (17, 5, 120), (18, 0, 10), (19, 0, 119), (20, 0, 0), (21, 0, 7), (22, 0, 7), (23, 0, 1), (24, 0, 9), (25, 0, 9), (26, 0, 99), (27, 0, 99)] [7, 8, 10, 11, 16, 20, 21, 24, 25, 26, 27, 28, 29, 30, 58, 59, 60, 61, 62] (by decide +kernel) (fun ρ α => by
  intro r9 g9 b9 r10 g10 b10 r11 g11 b11 r12 g12 b12 r14 g14 b14 r15 g15 b15 r16 g16 b16 r17 g17 b17 r18 g18 b18 r19 g19 b19 r20 g20 b20 r21 g21 b21 r22 g22 b22 r23 g23 b23 r24 g24 b24 r25 g25 b25 r26 g26 b26 r27 g27 b27 a7 h7 a8 h8 a10 h10 a11 h11 a16 h16 a20 h20 a21 h21 a24 h24 a25 h25 a26 h26 a27 h27 a28 h28 a29 h29 a30 h30 a58 h58 a59 h59 a60 h60 a61 h61 a62 h62 f0 f1 f2 f3 f4 f5 f6 f7 f8 f9 f10 f11 f12 f13 f14 f15 f16 f17 f18 f19 f20 f21 tt
  clear f1 f5
  have e87 : PT 87 = P_pr := pe87_4 hp
  have e90 : PT 90 = P_adI := pe90_4 hp
  simp only [hF0, hF1, hF2, hF4, hF6, hF7, hF8, hF20, hF21, hFp_87, hFp_90, e87, e90, P_pr, P_adI, den_s, den_c, Int.add_zero, List.map_cons, List.map_nil, g9.eq, g10.eq, g11.eq, g12.eq, g14.eq, g15.eq, g16.eq, g17.eq, g18.eq, g19.eq, g20.eq, g21.eq, g22.eq, g23.eq, g24.eq, g25.eq, g26.eq, g27.eq, h7, h8, h10, h11, h16, h20, h21, h24, h25, h26, h27, h28, h29, h30, h58, h59, h60, h61, h62] at f0 f2 f3 f4 f6 f7 f8 f9 f10 f11 f12 f13 f14 f15 f16 f17 f18 f19 f20 f21 ⊢
  subst f0
  subst f2
  subst f3
  subst f4
  subst f7
  subst f8
  subst f9
  subst f10
  subst f11
  subst f13
  subst f14
  subst f15
  subst f17
  subst f18
  refine adI_s f20 (by omega) (by omega) ?_
  have k : a26 r15 % 5 = 0 := by omega
  rw [acF_0 k]
  unfold lgF gnF
  dsimp only
  ((repeat' split) <;> first | rfl | (exfalso; omega)))
def w_advance14_1_7 : VC := (([(0, 23), (0, 49), (0, 8), (0, 11), (0, 9), (0, 6), (0, 6), (0, 8), (0, 9), (1, 49), (0, 49), ((-2147483648), 2147483647), ((-2147483648), 2147483647), (0, 5), (0, 23), (0, 48), (0, 119), (5, 120), (0, 10), (0, 119), (0, 0), (0, 7), (0, 7), (0, 1), (0, 9), (0, 9), (0, 99), (100, 108)]), [(21, [(some 21, 0), (none, 99)], [62, 58]), (2, [(none, 99), (some 27, 0)], []), (4, [(some 27, 0), (some 26, 0), (some 25, 0)], []), (20, [(some 26, 0), (some 21, 0)], [58]), (7, [(some 25, 0), (some 24, 0), (none, 2)], []), (1, [(some 23, 0), (none, 2)], []), (1, [(some 23, 0), (none, 1)], []), (20, [(some 24, 0), (some 18, 0)], [11]), (20, [(some 23, 0), (some 22, 0)], [7]), (20, [(some 22, 0), (some 18, 0)], [10]), (20, [(some 21, 0), (some 18, 0)], [10]), (21, [(some 18, 0), (none, 1)], [61, 60]), (0, [(some 20, 0), (none, 0)], []), (8, [(some 20, 0), (some 19, 0), (none, 5)], []), (20, [(some 19, 0), (some 15, 0)], [26]), (20, [(some 18, 0), (some 15, 0)], [27]), (2, [(some 16, 0), (some 17, 0)], []), (6, [(some 17, 0), (none, 5), (some 14, 1)], []), (20, [(some 16, 0), (some 15, 0)], [26]), (2, [(some 15, 0), (some 9, 0)], []), (90, [(some 10, 0), (some 15, 0), (some 9, 0), (some 14, 0), (some 11, 0), (some 12, 0)], [26, 27, 7, 8, 10, 11, 16, 20, 21, 24, 25, 28, 29, 30, 58, 59, 60]), (87, [(some 9, 0)], [26, 27])], (90, [(some 10, 0), (some 15, 1), (some 9, 0), (some 14, 0), (some 11, 0), (some 12, 0)], [26, 27, 7, 8, 10, 11, 16, 20, 21, 24, 25, 28, 29, 30, 62, 59, 61]))
set_option maxRecDepth 20000 in
theorem v_advance14_1_7 {PT : PTy} (hp : HP4 PT) : vcOk PT w_advance14_1_7 := vc_iv [(9, 1, 49), (10, 0, 49), (11, (-2147483648), 2147483647), (12, (-2147483648), 2147483647), (14, 0, 23), (15, 0, 48), (16, 0, 119), (17, 5, 120), (18, 0, 10), (19, 0, 119), (20, 0, 0), (21, 0, 7), (22, 0, 7), (23, 0, 1), (24, 0, 9), (25, 0, 9), (26, 0, 99), (27, 100, 108)] [7, 8, 10, 11, 16, 20, 21, 24, 25, 26, 27, 28, 29, 30, 58, 59, 60, 61, 62] (by decide +kernel) (fun ρ α => by
  intro r9 g9 b9 r10 g10 b10 r11 g11 b11 r12 g12 b12 r14 g14 b14 r15 g15 b15 r16 g16 b16 r17 g17 b17 r18 g18 b18 r19 g19 b19 r20 g20 b20 r21 g21 b21 r22 g22 b22 r23 g23 b23 r24 g24 b24 r25 g25 b25 r26 g26 b26 r27 g27 b27 a7 h7 a8 h8 a10 h10 a11 h11 a16 h16 a20 h20 a21 h21 a24 h24 a25 h25 a26 h26 a27 h27 a28 h28 a29 h29 a30 h30 a58 h58 a59 h59 a60 h60 a61 h61 a62 h62 f0 f1 f2 f3 f4 f5 f6 f7 f8 f9 f10 f11 f12 f13 f14 f15 f16 f17 f18 f19 f20 f21 tt
  clear f1 f5
  have e87 : PT 87 = P_pr := pe87_4 hp
  have e90 : PT 90 = P_adI := pe90_4 hp
  simp only [hF0, hF1, hF2, hF4, hF6, hF7, hF8, hF20, hF21, hFp_87, hFp_90, e87, e90, P_pr, P_adI, den_s, den_c, Int.add_zero, List.map_cons, List.map_nil, g9.eq, g10.eq, g11.eq, g12.eq, g14.eq, g15.eq, g16.eq, g17.eq, g18.eq, g19.eq, g20.eq, g21.eq, g22.eq, g23.eq, g24.eq, g25.eq, g26.eq, g27.eq, h7, h8, h10, h11, h16, h20, h21, h24, h25, h26, h27, h28, h29, h30, h58, h59, h60, h61, h62] at f0 f2 f3 f4 f6 f7 f8 f9 f10 f11 f12 f13 f14 f15 f16 f17 f18 f19 f20 f21 ⊢
  subst f0
  subst f2
  subst f3
  subst f4
  subst f7
  subst f8
  subst f9
  subst f10
  subst f11
  subst f13
  subst f14
  subst f15
  subst f17
  subst f18
  refine adI_s f20 (by omega) (by omega) ?_
  have k : a26 r15 % 5 = 0 := by omega
  rw [acF_0 k]
  unfold lgF gnF
  dsimp only
  ((repeat' split) <;> first | rfl | (exfalso; omega)))
def w_advance14_1_8 : VC := (([(0, 23), (0, 49), (0, 8), (0, 11), (0, 9), (0, 6), (0, 6), (0, 8), (0, 9), (1, 49), (0, 49), ((-2147483648), 2147483647), ((-2147483648), 2147483647), (0, 5), (0, 23), (0, 48), (0, 119), (5, 120), (0, 10), (0, 119), (0, 0), (0, 7), (0, 7), (2, 2), (0, 9), (0, 99), (0, 99)]), [(21, [(some 21, 0), (some 26, 0)], [62, 58]), (3, [(none, 99), (some 26, 0)], []), (4, [(some 26, 0), (some 25, 0), (some 24, 0)], []), (20, [(some 25, 0), (some 21, 0)], [58]), (0, [(some 23, 0), (none, 2)], []), (1, [(some 23, 0), (none, 1)], []), (20, [(some 24, 0), (some 18, 0)], [11]), (20, [(some 23, 0), (some 22, 0)], [7]), (20, [(some 22, 0), (some 18, 0)], [10]), (20, [(some 21, 0), (some 18, 0)], [10]), (21, [(some 18, 0), (none, 1)], [61, 60]), (0, [(some 20, 0), (none, 0)], []), (8, [(some 20, 0), (some 19, 0), (none, 5)], []), (20, [(some 19, 0), (some 15, 0)], [26]), (20, [(some 18, 0), (some 15, 0)], [27]), (2, [(some 16, 0), (some 17, 0)], []), (6, [(some 17, 0), (none, 5), (some 14, 1)], []), (20, [(some 16, 0), (some 15, 0)], [26]), (2, [(some 15, 0), (some 9, 0)], []), (90, [(some 10, 0), (some 15, 0), (some 9, 0), (some 14, 0), (some 11, 0), (some 12, 0)], [26, 27, 7, 8, 10, 11, 16, 20, 21, 24, 25, 28, 29, 30, 58, 59, 60]), (87, [(some 9, 0)], [26, 27])], (90, [(some 10, 0), (some 15, 1), (some 9, 0), (some 14, 0), (some 11, 0), (some 12, 0)], [26, 27, 7, 8, 10, 11, 16, 20, 21, 24, 25, 28, 29, 30, 62, 59, 61]))
set_option maxRecDepth 20000 in
theorem v_advance14_1_8 {PT : PTy} (hp : HP4 PT) : vcOk PT w_advance14_1_8 := vc_iv [(9, 1, 49), (10, 0, 49), (11, (-2147483648), 2147483647), (12, (-2147483648), 2147483647), (14, 0, 23), (15, 0, 48), (16, 0, 119), (17, 5, 120), (18, 0, 10), (19, 0, 119), (20, 0, 0), (21, 0, 7), (22, 0, 7), (23, 2, 2), (24, 0, 9), (25, 0, 99), (26, 0, 99)] [7, 8, 10, 11, 16, 20, 21, 24, 25, 26, 27, 28, 29, 30, 58, 59, 60, 61, 62] (by decide +kernel) (fun ρ α => by
  intro r9 g9 b9 r10 g10 b10 r11 g11 b11 r12 g12 b12 r14 g14 b14 r15 g15 b15 r16 g16 b16 r17 g17 b17 r18 g18 b18 r19 g19 b19 r20 g20 b20 r21 g21 b21 r22 g22 b22 r23 g23 b23 r24 g24 b24 r25 g25 b25 r26 g26 b26 a7 h7 a8 h8 a10 h10 a11 h11 a16 h16 a20 h20 a21 h21 a24 h24 a25 h25 a26 h26 a27 h27 a28 h28 a29 h29 a30 h30 a58 h58 a59 h59 a60 h60 a61 h61 a62 h62 f0 f1 f2 f3 f4 f5 f6 f7 f8 f9 f10 f11 f12 f13 f14 f15 f16 f17 f18 f19 f20 tt
  clear f1 f5
  have e87 : PT 87 = P_pr := pe87_4 hp
  have e90 : PT 90 = P_adI := pe90_4 hp
  simp only [hF0, hF2, hF4, hF6, hF8, hF20, hF21, hFp_87, hFp_90, e87, e90, P_pr, P_adI, den_s, den_c, Int.add_zero, List.map_cons, List.map_nil, g9.eq, g10.eq, g11.eq, g12.eq, g14.eq, g15.eq, g16.eq, g17.eq, g18.eq, g19.eq, g20.eq, g21.eq, g22.eq, g23.eq, g24.eq, g25.eq, g26.eq, h7, h8, h10, h11, h16, h20, h21, h24, h25, h26, h27, h28, h29, h30, h58, h59, h60, h61, h62] at f0 f2 f3 f4 f6 f7 f8 f9 f10 f11 f12 f13 f14 f15 f16 f17 f18 f19 f20 ⊢
  subst f0
  subst f2
  subst f3
  subst f6
  subst f7
  subst f8
  subst f9
  subst f10
  subst f12
  subst f13
  subst f14
  subst f16
  subst f17
  refine adI_s f19 (by omega) (by omega) ?_
  have k : a26 r15 % 5 = 0 := by omega
  rw [acF_0 k]
  unfold lgF gnF
  dsimp only
  ((repeat' split) <;> first | rfl | (exfalso; omega)))
def w_advance14_1_9 : VC := (([(0, 23), (0, 49), (0, 8), (0, 11), (0, 9), (0, 6), (0, 6), (0, 8), (0, 9), (1, 49), (0, 49), ((-2147483648), 2147483647), ((-2147483648), 2147483647), (0, 5), (0, 23), (0, 48), (0, 119), (5, 120), (0, 10), (0, 119), (0, 0), (0, 7), (0, 7), (2, 2), (0, 9), (0, 99), (100, 108)]), [(21, [(some 21, 0), (none, 99)], [62, 58]), (2, [(none, 99), (some 26, 0)], []), (4, [(some 26, 0), (some 25, 0), (some 24, 0)], []), (20, [(some 25, 0), (some 21, 0)], [58]), (0, [(some 23, 0), (none, 2)], []), (1, [(some 23, 0), (none, 1)], []), (20, [(some 24, 0), (some 18, 0)], [11]), (20, [(some 23, 0), (some 22, 0)], [7]), (20, [(some 22, 0), (some 18, 0)], [10]), (20, [(some 21, 0), (some 18, 0)], [10]), (21, [(some 18, 0), (none, 1)], [61, 60]), (0, [(some 20, 0), (none, 0)], []), (8, [(some 20, 0), (some 19, 0), (none, 5)], []), (20, [(some 19, 0), (some 15, 0)], [26]), (20, [(some 18, 0), (some 15, 0)], [27]), (2, [(some 16, 0), (some 17, 0)], []), (6, [(some 17, 0), (none, 5), (some 14, 1)], []), (20, [(some 16, 0), (some 15, 0)], [26]), (2, [(some 15, 0), (some 9, 0)], []), (90, [(some 10, 0), (some 15, 0), (some 9, 0), (some 14, 0), (some 11, 0), (some 12, 0)], [26, 27, 7, 8, 10, 11, 16, 20, 21, 24, 25, 28, 29, 30, 58, 59, 60]), (87, [(some 9, 0)], [26, 27])], (90, [(some 10, 0), (some 15, 1), (some 9, 0), (some 14, 0), (some 11, 0), (some 12, 0)], [26, 27, 7, 8, 10, 11, 16, 20, 21, 24, 25, 28, 29, 30, 62, 59, 61]))
set_option maxRecDepth 20000 in
theorem v_advance14_1_9 {PT : PTy} (hp : HP4 PT) : vcOk PT w_advance14_1_9 := vc_iv [(9, 1, 49), (10, 0, 49), (11, (-2147483648), 2147483647), (12, (-2147483648), 2147483647), (14, 0, 23), (15, 0, 48), (16, 0, 119), (17, 5, 120), (18, 0, 10), (19, 0, 119), (20, 0, 0), (21, 0, 7), (22, 0, 7), (23, 2, 2), (24, 0, 9), (25, 0, 99), (26, 100, 108)] [7, 8, 10, 11, 16, 20, 21, 24, 25, 26, 27, 28, 29, 30, 58, 59, 60, 61, 62] (by decide +kernel) (fun ρ α => by
  intro r9 g9 b9 r10 g10 b10 r11 g11 b11 r12 g12 b12 r14 g14 b14 r15 g15 b15 r16 g16 b16 r17 g17 b17 r18 g18 b18 r19 g19 b19 r20 g20 b20 r21 g21 b21 r22 g22 b22 r23 g23 b23 r24 g24 b24 r25 g25 b25 r26 g26 b26 a7 h7 a8 h8 a10 h10 a11 h11 a16 h16 a20 h20 a21 h21 a24 h24 a25 h25 a26 h26 a27 h27 a28 h28 a29 h29 a30 h30 a58 h58 a59 h59 a60 h60 a61 h61 a62 h62 f0 f1 f2 f3 f4 f5 f6 f7 f8 f9 f10 f11 f12 f13 f14 f15 f16 f17 f18 f19 f20 tt
  clear f1 f5
  have e87 : PT 87 = P_pr := pe87_4 hp
  have e90 : PT 90 = P_adI := pe90_4 hp
  simp only [hF0, hF2, hF4, hF6, hF8, hF20, hF21, hFp_87, hFp_90, e87, e90, P_pr, P_adI, den_s, den_c, Int.add_zero, List.map_cons, List.map_nil, g9.eq, g10.eq, g11.eq, g12.eq, g14.eq, g15.eq, g16.eq, g17.eq, g18.eq, g19.eq, g20.eq, g21.eq, g22.eq, g23.eq, g24.eq, g25.eq, g26.eq, h7, h8, h10, h11, h16, h20, h21, h24, h25, h26, h27, h28, h29, h30, h58, h59, h60, h61, h62] at f0 f2 f3 f4 f6 f7 f8 f9 f10 f11 f12 f13 f14 f15 f16 f17 f18 f19 f20 ⊢
  subst f0
  subst f2
  subst f3
  subst f6
  subst f7
  subst f8
  subst f9
  subst f10
  subst f12
  subst f13
  subst f14
  subst f16
  subst f17
  refine adI_s f19 (by omega) (by omega) ?_
  have k : a26 r15 % 5 = 0 := by omega
  rw [acF_0 k]
  unfold lgF gnF
  dsimp only
  ((repeat' split) <;> first | rfl | (exfalso; omega)))
def w_advance14_1_10 : VC := (([(0, 23), (0, 49), (0, 8), (0, 11), (0, 9), (0, 6), (0, 6), (0, 8), (0, 9), (1, 49), (0, 49), ((-2147483648), 2147483647), ((-2147483648), 2147483647), (0, 5), (0, 23), (0, 48), (0, 119), (5, 120), (0, 10), (0, 119), (0, 0), (0, 7), (0, 7), (1, 1), (0, 9), (0, 18), (0, 99), (0, 99)]), [(21, [(some 21, 0), (some 27, 0)], [62, 58]), (3, [(none, 99), (some 27, 0)], []), (4, [(some 27, 0), (some 26, 0), (some 25, 0)], []), (20, [(some 26, 0), (some 21, 0)], [58]), (6, [(some 25, 0), (none, 2), (some 24, 0)], []), (0, [(some 23, 0), (none, 1)], []), (20, [(some 24, 0), (some 18, 0)], [11]), (20, [(some 23, 0), (some 22, 0)], [7]), (20, [(some 22, 0), (some 18, 0)], [10]), (20, [(some 21, 0), (some 18, 0)], [10]), (21, [(some 18, 0), (none, 1)], [61, 60]), (0, [(some 20, 0), (none, 0)], []), (8, [(some 20, 0), (some 19, 0), (none, 5)], []), (20, [(some 19, 0), (some 15, 0)], [26]), (20, [(some 18, 0), (some 15, 0)], [27]), (2, [(some 16, 0), (some 17, 0)], []), (6, [(some 17, 0), (none, 5), (some 14, 1)], []), (20, [(some 16, 0), (some 15, 0)], [26]), (2, [(some 15, 0), (some 9, 0)], []), (90, [(some 10, 0), (some 15, 0), (some 9, 0), (some 14, 0), (some 11, 0), (some 12, 0)], [26, 27, 7, 8, 10, 11, 16, 20, 21, 24, 25, 28, 29, 30, 58, 59, 60]), (87, [(some 9, 0)], [26, 27])], (90, [(some 10, 0), (some 15, 1), (some 9, 0), (some 14, 0), (some 11, 0), (some 12, 0)], [26, 27, 7, 8, 10, 11, 16, 20, 21, 24, 25, 28, 29, 30, 62, 59, 61]))
set_option maxRecDepth 20000 in
theorem v_advance14_1_10 {PT : PTy} (hp : HP4 PT) : vcOk PT w_advance14_1_10 := vc_iv [(9, 1, 49), (10, 0, 49), (11, (-2147483648), 2147483647), (12, (-2147483648), 2147483647), (14, 0, 23), (15, 0, 48), (16, 0, 119), (17, 5, 120), (18, 0, 10), (19, 0, 119), (20, 0, 0), (21, 0, 7), (22, 0, 7), (23, 1, 1), (24, 0, 9), (25, 0, 18), (26, 0, 99), (27, 0, 99)] [7, 8, 10, 11, 16, 20, 21, 24, 25, 26, 27, 28, 29, 30, 58, 59, 60, 61, 62] (by decide +kernel) (fun ρ α => by
  intro r9 g9 b9 r10 g10 b10 r11 g11 b11 r12 g12 b12 r14 g14 b14 r15 g15 b15 r16 g16 b16 r17 g17 b17 r18 g18 b18 r19 g19 b19 r20 g20 b20 r21 g21 b21 r22 g22 b22 r23 g23 b23 r24 g24 b24 r25 g25 b25 r26 g26 b26 r27 g27 b27 a7 h7 a8 h8 a10 h10 a11 h11 a16 h16 a20 h20 a21 h21 a24 h24 a25 h25 a26 h26 a27 h27 a28 h28 a29 h29 a30 h30 a58 h58 a59 h59 a60 h60 a61 h61 a62 h62 f0 f1 f2 f3 f4 f5 f6 f7 f8 f9 f10 f11 f12 f13 f14 f15 f16 f17 f18 f19 f20 tt
  clear f1
  have e87 : PT 87 = P_pr := pe87_4 hp
  have e90 : PT 90 = P_adI := pe90_4 hp
  simp only [hF0, hF2, hF4, hF6, hF8, hF20, hF21, hFp_87, hFp_90, e87, e90, P_pr, P_adI, den_s, den_c, Int.add_zero, List.map_cons, List.map_nil, g9.eq, g10.eq, g11.eq, g12.eq, g14.eq, g15.eq, g16.eq, g17.eq, g18.eq, g19.eq, g20.eq, g21.eq, g22.eq, g23.eq, g24.eq, g25.eq, g26.eq, g27.eq, h7, h8, h10, h11, h16, h20, h21, h24, h25, h26, h27, h28, h29, h30, h58, h59, h60, h61, h62] at f0 f2 f3 f4 f5 f6 f7 f8 f9 f10 f11 f12 f13 f14 f15 f16 f17 f18 f19 f20 ⊢
  subst f0
  subst f2
  subst f3
  subst f4
  subst f6
  subst f7
  subst f8
  subst f9
  subst f10
  subst f12
  subst f13
  subst f14
  subst f16
  subst f17
  refine adI_s f19 (by omega) (by omega) ?_
  have k : a26 r15 % 5 = 0 := by omega
  rw [acF_0 k]
  unfold lgF gnF
  dsimp only
  ((repeat' split) <;> first | rfl | (exfalso; omega)))
def w_advance14_1_11 : VC := (([(0, 23), (0, 49), (0, 8), (0, 11), (0, 9), (0, 6), (0, 6), (0, 8), (0, 9), (1, 49), (0, 49), ((-2147483648), 2147483647), ((-2147483648), 2147483647), (0, 5), (0, 23), (0, 48), (0, 119), (5, 120), (0, 10), (0, 119), (0, 0), (0, 7), (0, 7), (1, 1), (0, 9), (0, 18), (0, 99), (100, 117)]), [(21, [(some 21, 0), (none, 99)], [62, 58]), (2, [(none, 99), (some 27, 0)], []), (4, [(some 27, 0), (some 26, 0), (some 25, 0)], []), (20, [(some 26, 0), (some 21, 0)], [58]), (6, [(some 25, 0), (none, 2), (some 24, 0)], []), (0, [(some 23, 0), (none, 1)], []), (20, [(some 24, 0), (some 18, 0)], [11]), (20, [(some 23, 0), (some 22, 0)], [7]), (20, [(some 22, 0), (some 18, 0)], [10]), (20, [(some 21, 0), (some 18, 0)], [10]), (21, [(some 18, 0), (none, 1)], [61, 60]), (0, [(some 20, 0), (none, 0)], []), (8, [(some 20, 0), (some 19, 0), (none, 5)], []), (20, [(some 19, 0), (some 15, 0)], [26]), (20, [(some 18, 0), (some 15, 0)], [27]), (2, [(some 16, 0), (some 17, 0)], []), (6, [(some 17, 0), (none, 5), (some 14, 1)], []), (20, [(some 16, 0), (some 15, 0)], [26]), (2, [(some 15, 0), (some 9, 0)], []), (90, [(some 10, 0), (some 15, 0), (some 9, 0), (some 14, 0), (some 11, 0), (some 12, 0)], [26, 27, 7, 8, 10, 11, 16, 20, 21, 24, 25, 28, 29, 30, 58, 59, 60]), (87, [(some 9, 0)], [26, 27])], (90, [(some 10, 0), (some 15, 1), (some 9, 0), (some 14, 0), (some 11, 0), (some 12, 0)], [26, 27, 7, 8, 10, 11, 16, 20, 21, 24, 25, 28, 29, 30, 62, 59, 61]))
set_option maxRecDepth 20000 in
theorem v_advance14_1_11 {PT : PTy} (hp : HP4 PT) : vcOk PT w_advance14_1_11 := vc_iv [(9, 1, 49), (10, 0, 49), (11, (-2147483648), 2147483647), (12, (-2147483648), 2147483647), (14, 0, 23), (15, 0, 48), (16, 0, 119), (17, 5, 120), (18, 0, 10), (19, 0, 119), (20, 0, 0), (21, 0, 7), (22, 0, 7), (23, 1, 1), (24, 0, 9), (25, 0, 18), (26, 0, 99), (27, 100, 117)] [7, 8, 10, 11, 16, 20, 21, 24, 25, 26, 27, 28, 29, 30, 58, 59, 60, 61, 62] (by decide +kernel) (fun ρ α => by
  intro r9 g9 b9 r10 g10 b10 r11 g11 b11 r12 g12 b12 r14 g14 b14 r15 g15 b15 r16 g16 b16 r17 g17 b17 r18 g18 b18 r19 g19 b19 r20 g20 b20 r21 g21 b21 r22 g22 b22 r23 g23 b23 r24 g24 b24 r25 g25 b25 r26 g26 b26 r27 g27 b27 a7 h7 a8 h8 a10 h10 a11 h11 a16 h16 a20 h20 a21 h21 a24 h24 a25 h25 a26 h26 a27 h27 a28 h28 a29 h29 a30 h30 a58 h58 a59 h59 a60 h60 a61 h61 a62 h62 f0 f1 f2 f3 f4 f5 f6 f7 f8 f9 f10 f11 f12 f13 f14 f15 f16 f17 f18 f19 f20 tt
  clear f1
  have e87 : PT 87 = P_pr := pe87_4 hp
  have e90 : PT 90 = P_adI := pe90_4 hp
  simp only [hF0, hF2, hF4, hF6, hF8, hF20, hF21, hFp_87, hFp_90, e87, e90, P_pr, P_adI, den_s, den_c, Int.add_zero, List.map_cons, List.map_nil, g9.eq, g10.eq, g11.eq, g12.eq, g14.eq, g15.eq, g16.eq, g17.eq, g18.eq, g19.eq, g20.eq, g21.eq, g22.eq, g23.eq, g24.eq, g25.eq, g26.eq, g27.eq, h7, h8, h10, h11, h16, h20, h21, h24, h25, h26, h27, h28, h29, h30, h58, h59, h60, h61, h62] at f0 f2 f3 f4 f5 f6 f7 f8 f9 f10 f11 f12 f13 f14 f15 f16 f17 f18 f19 f20 ⊢
  subst f0
  subst f2
  subst f3
  subst f4
  subst f6
  subst f7
  subst f8
  subst f9
  subst f10
  subst f12
  subst f13
  subst f14
  subst f16
  subst f17
  refine adI_s f19 (by omega) (by omega) ?_
  have k : a26 r15 % 5 = 0 := by omega
  rw [acF_0 k]
  unfold lgF gnF
  dsimp only
  ((repeat' split) <;> first | rfl | (exfalso; omega)))
def w_advance14_1_12 : VC := (([(0, 23), (0, 49), (0, 8), (0, 11), (0, 9), (0, 6), (0, 6), (0, 8), (0, 9), (1, 49), (0, 49), ((-2147483648), 2147483647), ((-2147483648), 2147483647), (0, 5), (0, 23), (0, 48), (0, 119), (5, 120), (0, 10), (0, 119), (1, 1), ((-2147483648), 2147483647), ((-2147483648), 2147483647)]), [(1, [(some 22, 0), (none, 0)], []), (10, [(some 22, 0), (some 21, 0), (none, 1)], []), (14, [(some 21, 0), (some 11, 0), (some 18, 0)], []), (0, [(some 20, 0), (none, 1)], []), (8, [(some 20, 0), (some 19, 0), (none, 5)], []), (20, [(some 19, 0), (some 15, 0)], [26]), (20, [(some 18, 0), (some 15, 0)], [27]), (2, [(some 16, 0), (some 17, 0)], []), (6, [(some 17, 0), (none, 5), (some 14, 1)], []), (20, [(some 16, 0), (some 15, 0)], [26]), (2, [(some 15, 0), (some 9, 0)], []), (90, [(some 10, 0), (some 15, 0), (some 9, 0), (some 14, 0), (some 11, 0), (some 12, 0)], [26, 27, 7, 8, 10, 11, 16, 20, 21, 24, 25, 28, 29, 30, 58, 59, 60]), (87, [(some 9, 0)], [26, 27])], (90, [(some 10, 0), (some 15, 1), (some 9, 0), (some 14, 0), (some 11, 0), (some 12, 0)], [26, 27, 7, 8, 10, 11, 16, 20, 21, 24, 25, 28, 29, 30, 58, 59, 60]))
set_option maxRecDepth 20000 in
theorem v_advance14_1_12 {PT : PTy} (hp : HP4 PT) : vcOk PT w_advance14_1_12 := vc_iv [(9, 1, 49), (10, 0, 49), (11, (-2147483648), 2147483647), (12, (-2147483648), 2147483647), (14, 0, 23), (15, 0, 48), (16, 0, 119), (17, 5, 120), (18, 0, 10), (19, 0, 119), (20, 1, 1), (21, (-2147483648), 2147483647), (22, (-2147483648), 2147483647)] [7, 8, 10, 11, 16, 20, 21, 24, 25, 26, 27, 28, 29, 30, 58, 59, 60] (by decide +kernel) (fun ρ α => by
  intro r9 g9 b9 r10 g10 b10 r11 g11 b11 r12 g12 b12 r14 g14 b14 r15 g15 b15 r16 g16 b16 r17 g17 b17 r18 g18 b18 r19 g19 b19 r20 g20 b20 r21 g21 b21 r22 g22 b22 a7 h7 a8 h8 a10 h10 a11 h11 a16 h16 a20 h20 a21 h21 a24 h24 a25 h25 a26 h26 a27 h27 a28 h28 a29 h29 a30 h30 a58 h58 a59 h59 a60 h60 f0 f1 f2 f3 f4 f5 f6 f7 f8 f9 f10 f11 f12 tt
  have e87 : PT 87 = P_pr := pe87_4 hp
  have e90 : PT 90 = P_adI := pe90_4 hp
  simp only [hF0, hF1, hF2, hF6, hF8, hF10, hF14, hF20, hFp_87, hFp_90, e87, e90, P_pr, P_adI, den_s, den_c, Int.add_zero, List.map_cons, List.map_nil, g9.eq, g10.eq, g11.eq, g12.eq, g14.eq, g15.eq, g16.eq, g17.eq, g18.eq, g19.eq, g20.eq, g21.eq, g22.eq, h7, h8, h10, h11, h16, h20, h21, h24, h25, h26, h27, h28, h29, h30, h58, h59, h60] at f0 f1 f2 f3 f4 f5 f6 f7 f8 f9 f10 f11 f12 ⊢
  subst f1
  subst f2
  subst f4
  subst f5
  subst f6
  subst f8
  subst f9
  refine adI_s f11 (by omega) (by omega) ?_
  have k : a26 r15 % 5 = 1 := by omega
  rw [acF_1 k]
  unfold fuF
  dsimp only
  ((repeat' split) <;> first | rfl | (exfalso; omega)))
def w_advance14_1_13 : VC := (([(0, 23), (0, 49), (0, 8), (0, 11), (0, 9), (0, 6), (0, 6), (0, 8), (0, 9), (1, 49), (0, 49), ((-2147483648), 2147483647), ((-2147483648), 2147483647), (0, 5), (0, 23), (0, 48), (0, 119), (5, 120), (0, 10), (0, 119), (1, 1), ((-2147483648), 2147483647), (0, 0)]), [(0, [(some 22, 0), (none, 0)], []), (10, [(some 22, 0), (some 21, 0), (none, 1)], []), (14, [(some 21, 0), (some 11, 0), (some 18, 0)], []), (0, [(some 20, 0), (none, 1)], []), (8, [(some 20, 0), (some 19, 0), (none, 5)], []), (20, [(some 19, 0), (some 15, 0)], [26]), (20, [(some 18, 0), (some 15, 0)], [27]), (2, [(some 16, 0), (some 17, 0)], []), (6, [(some 17, 0), (none, 5), (some 14, 1)], []), (20, [(some 16, 0), (some 15, 0)], [26]), (2, [(some 15, 0), (some 9, 0)], []), (90, [(some 10, 0), (some 15, 0), (some 9, 0), (some 14, 0), (some 11, 0), (some 12, 0)], [26, 27, 7, 8, 10, 11, 16, 20, 21, 24, 25, 28, 29, 30, 58, 59, 60]), (87, [(some 9, 0)], [26, 27])], (3, [(some 18, 0), (none, 0)], []))
set_option maxRecDepth 20000 in
theorem v_advance14_1_13 {PT : PTy} (hp : HP4 PT) : vcOk PT w_advance14_1_13 := vc_iv [(9, 1, 49), (10, 0, 49), (11, (-2147483648), 2147483647), (12, (-2147483648), 2147483647), (14, 0, 23), (15, 0, 48), (16, 0, 119), (17, 5, 120), (18, 0, 10), (19, 0, 119), (20, 1, 1), (21, (-2147483648), 2147483647), (22, 0, 0)] [7, 8, 10, 11, 16, 20, 21, 24, 25, 26, 27, 28, 29, 30, 58, 59, 60] (by decide +kernel) (fun ρ α => by
  intro r9 g9 b9 r10 g10 b10 r11 g11 b11 r12 g12 b12 r14 g14 b14 r15 g15 b15 r16 g16 b16 r17 g17 b17 r18 g18 b18 r19 g19 b19 r20 g20 b20 r21 g21 b21 r22 g22 b22 a7 h7 a8 h8 a10 h10 a11 h11 a16 h16 a20 h20 a21 h21 a24 h24 a25 h25 a26 h26 a27 h27 a28 h28 a29 h29 a30 h30 a58 h58 a59 h59 a60 h60 f0 f1 f2 f3 f4 f5 f6 f7 f8 f9 f10 f11 f12 tt
  have e87 : PT 87 = P_pr := pe87_4 hp
  have e90 : PT 90 = P_adI := pe90_4 hp
  simp only [hF0, hF2, hF3, hF6, hF8, hF10, hF14, hF20, hFp_87, hFp_90, e87, e90, P_pr, P_adI, den_s, den_c, Int.add_zero, List.map_cons, List.map_nil, g9.eq, g10.eq, g11.eq, g12.eq, g14.eq, g15.eq, g16.eq, g17.eq, g18.eq, g19.eq, g20.eq, g21.eq, g22.eq, h7, h8, h10, h11, h16, h20, h21, h24, h25, h26, h27, h28, h29, h30, h58, h59, h60] at f0 f1 f2 f3 f4 f5 f6 f7 f8 f9 f10 f11 f12 ⊢
  subst f1
  subst f2
  subst f4
  subst f5
  subst f6
  subst f8
  subst f9
  first
    | omega
    | (have hpr := f12 r15 (by omega) (by omega) (by omega); omega))
def w_advance14_1_14 : VC := (([(0, 23), (0, 49), (0, 8), (0, 11), (0, 9), (0, 6), (0, 6), (0, 8), (0, 9), (1, 49), (0, 49), ((-2147483648), 2147483647), ((-2147483648), 2147483647), (0, 5), (0, 23), (0, 48), (0, 119), (5, 120), (0, 10), (0, 119), (1, 1), ((-2147483648), 2147483647), (0, 0)]), [(0, [(some 22, 0), (none, 0)], []), (10, [(some 22, 0), (some 21, 0), (none, 1)], []), (14, [(some 21, 0), (some 11, 0), (some 18, 0)], []), (0, [(some 20, 0), (none, 1)], []), (8, [(some 20, 0), (some 19, 0), (none, 5)], []), (20, [(some 19, 0), (some 15, 0)], [26]), (20, [(some 18, 0), (some 15, 0)], [27]), (2, [(some 16, 0), (some 17, 0)], []), (6, [(some 17, 0), (none, 5), (some 14, 1)], []), (20, [(some 16, 0), (some 15, 0)], [26]), (2, [(some 15, 0), (some 9, 0)], []), (90, [(some 10, 0), (some 15, 0), (some 9, 0), (some 14, 0), (some 11, 0), (some 12, 0)], [26, 27, 7, 8, 10, 11, 16, 20, 21, 24, 25, 28, 29, 30, 58, 59, 60]), (87, [(some 9, 0)], [26, 27])], (3, [(none, 8), (some 18, 0)], []))
set_option maxRecDepth 20000 in
theorem v_advance14_1_14 {PT : PTy} (hp : HP4 PT) : vcOk PT w_advance14_1_14 := vc_iv [(9, 1, 49), (10, 0, 49), (11, (-2147483648), 2147483647), (12, (-2147483648), 2147483647), (14, 0, 23), (15, 0, 48), (16, 0, 119), (17, 5, 120), (18, 0, 10), (19, 0, 119), (20, 1, 1), (21, (-2147483648), 2147483647), (22, 0, 0)] [7, 8, 10, 11, 16, 20, 21, 24, 25, 26, 27, 28, 29, 30, 58, 59, 60] (by decide +kernel) (fun ρ α => by
  intro r9 g9 b9 r10 g10 b10 r11 g11 b11 r12 g12 b12 r14 g14 b14 r15 g15 b15 r16 g16 b16 r17 g17 b17 r18 g18 b18 r19 g19 b19 r20 g20 b20 r21 g21 b21 r22 g22 b22 a7 h7 a8 h8 a10 h10 a11 h11 a16 h16 a20 h20 a21 h21 a24 h24 a25 h25 a26 h26 a27 h27 a28 h28 a29 h29 a30 h30 a58 h58 a59 h59 a60 h60 f0 f1 f2 f3 f4 f5 f6 f7 f8 f9 f10 f11 f12 tt
  have e87 : PT 87 = P_pr := pe87_4 hp
  have e90 : PT 90 = P_adI := pe90_4 hp
  simp only [hF0, hF2, hF3, hF6, hF8, hF10, hF14, hF20, hFp_87, hFp_90, e87, e90, P_pr, P_adI, den_s, den_c, Int.add_zero, List.map_cons, List.map_nil, g9.eq, g10.eq, g11.eq, g12.eq, g14.eq, g15.eq, g16.eq, g17.eq, g18.eq, g19.eq, g20.eq, g21.eq, g22.eq, h7, h8, h10, h11, h16, h20, h21, h24, h25, h26, h27, h28, h29, h30, h58, h59, h60] at f0 f1 f2 f3 f4 f5 f6 f7 f8 f9 f10 f11 f12 ⊢
  subst f1
  subst f2
  subst f4
  subst f5
  subst f6
  subst f8
  subst f9
  first
    | omega
    | (have hpr := f12 r15 (by omega) (by omega) (by omega); omega))
def w_advance14_1_15 : VC := (([(0, 23), (0, 49), (0, 8), (0, 11), (0, 9), (0, 6), (0, 6), (0, 8), (0, 9), (1, 49), (0, 49), ((-2147483648), 2147483647), ((-2147483648), 2147483647), (0, 5), (0, 23), (0, 48), (0, 119), (5, 120), (0, 8), (0, 119), (1, 1), ((-2147483648), 2147483647), (0, 0), (0, 9), (1, 1), (0, 7), (0, 9), (0, 9), (0, 9), (0, 99), (0, 108), (0, 9)]), [(21, [(some 25, 0), (some 31, 0)], [62, 58]), (23, [(some 31, 0), (some 26, 0), (some 30, 0)], []), (4, [(some 30, 0), (some 29, 0), (some 27, 0)], []), (20, [(some 29, 0), (some 25, 0)], [58]), (3, [(some 26, 0), (some 28, 0)], []), (20, [(some 28, 0), (some 25, 0)], [58]), (20, [(some 27, 0), (some 23, 0)], [11]), (20, [(some 26, 0), (some 25, 0)], [8]), (20, [(some 25, 0), (some 23, 0)], [10]), (21, [(some 23, 0), (none, 2)], [61, 60]), (0, [(some 24, 0), (none, 1)], []), (20, [(some 24, 0), (some 23, 0)], [60]), (20, [(some 23, 0), (some 18, 0)], [16]), (0, [(some 22, 0), (none, 0)], []), (10, [(some 22, 0), (some 21, 0), (none, 1)], []), (14, [(some 21, 0), (some 11, 0), (some 18, 0)], []), (0, [(some 20, 0), (none, 1)], []), (8, [(some 20, 0), (some 19, 0), (none, 5)], []), (20, [(some 19, 0), (some 15, 0)], [26]), (20, [(some 18, 0), (some 15, 0)], [27]), (2, [(some 16, 0), (some 17, 0)], []), (6, [(some 17, 0), (none, 5), (some 14, 1)], []), (20, [(some 16, 0), (some 15, 0)], [26]), (2, [(some 15, 0), (some 9, 0)], []), (90, [(some 10, 0), (some 15, 0), (some 9, 0), (some 14, 0), (some 11, 0), (some 12, 0)], [26, 27, 7, 8, 10, 11, 16, 20, 21, 24, 25, 28, 29, 30, 58, 59, 60]), (87, [(some 9, 0)], [26, 27])], (90, [(some 10, 0), (some 15, 1), (some 9, 0), (some 14, 0), (some 11, 0), (some 12, 0)], [26, 27, 7, 8, 10, 11, 16, 20, 21, 24, 25, 28, 29, 30, 62, 59, 61]))
set_option maxRecDepth 20000 in
theorem v_advance14_1_15 {PT : PTy} (hp : HP4 PT) : vcOk PT w_advance14_1_15 := vc_iv [(9, 1, 49), (10, 0, 49), (11, (-2147483648), 2147483647), (12, (-2147483648), 2147483647), (14, 0, 23), (15, 0, 48), (16, 0, 119), (17, 5, 120), (18, 0, 8), (19, 0, 119), (20, 1, 1), (21, (-2147483648), 2147483647), (22, 0, 0), (23, 0, 9), (24, 1, 1), (25, 0, 7), (26, 0, 9), (27, 0, 9), (28, 0, 9), (29, 0, 99), (30, 0, 108), (31, 0, 9)] [7, 8, 10, 11, 16, 20, 21, 24, 25, 26, 27, 28, 29, 30, 58, 59, 60, 61, 62] (by decide +kernel) (fun ρ α => by
  intro r9 g9 b9 r10 g10 b10 r11 g11 b11 r12 g12 b12 r14 g14 b14 r15 g15 b15 r16 g16 b16 r17 g17 b17 r18 g18 b18 r19 g19 b19 r20 g20 b20 r21 g21 b21 r22 g22 b22 r23 g23 b23 r24 g24 b24 r25 g25 b25 r26 g26 b26 r27 g27 b27 r28 g28 b28 r29 g29 b29 r30 g30 b30 r31 g31 b31 a7 h7 a8 h8 a10 h10 a11 h11 a16 h16 a20 h20 a21 h21 a24 h24 a25 h25 a26 h26 a27 h27 a28 h28 a29 h29 a30 h30 a58 h58 a59 h59 a60 h60 a61 h61 a62 h62 f0 f1 f2 f3 f4 f5 f6 f7 f8 f9 f10 f11 f12 f13 f14 f15 f16 f17 f18 f19 f20 f21 f22 f23 f24 f25 tt
  have e87 : PT 87 = P_pr := pe87_4 hp
  have e90 : PT 90 = P_adI := pe90_4 hp
  simp only [hF0, hF2, hF3, hF4, hF6, hF8, hF10, hF14, hF20, hF21, hF23, hFp_87, hFp_90, e87, e90, P_pr, P_adI, den_s, den_c, Int.add_zero, List.map_cons, List.map_nil, g9.eq, g10.eq, g11.eq, g12.eq, g14.eq, g15.eq, g16.eq, g17.eq, g18.eq, g19.eq, g20.eq, g21.eq, g22.eq, g23.eq, g24.eq, g25.eq, g26.eq, g27.eq, g28.eq, g29.eq, g30.eq, g31.eq, h7, h8, h10, h11, h16, h20, h21, h24, h25, h26, h27, h28, h29, h30, h58, h59, h60, h61, h62] at f0 f1 f2 f3 f4 f5 f6 f7 f8 f9 f10 f11 f12 f13 f14 f15 f16 f17 f18 f19 f20 f21 f22 f23 f24 f25 ⊢
  subst f0
  subst f1
  subst f2
  subst f3
  subst f5
  subst f6
  subst f7
  subst f8
  subst f9
  subst f11
  subst f12
  subst f14
  subst f15
  subst f17
  subst f18
  subst f19
  subst f21
  subst f22
  refine adI_s f24 (by omega) (by omega) ?_
  have k : a26 r15 % 5 = 1 := by omega
  rw [acF_1 k]
  unfold fuF
  dsimp only
  ((repeat' split) <;> first | rfl | (exfalso; omega)))
def w_advance14_1_16 : VC := (([(0, 23), (0, 49), (0, 8), (0, 11), (0, 9), (0, 6), (0, 6), (0, 8), (0, 9), (1, 49), (0, 49), ((-2147483648), 2147483647), ((-2147483648), 2147483647), (0, 5), (0, 23), (0, 48), (0, 119), (5, 120), (0, 8), (0, 119), (1, 1), ((-2147483648), 2147483647), (0, 0), (0, 9), (1, 1), (0, 7), (0, 9), (0, 9), (1, 99), (0, 99), ((-9), 99), (0, 99)]), [(21, [(some 25, 0), (some 31, 0)], [62, 58]), (24, [(some 31, 0), (some 26, 0), (some 30, 0)], []), (5, [(some 30, 0), (some 29, 0), (some 27, 0)], []), (20, [(some 29, 0), (some 25, 0)], [58]), (2, [(some 26, 0), (some 28, 0)], []), (20, [(some 28, 0), (some 25, 0)], [58]), (20, [(some 27, 0), (some 23, 0)], [11]), (20, [(some 26, 0), (some 25, 0)], [8]), (20, [(some 25, 0), (some 23, 0)], [10]), (21, [(some 23, 0), (none, 2)], [61, 60]), (0, [(some 24, 0), (none, 1)], []), (20, [(some 24, 0), (some 23, 0)], [60]), (20, [(some 23, 0), (some 18, 0)], [16]), (0, [(some 22, 0), (none, 0)], []), (10, [(some 22, 0), (some 21, 0), (none, 1)], []), (14, [(some 21, 0), (some 11, 0), (some 18, 0)], []), (0, [(some 20, 0), (none, 1)], []), (8, [(some 20, 0), (some 19, 0), (none, 5)], []), (20, [(some 19, 0), (some 15, 0)], [26]), (20, [(some 18, 0), (some 15, 0)], [27]), (2, [(some 16, 0), (some 17, 0)], []), (6, [(some 17, 0), (none, 5), (some 14, 1)], []), (20, [(some 16, 0), (some 15, 0)], [26]), (2, [(some 15, 0), (some 9, 0)], []), (90, [(some 10, 0), (some 15, 0), (some 9, 0), (some 14, 0), (some 11, 0), (some 12, 0)], [26, 27, 7, 8, 10, 11, 16, 20, 21, 24, 25, 28, 29, 30, 58, 59, 60]), (87, [(some 9, 0)], [26, 27])], (90, [(some 10, 0), (some 15, 1), (some 9, 0), (some 14, 0), (some 11, 0), (some 12, 0)], [26, 27, 7, 8, 10, 11, 16, 20, 21, 24, 25, 28, 29, 30, 62, 59, 61]))
set_option maxRecDepth 20000 in
theorem v_advance14_1_16 {PT : PTy} (hp : HP4 PT) : vcOk PT w_advance14_1_16 := vc_iv [(9, 1, 49), (10, 0, 49), (11, (-2147483648), 2147483647), (12, (-2147483648), 2147483647), (14, 0, 23), (15, 0, 48), (16, 0, 119), (17, 5, 120), (18, 0, 8), (19, 0, 119), (20, 1, 1), (21, (-2147483648), 2147483647), (22, 0, 0), (23, 0, 9), (24, 1, 1), (25, 0, 7), (26, 0, 9), (27, 0, 9), (28, 1, 99), (29, 0, 99), (30, (-9), 99), (31, 0, 99)] [7, 8, 10, 11, 16, 20, 21, 24, 25, 26, 27, 28, 29, 30, 58, 59, 60, 61, 62] (by decide +kernel) (fun ρ α => by
  intro r9 g9 b9 r10 g10 b10 r11 g11 b11 r12 g12 b12 r14 g14 b14 r15 g15 b15 r16 g16 b16 r17 g17 b17 r18 g18 b18 r19 g19 b19 r20 g20 b20 r21 g21 b21 r22 g22 b22 r23 g23 b23 r24 g24 b24 r25 g25 b25 r26 g26 b26 r27 g27 b27 r28 g28 b28 r29 g29 b29 r30 g30 b30 r31 g31 b31 a7 h7 a8 h8 a10 h10 a11 h11 a16 h16 a20 h20 a21 h21 a24 h24 a25 h25 a26 h26 a27 h27 a28 h28 a29 h29 a30 h30 a58 h58 a59 h59 a60 h60 a61 h61 a62 h62 f0 f1 f2 f3 f4 f5 f6 f7 f8 f9 f10 f11 f12 f13 f14 f15 f16 f17 f18 f19 f20 f21 f22 f23 f24 f25 tt
  have e87 : PT 87 = P_pr := pe87_4 hp
  have e90 : PT 90 = P_adI := pe90_4 hp
  simp only [hF0, hF2, hF5, hF6, hF8, hF10, hF14, hF20, hF21, hF24, hFp_87, hFp_90, e87, e90, P_pr, P_adI, den_s, den_c, Int.add_zero, List.map_cons, List.map_nil, g9.eq, g10.eq, g11.eq, g12.eq, g14.eq, g15.eq, g16.eq, g17.eq, g18.eq, g19.eq, g20.eq, g21.eq, g22.eq, g23.eq, g24.eq, g25.eq, g26.eq, g27.eq, g28.eq, g29.eq, g30.eq, g31.eq, h7, h8, h10, h11, h16, h20, h21, h24, h25, h26, h27, h28, h29, h30, h58, h59, h60, h61, h62] at f0 f1 f2 f3 f4 f5 f6 f7 f8 f9 f10 f11 f12 f13 f14 f15 f16 f17 f18 f19 f20 f21 f22 f23 f24 f25 ⊢
  subst f0
  subst f1
  subst f2
  subst f3
  subst f5
  subst f6
  subst f7
  subst f8
  subst f9
  subst f11
  subst f12
  subst f14
  subst f15
  subst f17
  subst f18
  subst f19
  subst f21
  subst f22
  refine adI_s f24 (by omega) (by omega) ?_
  have k : a26 r15 % 5 = 1 := by omega
  rw [acF_1 k]
  unfold fuF
  dsimp only
  ((repeat' split) <;> first | rfl | (exfalso; omega)))
def w_advance14_1_17 : VC := (([(0, 23), (0, 49), (0, 8), (0, 11), (0, 9), (0, 6), (0, 6), (0, 8), (0, 9), (1, 49), (0, 49), ((-2147483648), 2147483647), ((-2147483648), 2147483647), (0, 5), (0, 23), (0, 48), (0, 119), (5, 120), (0, 8), (0, 119), (1, 1), ((-2147483648), 2147483647), (0, 0), (0, 9), (0, 3)]), [(1, [(some 24, 0), (none, 1)], []), (20, [(some 24, 0), (some 23, 0)], [60]), (20, [(some 23, 0), (some 18, 0)], [16]), (0, [(some 22, 0), (none, 0)], []), (10, [(some 22, 0), (some 21, 0), (none, 1)], []), (14, [(some 21, 0), (some 11, 0), (some 18, 0)], []), (0, [(some 20, 0), (none, 1)], []), (8, [(some 20, 0), (some 19, 0), (none, 5)], []), (20, [(some 19, 0), (some 15, 0)], [26]), (20, [(some 18, 0), (some 15, 0)], [27]), (2, [(some 16, 0), (some 17, 0)], []), (6, [(some 17, 0), (none, 5), (some 14, 1)], []), (20, [(some 16, 0), (some 15, 0)], [26]), (2, [(some 15, 0), (some 9, 0)], []), (90, [(some 10, 0), (some 15, 0), (some 9, 0), (some 14, 0), (some 11, 0), (some 12, 0)], [26, 27, 7, 8, 10, 11, 16, 20, 21, 24, 25, 28, 29, 30, 58, 59, 60]), (87, [(some 9, 0)], [26, 27])], (90, [(some 10, 0), (some 15, 1), (some 9, 0), (some 14, 0), (some 11, 0), (some 12, 0)], [26, 27, 7, 8, 10, 11, 16, 20, 21, 24, 25, 28, 29, 30, 58, 59, 60]))
set_option maxRecDepth 20000 in
theorem v_advance14_1_17 {PT : PTy} (hp : HP4 PT) : vcOk PT w_advance14_1_17 := vc_iv [(9, 1, 49), (10, 0, 49), (11, (-2147483648), 2147483647), (12, (-2147483648), 2147483647), (14, 0, 23), (15, 0, 48), (16, 0, 119), (17, 5, 120), (18, 0, 8), (19, 0, 119), (20, 1, 1), (21, (-2147483648), 2147483647), (22, 0, 0), (23, 0, 9), (24, 0, 3)] [7, 8, 10, 11, 16, 20, 21, 24, 25, 26, 27, 28, 29, 30, 58, 59, 60] (by decide +kernel) (fun ρ α => by
  intro r9 g9 b9 r10 g10 b10 r11 g11 b11 r12 g12 b12 r14 g14 b14 r15 g15 b15 r16 g16 b16 r17 g17 b17 r18 g18 b18 r19 g19 b19 r20 g20 b20 r21 g21 b21 r22 g22 b22 r23 g23 b23 r24 g24 b24 a7 h7 a8 h8 a10 h10 a11 h11 a16 h16 a20 h20 a21 h21 a24 h24 a25 h25 a26 h26 a27 h27 a28 h28 a29 h29 a30 h30 a58 h58 a59 h59 a60 h60 f0 f1 f2 f3 f4 f5 f6 f7 f8 f9 f10 f11 f12 f13 f14 f15 tt
  have e87 : PT 87 = P_pr := pe87_4 hp
  have e90 : PT 90 = P_adI := pe90_4 hp
  simp only [hF0, hF1, hF2, hF6, hF8, hF10, hF14, hF20, hFp_87, hFp_90, e87, e90, P_pr, P_adI, den_s, den_c, Int.add_zero, List.map_cons, List.map_nil, g9.eq, g10.eq, g11.eq, g12.eq, g14.eq, g15.eq, g16.eq, g17.eq, g18.eq, g19.eq, g20.eq, g21.eq, g22.eq, g23.eq, g24.eq, h7, h8, h10, h11, h16, h20, h21, h24, h25, h26, h27, h28, h29, h30, h58, h59, h60] at f0 f1 f2 f3 f4 f5 f6 f7 f8 f9 f10 f11 f12 f13 f14 f15 ⊢
  subst f1
  subst f2
  subst f4
  subst f5
  subst f7
  subst f8
  subst f9
  subst f11
  subst f12
  refine adI_s f14 (by omega) (by omega) ?_
  have k : a26 r15 % 5 = 1 := by omega
  rw [acF_1 k]
  unfold fuF
  dsimp only
  ((repeat' split) <;> first | rfl | (exfalso; omega)))
def w_advance14_1_18 : VC := (([(0, 23), (0, 49), (0, 8), (0, 11), (0, 9), (0, 6), (0, 6), (0, 8), (0, 9), (1, 49), (0, 49), ((-2147483648), 2147483647), ((-2147483648), 2147483647), (0, 5), (0, 23), (0, 48), (0, 119), (5, 120), (0, 10), (0, 119), (2, 2), (1, 1), (0, 7), (0, 1), (0, 7), (0, 1), (0, 9), (0, 9), (0, 99), (0, 99), ((-2147483648), 2147483647), ((-2147483648), 2147483647)]), [(21, [(some 22, 0), (some 31, 0)], [63, 59]), (16, [(some 31, 0), (some 30, 0), (none, 1)], []), (20, [(some 30, 0), (some 22, 0)], [59]), (21, [(some 22, 0), (some 29, 0)], [62, 58]), (3, [(some 29, 0), (none, 0)], []), (5, [(some 29, 0), (some 28, 0), (some 27, 0)], []), (20, [(some 28, 0), (some 22, 0)], [58]), (7, [(some 27, 0), (some 26, 0), (none, 2)], []), (1, [(some 25, 0), (none, 2)], []), (1, [(some 25, 0), (none, 1)], []), (20, [(some 26, 0), (some 18, 0)], [11]), (20, [(some 25, 0), (some 24, 0)], [7]), (20, [(some 24, 0), (some 18, 0)], [10]), (1, [(some 23, 0), (none, 2)], []), (20, [(some 23, 0), (some 22, 0)], [7]), (20, [(some 22, 0), (some 18, 0)], [10]), (21, [(some 18, 0), (none, 3)], [61, 60]), (0, [(some 21, 0), (none, 1)], []), (20, [(some 21, 0), (some 18, 0)], [60]), (0, [(some 20, 0), (none, 2)], []), (8, [(some 20, 0), (some 19, 0), (none, 5)], []), (20, [(some 19, 0), (some 15, 0)], [26]), (20, [(some 18, 0), (some 15, 0)], [27]), (2, [(some 16, 0), (some 17, 0)], []), (6, [(some 17, 0), (none, 5), (some 14, 1)], []), (20, [(some 16, 0), (some 15, 0)], [26]), (2, [(some 15, 0), (some 9, 0)], []), (90, [(some 10, 0), (some 15, 0), (some 9, 0), (some 14, 0), (some 11, 0), (some 12, 0)], [26, 27, 7, 8, 10, 11, 16, 20, 21, 24, 25, 28, 29, 30, 58, 59, 60]), (87, [(some 9, 0)], [26, 27])], (90, [(some 10, 0), (some 15, 1), (some 9, 0), (some 14, 0), (some 11, 0), (some 12, 0)], [26, 27, 7, 8, 10, 11, 16, 20, 21, 24, 25, 28, 29, 30, 62, 63, 61]))
set_option maxRecDepth 20000 in
theorem v_advance14_1_18 {PT : PTy} (hp : HP4 PT) : vcOk PT w_advance14_1_18 := vc_iv [(9, 1, 49), (10, 0, 49), (11, (-2147483648), 2147483647), (12, (-2147483648), 2147483647), (14, 0, 23), (15, 0, 48), (16, 0, 119), (17, 5, 120), (18, 0, 10), (19, 0, 119), (20, 2, 2), (21, 1, 1), (22, 0, 7), (23, 0, 1), (24, 0, 7), (25, 0, 1), (26, 0, 9), (27, 0, 9), (28, 0, 99), (29, 0, 99), (30, (-2147483648), 2147483647), (31, (-2147483648), 2147483647)] [7, 8, 10, 11, 16, 20, 21, 24, 25, 26, 27, 28, 29, 30, 58, 59, 60, 61, 62, 63] (by decide +kernel) (fun ρ α => by
  intro r9 g9 b9 r10 g10 b10 r11 g11 b11 r12 g12 b12 r14 g14 b14 r15 g15 b15 r16 g16 b16 r17 g17 b17 r18 g18 b18 r19 g19 b19 r20 g20 b20 r21 g21 b21 r22 g22 b22 r23 g23 b23 r24 g24 b24 r25 g25 b25 r26 g26 b26 r27 g27 b27 r28 g28 b28 r29 g29 b29 r30 g30 b30 r31 g31 b31 a7 h7 a8 h8 a10 h10 a11 h11 a16 h16 a20 h20 a21 h21 a24 h24 a25 h25 a26 h26 a27 h27 a28 h28 a29 h29 a30 h30 a58 h58 a59 h59 a60 h60 a61 h61 a62 h62 a63 h63 f0 f1 f2 f3 f4 f5 f6 f7 f8 f9 f10 f11 f12 f13 f14 f15 f16 f17 f18 f19 f20 f21 f22 f23 f24 f25 f26 f27 f28 tt
  clear f4 f8 f13
  have e87 : PT 87 = P_pr := pe87_4 hp
  have e90 : PT 90 = P_adI := pe90_4 hp
  simp only [hF0, hF1, hF2, hF5, hF6, hF7, hF8, hF16, hF20, hF21, hFp_87, hFp_90, e87, e90, P_pr, P_adI, den_s, den_c, Int.add_zero, List.map_cons, List.map_nil, g9.eq, g10.eq, g11.eq, g12.eq, g14.eq, g15.eq, g16.eq, g17.eq, g18.eq, g19.eq, g20.eq, g21.eq, g22.eq, g23.eq, g24.eq, g25.eq, g26.eq, g27.eq, g28.eq, g29.eq, g30.eq, g31.eq, h7, h8, h10, h11, h16, h20, h21, h24, h25, h26, h27, h28, h29, h30, h58, h59, h60, h61, h62, h63] at f0 f1 f2 f3 f5 f6 f7 f9 f10 f11 f12 f14 f15 f16 f17 f18 f19 f20 f21 f22 f23 f24 f25 f26 f27 f28 ⊢
  subst f0
  subst f1
  subst f2
  subst f3
  subst f5
  subst f6
  subst f7
  subst f10
  subst f11
  subst f12
  subst f14
  subst f15
  subst f16
  subst f18
  subst f20
  subst f21
  subst f22
  subst f24
  subst f25
  refine adI_s f27 (by omega) (by omega) ?_
  have k : a26 r15 % 5 = 2 := by omega
  rw [acF_2 k]
  unfold faF shF gnF
  dsimp only
  ((repeat' split) <;> first | rfl | (exfalso; omega)))
def w_advance14_1_19 : VC := (([(0, 23), (0, 49), (0, 8), (0, 11), (0, 9), (0, 6), (0, 6), (0, 8), (0, 9), (1, 49), (0, 49), ((-2147483648), 2147483647), ((-2147483648), 2147483647), (0, 5), (0, 23), (0, 48), (0, 119), (5, 120), (0, 10), (0, 119), (2, 2), (1, 1), (0, 7), (0, 1), (0, 7), (0, 1), (0, 9), (0, 9), (0, 99), ((-9), (-1)), ((-2147483648), 2147483647), ((-2147483648), 2147483647)]), [(21, [(some 22, 0), (some 31, 0)], [63, 59]), (16, [(some 31, 0), (some 30, 0), (none, 1)], []), (20, [(some 30, 0), (some 22, 0)], [59]), (21, [(some 22, 0), (none, 0)], [62, 58]), (2, [(some 29, 0), (none, 0)], []), (5, [(some 29, 0), (some 28, 0), (some 27, 0)], []), (20, [(some 28, 0), (some 22, 0)], [58]), (7, [(some 27, 0), (some 26, 0), (none, 2)], []), (1, [(some 25, 0), (none, 2)], []), (1, [(some 25, 0), (none, 1)], []), (20, [(some 26, 0), (some 18, 0)], [11]), (20, [(some 25, 0), (some 24, 0)], [7]), (20, [(some 24, 0), (some 18, 0)], [10]), (1, [(some 23, 0), (none, 2)], []), (20, [(some 23, 0), (some 22, 0)], [7]), (20, [(some 22, 0), (some 18, 0)], [10]), (21, [(some 18, 0), (none, 3)], [61, 60]), (0, [(some 21, 0), (none, 1)], []), (20, [(some 21, 0), (some 18, 0)], [60]), (0, [(some 20, 0), (none, 2)], []), (8, [(some 20, 0), (some 19, 0), (none, 5)], []), (20, [(some 19, 0), (some 15, 0)], [26]), (20, [(some 18, 0), (some 15, 0)], [27]), (2, [(some 16, 0), (some 17, 0)], []), (6, [(some 17, 0), (none, 5), (some 14, 1)], []), (20, [(some 16, 0), (some 15, 0)], [26]), (2, [(some 15, 0), (some 9, 0)], []), (90, [(some 10, 0), (some 15, 0), (some 9, 0), (some 14, 0), (some 11, 0), (some 12, 0)], [26, 27, 7, 8, 10, 11, 16, 20, 21, 24, 25, 28, 29, 30, 58, 59, 60]), (87, [(some 9, 0)], [26, 27])], (90, [(some 10, 0), (some 15, 1), (some 9, 0), (some 14, 0), (some 11, 0), (some 12, 0)], [26, 27, 7, 8, 10, 11, 16, 20, 21, 24, 25, 28, 29, 30, 62, 63, 61]))
set_option maxRecDepth 20000 in
theorem v_advance14_1_19 {PT : PTy} (hp : HP4 PT) : vcOk PT w_advance14_1_19 := vc_iv [(9, 1, 49), (10, 0, 49), (11, (-2147483648), 2147483647), (12, (-2147483648), 2147483647), (14, 0, 23), (15, 0, 48), (16, 0, 119), (17, 5, 120), (18, 0, 10), (19, 0, 119), (20, 2, 2), (21, 1, 1), (22, 0, 7), (23, 0, 1), (24, 0, 7), (25, 0, 1), (26, 0, 9), (27, 0, 9), (28, 0, 99), (29, (-9), (-1)), (30, (-2147483648), 2147483647), (31, (-2147483648), 2147483647)] [7, 8, 10, 11, 16, 20, 21, 24, 25, 26, 27, 28, 29, 30, 58, 59, 60, 61, 62, 63] (by decide +kernel) (fun ρ α => by
  intro r9 g9 b9 r10 g10 b10 r11 g11 b11 r12 g12 b12 r14 g14 b14 r15 g15 b15 r16 g16 b16 r17 g17 b17 r18 g18 b18 r19 g19 b19 r20 g20 b20 r21 g21 b21 r22 g22 b22 r23 g23 b23 r24 g24 b24 r25 g25 b25 r26 g26 b26 r27 g27 b27 r28 g28 b28 r29 g29 b29 r30 g30 b30 r31 g31 b31 a7 h7 a8 h8 a10 h10 a11 h11 a16 h16 a20 h20 a21 h21 a24 h24 a25 h25 a26 h26 a27 h27 a28 h28 a29 h29 a30 h30 a58 h58 a59 h59 a60 h60 a61 h61 a62 h62 a63 h63 f0 f1 f2 f3 f4 f5 f6 f7 f8 f9 f10 f11 f12 f13 f14 f15 f16 f17 f18 f19 f20 f21 f22 f23 f24 f25 f26 f27 f28 tt
  clear f4 f8 f13
  have e87 : PT 87 = P_pr := pe87_4 hp
  have e90 : PT 90 = P_adI := pe90_4 hp
  simp only [hF0, hF1, hF2, hF5, hF6, hF7, hF8, hF16, hF20, hF21, hFp_87, hFp_90, e87, e90, P_pr, P_adI, den_s, den_c, Int.add_zero, List.map_cons, List.map_nil, g9.eq, g10.eq, g11.eq, g12.eq, g14.eq, g15.eq, g16.eq, g17.eq, g18.eq, g19.eq, g20.eq, g21.eq, g22.eq, g23.eq, g24.eq, g25.eq, g26.eq, g27.eq, g28.eq, g29.eq, g30.eq, g31.eq, h7, h8, h10, h11, h16, h20, h21, h24, h25, h26, h27, h28, h29, h30, h58, h59, h60, h61, h62, h63] at f0 f1 f2 f3 f5 f6 f7 f9 f10 f11 f12 f14 f15 f16 f17 f18 f19 f20 f21 f22 f23 f24 f25 f26 f27 f28 ⊢
  subst f0
  subst f1
  subst f2
  subst f3
  subst f5
  subst f6
  subst f7
  subst f10
  subst f11
  subst f12
  subst f14
  subst f15
  subst f16
  subst f18
  subst f20
  subst f21
  subst f22
  subst f24
  subst f25
  refine adI_s f27 (by omega) (by omega) ?_
  have k : a26 r15 % 5 = 2 := by omega
  rw [acF_2 k]
  unfold faF shF gnF
  dsimp only
  ((repeat' split) <;> first | rfl | (exfalso; omega)))
def w_advance14_1_20 : VC := (([(0, 23), (0, 49), (0, 8), (0, 11), (0, 9), (0, 6), (0, 6), (0, 8), (0, 9), (1, 49), (0, 49), ((-2147483648), 2147483647), ((-2147483648), 2147483647), (0, 5), (0, 23), (0, 48), (0, 119), (5, 120), (0, 10), (0, 119), (2, 2), (1, 1), (0, 7), (0, 1), (0, 7), (2, 2), (0, 9), (0, 99), (0, 99), ((-2147483648), 2147483647), ((-2147483648), 2147483647)]), [(21, [(some 22, 0), (some 30, 0)], [63, 59]), (16, [(some 30, 0), (some 29, 0), (none, 1)], []), (20, [(some 29, 0), (some 22, 0)], [59]), (21, [(some 22, 0), (some 28, 0)], [62, 58]), (3, [(some 28, 0), (none, 0)], []), (5, [(some 28, 0), (some 27, 0), (some 26, 0)], []), (20, [(some 27, 0), (some 22, 0)], [58]), (0, [(some 25, 0), (none, 2)], []), (1, [(some 25, 0), (none, 1)], []), (20, [(some 26, 0), (some 18, 0)], [11]), (20, [(some 25, 0), (some 24, 0)], [7]), (20, [(some 24, 0), (some 18, 0)], [10]), (1, [(some 23, 0), (none, 2)], []), (20, [(some 23, 0), (some 22, 0)], [7]), (20, [(some 22, 0), (some 18, 0)], [10]), (21, [(some 18, 0), (none, 3)], [61, 60]), (0, [(some 21, 0), (none, 1)], []), (20, [(some 21, 0), (some 18, 0)], [60]), (0, [(some 20, 0), (none, 2)], []), (8, [(some 20, 0), (some 19, 0), (none, 5)], []), (20, [(some 19, 0), (some 15, 0)], [26]), (20, [(some 18, 0), (some 15, 0)], [27]), (2, [(some 16, 0), (some 17, 0)], []), (6, [(some 17, 0), (none, 5), (some 14, 1)], []), (20, [(some 16, 0), (some 15, 0)], [26]), (2, [(some 15, 0), (some 9, 0)], []), (90, [(some 10, 0), (some 15, 0), (some 9, 0), (some 14, 0), (some 11, 0), (some 12, 0)], [26, 27, 7, 8, 10, 11, 16, 20, 21, 24, 25, 28, 29, 30, 58, 59, 60]), (87, [(some 9, 0)], [26, 27])], (90, [(some 10, 0), (some 15, 1), (some 9, 0), (some 14, 0), (some 11, 0), (some 12, 0)], [26, 27, 7, 8, 10, 11, 16, 20, 21, 24, 25, 28, 29, 30, 62, 63, 61]))
set_option maxRecDepth 20000 in
theorem v_advance14_1_20 {PT : PTy} (hp : HP4 PT) : vcOk PT w_advance14_1_20 := vc_iv [(9, 1, 49), (10, 0, 49), (11, (-2147483648), 2147483647), (12, (-2147483648), 2147483647), (14, 0, 23), (15, 0, 48), (16, 0, 119), (17, 5, 120), (18, 0, 10), (19, 0, 119), (20, 2, 2), (21, 1, 1), (22, 0, 7), (23, 0, 1), (24, 0, 7), (25, 2, 2), (26, 0, 9), (27, 0, 99), (28, 0, 99), (29, (-2147483648), 2147483647), (30, (-2147483648), 2147483647)] [7, 8, 10, 11, 16, 20, 21, 24, 25, 26, 27, 28, 29, 30, 58, 59, 60, 61, 62, 63] (by decide +kernel) (fun ρ α => by
  intro r9 g9 b9 r10 g10 b10 r11 g11 b11 r12 g12 b12 r14 g14 b14 r15 g15 b15 r16 g16 b16 r17 g17 b17 r18 g18 b18 r19 g19 b19 r20 g20 b20 r21 g21 b21 r22 g22 b22 r23 g23 b23 r24 g24 b24 r25 g25 b25 r26 g26 b26 r27 g27 b27 r28 g28 b28 r29 g29 b29 r30 g30 b30 a7 h7 a8 h8 a10 h10 a11 h11 a16 h16 a20 h20 a21 h21 a24 h24 a25 h25 a26 h26 a27 h27 a28 h28 a29 h29 a30 h30 a58 h58 a59 h59 a60 h60 a61 h61 a62 h62 a63 h63 f0 f1 f2 f3 f4 f5 f6 f7 f8 f9 f10 f11 f12 f13 f14 f15 f16 f17 f18 f19 f20 f21 f22 f23 f24 f25 f26 f27 tt
  clear f4 f8 f12
  have e87 : PT 87 = P_pr := pe87_4 hp
  have e90 : PT 90 = P_adI := pe90_4 hp
  simp only [hF0, hF2, hF5, hF6, hF8, hF16, hF20, hF21, hFp_87, hFp_90, e87, e90, P_pr, P_adI, den_s, den_c, Int.add_zero, List.map_cons, List.map_nil, g9.eq, g10.eq, g11.eq, g12.eq, g14.eq, g15.eq, g16.eq, g17.eq, g18.eq, g19.eq, g20.eq, g21.eq, g22.eq, g23.eq, g24.eq, g25.eq, g26.eq, g27.eq, g28.eq, g29.eq, g30.eq, h7, h8, h10, h11, h16, h20, h21, h24, h25, h26, h27, h28, h29, h30, h58, h59, h60, h61, h62, h63] at f0 f1 f2 f3 f5 f6 f7 f9 f10 f11 f13 f14 f15 f16 f17 f18 f19 f20 f21 f22 f23 f24 f25 f26 f27 ⊢
  subst f0
  subst f1
  subst f2
  subst f3
  subst f5
  subst f6
  subst f9
  subst f10
  subst f11
  subst f13
  subst f14
  subst f15
  subst f17
  subst f19
  subst f20
  subst f21
  subst f23
  subst f24
  refine adI_s f26 (by omega) (by omega) ?_
  have k : a26 r15 % 5 = 2 := by omega
  rw [acF_2 k]
  unfold faF shF gnF
  dsimp only
  ((repeat' split) <;> first | rfl | (exfalso; omega)))
def w_advance14_1_21 : VC := (([(0, 23), (0, 49), (0, 8), (0, 11), (0, 9), (0, 6), (0, 6), (0, 8), (0, 9), (1, 49), (0, 49), ((-2147483648), 2147483647), ((-2147483648), 2147483647), (0, 5), (0, 23), (0, 48), (0, 119), (5, 120), (0, 10), (0, 119), (2, 2), (1, 1), (0, 7), (0, 1), (0, 7), (2, 2), (0, 9), (0, 99), ((-9), (-1)), ((-2147483648), 2147483647), ((-2147483648), 2147483647)]), [(21, [(some 22, 0), (some 30, 0)], [63, 59]), (16, [(some 30, 0), (some 29, 0), (none, 1)], []), (20, [(some 29, 0), (some 22, 0)], [59]), (21, [(some 22, 0), (none, 0)], [62, 58]), (2, [(some 28, 0), (none, 0)], []), (5, [(some 28, 0), (some 27, 0), (some 26, 0)], []), (20, [(some 27, 0), (some 22, 0)], [58]), (0, [(some 25, 0), (none, 2)], []), (1, [(some 25, 0), (none, 1)], []), (20, [(some 26, 0), (some 18, 0)], [11]), (20, [(some 25, 0), (some 24, 0)], [7]), (20, [(some 24, 0), (some 18, 0)], [10]), (1, [(some 23, 0), (none, 2)], []), (20, [(some 23, 0), (some 22, 0)], [7]), (20, [(some 22, 0), (some 18, 0)], [10]), (21, [(some 18, 0), (none, 3)], [61, 60]), (0, [(some 21, 0), (none, 1)], []), (20, [(some 21, 0), (some 18, 0)], [60]), (0, [(some 20, 0), (none, 2)], []), (8, [(some 20, 0), (some 19, 0), (none, 5)], []), (20, [(some 19, 0), (some 15, 0)], [26]), (20, [(some 18, 0), (some 15, 0)], [27]), (2, [(some 16, 0), (some 17, 0)], []), (6, [(some 17, 0), (none, 5), (some 14, 1)], []), (20, [(some 16, 0), (some 15, 0)], [26]), (2, [(some 15, 0), (some 9, 0)], []), (90, [(some 10, 0), (some 15, 0), (some 9, 0), (some 14, 0), (some 11, 0), (some 12, 0)], [26, 27, 7, 8, 10, 11, 16, 20, 21, 24, 25, 28, 29, 30, 58, 59, 60]), (87, [(some 9, 0)], [26, 27])], (90, [(some 10, 0), (some 15, 1), (some 9, 0), (some 14, 0), (some 11, 0), (some 12, 0)], [26, 27, 7, 8, 10, 11, 16, 20, 21, 24, 25, 28, 29, 30, 62, 63, 61]))
set_option maxRecDepth 20000 in
theorem v_advance14_1_21 {PT : PTy} (hp : HP4 PT) : vcOk PT w_advance14_1_21 := vc_iv [(9, 1, 49), (10, 0, 49), (11, (-2147483648), 2147483647), (12, (-2147483648), 2147483647), (14, 0, 23), (15, 0, 48), (16, 0, 119), (17, 5, 120), (18, 0, 10), (19, 0, 119), (20, 2, 2), (21, 1, 1), (22, 0, 7), (23, 0, 1), (24, 0, 7), (25, 2, 2), (26, 0, 9), (27, 0, 99), (28, (-9), (-1)), (29, (-2147483648), 2147483647), (30, (-2147483648), 2147483647)] [7, 8, 10, 11, 16, 20, 21, 24, 25, 26, 27, 28, 29, 30, 58, 59, 60, 61, 62, 63] (by decide +kernel) (fun ρ α => by
  intro r9 g9 b9 r10 g10 b10 r11 g11 b11 r12 g12 b12 r14 g14 b14 r15 g15 b15 r16 g16 b16 r17 g17 b17 r18 g18 b18 r19 g19 b19 r20 g20 b20 r21 g21 b21 r22 g22 b22 r23 g23 b23 r24 g24 b24 r25 g25 b25 r26 g26 b26 r27 g27 b27 r28 g28 b28 r29 g29 b29 r30 g30 b30 a7 h7 a8 h8 a10 h10 a11 h11 a16 h16 a20 h20 a21 h21 a24 h24 a25 h25 a26 h26 a27 h27 a28 h28 a29 h29 a30 h30 a58 h58 a59 h59 a60 h60 a61 h61 a62 h62 a63 h63 f0 f1 f2 f3 f4 f5 f6 f7 f8 f9 f10 f11 f12 f13 f14 f15 f16 f17 f18 f19 f20 f21 f22 f23 f24 f25 f26 f27 tt
  clear f4 f8 f12
  have e87 : PT 87 = P_pr := pe87_4 hp
  have e90 : PT 90 = P_adI := pe90_4 hp
  simp only [hF0, hF2, hF5, hF6, hF8, hF16, hF20, hF21, hFp_87, hFp_90, e87, e90, P_pr, P_adI, den_s, den_c, Int.add_zero, List.map_cons, List.map_nil, g9.eq, g10.eq, g11.eq, g12.eq, g14.eq, g15.eq, g16.eq, g17.eq, g18.eq, g19.eq, g20.eq, g21.eq, g22.eq, g23.eq, g24.eq, g25.eq, g26.eq, g27.eq, g28.eq, g29.eq, g30.eq, h7, h8, h10, h11, h16, h20, h21, h24, h25, h26, h27, h28, h29, h30, h58, h59, h60, h61, h62, h63] at f0 f1 f2 f3 f5 f6 f7 f9 f10 f11 f13 f14 f15 f16 f17 f18 f19 f20 f21 f22 f23 f24 f25 f26 f27 ⊢
  subst f0
  subst f1
  subst f2
  subst f3
  subst f5
  subst f6
  subst f9
  subst f10
  subst f11
  subst f13
  subst f14
  subst f15
  subst f17
  subst f19
  subst f20
  subst f21
  subst f23
  subst f24
  refine adI_s f26 (by omega) (by omega) ?_
  have k : a26 r15 % 5 = 2 := by omega
  rw [acF_2 k]
  unfold faF shF gnF
  dsimp only
  ((repeat' split) <;> first | rfl | (exfalso; omega)))
def w_advance14_1_22 : VC := (([(0, 23), (0, 49), (0, 8), (0, 11), (0, 9), (0, 6), (0, 6), (0, 8), (0, 9), (1, 49), (0, 49), ((-2147483648), 2147483647), ((-2147483648), 2147483647), (0, 5), (0, 23), (0, 48), (0, 119), (5, 120), (0, 10), (0, 119), (2, 2), (1, 1), (0, 7), (0, 1), (0, 7), (1, 1), (0, 9), (0, 18), (0, 99), (0, 99), ((-2147483648), 2147483647), ((-2147483648), 2147483647)]), [(21, [(some 22, 0), (some 31, 0)], [63, 59]), (16, [(some 31, 0), (some 30, 0), (none, 1)], []), (20, [(some 30, 0), (some 22, 0)], [59]), (21, [(some 22, 0), (some 29, 0)], [62, 58]), (3, [(some 29, 0), (none, 0)], []), (5, [(some 29, 0), (some 28, 0), (some 27, 0)], []), (20, [(some 28, 0), (some 22, 0)], [58]), (6, [(some 27, 0), (none, 2), (some 26, 0)], []), (0, [(some 25, 0), (none, 1)], []), (20, [(some 26, 0), (some 18, 0)], [11]), (20, [(some 25, 0), (some 24, 0)], [7]), (20, [(some 24, 0), (some 18, 0)], [10]), (1, [(some 23, 0), (none, 2)], []), (20, [(some 23, 0), (some 22, 0)], [7]), (20, [(some 22, 0), (some 18, 0)], [10]), (21, [(some 18, 0), (none, 3)], [61, 60]), (0, [(some 21, 0), (none, 1)], []), (20, [(some 21, 0), (some 18, 0)], [60]), (0, [(some 20, 0), (none, 2)], []), (8, [(some 20, 0), (some 19, 0), (none, 5)], []), (20, [(some 19, 0), (some 15, 0)], [26]), (20, [(some 18, 0), (some 15, 0)], [27]), (2, [(some 16, 0), (some 17, 0)], []), (6, [(some 17, 0), (none, 5), (some 14, 1)], []), (20, [(some 16, 0), (some 15, 0)], [26]), (2, [(some 15, 0), (some 9, 0)], []), (90, [(some 10, 0), (some 15, 0), (some 9, 0), (some 14, 0), (some 11, 0), (some 12, 0)], [26, 27, 7, 8, 10, 11, 16, 20, 21, 24, 25, 28, 29, 30, 58, 59, 60]), (87, [(some 9, 0)], [26, 27])], (90, [(some 10, 0), (some 15, 1), (some 9, 0), (some 14, 0), (some 11, 0), (some 12, 0)], [26, 27, 7, 8, 10, 11, 16, 20, 21, 24, 25, 28, 29, 30, 62, 63, 61]))
set_option maxRecDepth 20000 in
theorem v_advance14_1_22 {PT : PTy} (hp : HP4 PT) : vcOk PT w_advance14_1_22 := vc_iv [(9, 1, 49), (10, 0, 49), (11, (-2147483648), 2147483647), (12, (-2147483648), 2147483647), (14, 0, 23), (15, 0, 48), (16, 0, 119), (17, 5, 120), (18, 0, 10), (19, 0, 119), (20, 2, 2), (21, 1, 1), (22, 0, 7), (23, 0, 1), (24, 0, 7), (25, 1, 1), (26, 0, 9), (27, 0, 18), (28, 0, 99), (29, 0, 99), (30, (-2147483648), 2147483647), (31, (-2147483648), 2147483647)] [7, 8, 10, 11, 16, 20, 21, 24, 25, 26, 27, 28, 29, 30, 58, 59, 60, 61, 62, 63] (by decide +kernel) (fun ρ α => by
  intro r9 g9 b9 r10 g10 b10 r11 g11 b11 r12 g12 b12 r14 g14 b14 r15 g15 b15 r16 g16 b16 r17 g17 b17 r18 g18 b18 r19 g19 b19 r20 g20 b20 r21 g21 b21 r22 g22 b22 r23 g23 b23 r24 g24 b24 r25 g25 b25 r26 g26 b26 r27 g27 b27 r28 g28 b28 r29 g29 b29 r30 g30 b30 r31 g31 b31 a7 h7 a8 h8 a10 h10 a11 h11 a16 h16 a20 h20 a21 h21 a24 h24 a25 h25 a26 h26 a27 h27 a28 h28 a29 h29 a30 h30 a58 h58 a59 h59 a60 h60 a61 h61 a62 h62 a63 h63 f0 f1 f2 f3 f4 f5 f6 f7 f8 f9 f10 f11 f12 f13 f14 f15 f16 f17 f18 f19 f20 f21 f22 f23 f24 f25 f26 f27 tt
  clear f4 f12
  have e87 : PT 87 = P_pr := pe87_4 hp
  have e90 : PT 90 = P_adI := pe90_4 hp
  simp only [hF0, hF2, hF5, hF6, hF8, hF16, hF20, hF21, hFp_87, hFp_90, e87, e90, P_pr, P_adI, den_s, den_c, Int.add_zero, List.map_cons, List.map_nil, g9.eq, g10.eq, g11.eq, g12.eq, g14.eq, g15.eq, g16.eq, g17.eq, g18.eq, g19.eq, g20.eq, g21.eq, g22.eq, g23.eq, g24.eq, g25.eq, g26.eq, g27.eq, g28.eq, g29.eq, g30.eq, g31.eq, h7, h8, h10, h11, h16, h20, h21, h24, h25, h26, h27, h28, h29, h30, h58, h59, h60, h61, h62, h63] at f0 f1 f2 f3 f5 f6 f7 f8 f9 f10 f11 f13 f14 f15 f16 f17 f18 f19 f20 f21 f22 f23 f24 f25 f26 f27 ⊢
  subst f0
  subst f1
  subst f2
  subst f3
  subst f5
  subst f6
  subst f7
  subst f9
  subst f10
  subst f11
  subst f13
  subst f14
  subst f15
  subst f17
  subst f19
  subst f20
  subst f21
  subst f23
  subst f24
  refine adI_s f26 (by omega) (by omega) ?_
  have k : a26 r15 % 5 = 2 := by omega
  rw [acF_2 k]
  unfold faF shF gnF
  dsimp only
  ((repeat' split) <;> first | rfl | (exfalso; omega)))
def w_advance14_1_23 : VC := (([(0, 23), (0, 49), (0, 8), (0, 11), (0, 9), (0, 6), (0, 6), (0, 8), (0, 9), (1, 49), (0, 49), ((-2147483648), 2147483647), ((-2147483648), 2147483647), (0, 5), (0, 23), (0, 48), (0, 119), (5, 120), (0, 10), (0, 119), (2, 2), (1, 1), (0, 7), (0, 1), (0, 7), (1, 1), (0, 9), (0, 18), (0, 99), ((-18), (-1)), ((-2147483648), 2147483647), ((-2147483648), 2147483647)]), [(21, [(some 22, 0), (some 31, 0)], [63, 59]), (16, [(some 31, 0), (some 30, 0), (none, 1)], []), (20, [(some 30, 0), (some 22, 0)], [59]), (21, [(some 22, 0), (none, 0)], [62, 58]), (2, [(some 29, 0), (none, 0)], []), (5, [(some 29, 0), (some 28, 0), (some 27, 0)], []), (20, [(some 28, 0), (some 22, 0)], [58]), (6, [(some 27, 0), (none, 2), (some 26, 0)], []), (0, [(some 25, 0), (none, 1)], []), (20, [(some 26, 0), (some 18, 0)], [11]), (20, [(some 25, 0), (some 24, 0)], [7]), (20, [(some 24, 0), (some 18, 0)], [10]), (1, [(some 23, 0), (none, 2)], []), (20, [(some 23, 0), (some 22, 0)], [7]), (20, [(some 22, 0), (some 18, 0)], [10]), (21, [(some 18, 0), (none, 3)], [61, 60]), (0, [(some 21, 0), (none, 1)], []), (20, [(some 21, 0), (some 18, 0)], [60]), (0, [(some 20, 0), (none, 2)], []), (8, [(some 20, 0), (some 19, 0), (none, 5)], []), (20, [(some 19, 0), (some 15, 0)], [26]), (20, [(some 18, 0), (some 15, 0)], [27]), (2, [(some 16, 0), (some 17, 0)], []), (6, [(some 17, 0), (none, 5), (some 14, 1)], []), (20, [(some 16, 0), (some 15, 0)], [26]), (2, [(some 15, 0), (some 9, 0)], []), (90, [(some 10, 0), (some 15, 0), (some 9, 0), (some 14, 0), (some 11, 0), (some 12, 0)], [26, 27, 7, 8, 10, 11, 16, 20, 21, 24, 25, 28, 29, 30, 58, 59, 60]), (87, [(some 9, 0)], [26, 27])], (90, [(some 10, 0), (some 15, 1), (some 9, 0), (some 14, 0), (some 11, 0), (some 12, 0)], [26, 27, 7, 8, 10, 11, 16, 20, 21, 24, 25, 28, 29, 30, 62, 63, 61]))
set_option maxRecDepth 20000 in
theorem v_advance14_1_23 {PT : PTy} (hp : HP4 PT) : vcOk PT w_advance14_1_23 := vc_iv [(9, 1, 49), (10, 0, 49), (11, (-2147483648), 2147483647), (12, (-2147483648), 2147483647), (14, 0, 23), (15, 0, 48), (16, 0, 119), (17, 5, 120), (18, 0, 10), (19, 0, 119), (20, 2, 2), (21, 1, 1), (22, 0, 7), (23, 0, 1), (24, 0, 7), (25, 1, 1), (26, 0, 9), (27, 0, 18), (28, 0, 99), (29, (-18), (-1)), (30, (-2147483648), 2147483647), (31, (-2147483648), 2147483647)] [7, 8, 10, 11, 16, 20, 21, 24, 25, 26, 27, 28, 29, 30, 58, 59, 60, 61, 62, 63] (by decide +kernel) (fun ρ α => by
  intro r9 g9 b9 r10 g10 b10 r11 g11 b11 r12 g12 b12 r14 g14 b14 r15 g15 b15 r16 g16 b16 r17 g17 b17 r18 g18 b18 r19 g19 b19 r20 g20 b20 r21 g21 b21 r22 g22 b22 r23 g23 b23 r24 g24 b24 r25 g25 b25 r26 g26 b26 r27 g27 b27 r28 g28 b28 r29 g29 b29 r30 g30 b30 r31 g31 b31 a7 h7 a8 h8 a10 h10 a11 h11 a16 h16 a20 h20 a21 h21 a24 h24 a25 h25 a26 h26 a27 h27 a28 h28 a29 h29 a30 h30 a58 h58 a59 h59 a60 h60 a61 h61 a62 h62 a63 h63 f0 f1 f2 f3 f4 f5 f6 f7 f8 f9 f10 f11 f12 f13 f14 f15 f16 f17 f18 f19 f20 f21 f22 f23 f24 f25 f26 f27 tt
  clear f4 f12
  have e87 : PT 87 = P_pr := pe87_4 hp
  have e90 : PT 90 = P_adI := pe90_4 hp
  simp only [hF0, hF2, hF5, hF6, hF8, hF16, hF20, hF21, hFp_87, hFp_90, e87, e90, P_pr, P_adI, den_s, den_c, Int.add_zero, List.map_cons, List.map_nil, g9.eq, g10.eq, g11.eq, g12.eq, g14.eq, g15.eq, g16.eq, g17.eq, g18.eq, g19.eq, g20.eq, g21.eq, g22.eq, g23.eq, g24.eq, g25.eq, g26.eq, g27.eq, g28.eq, g29.eq, g30.eq, g31.eq, h7, h8, h10, h11, h16, h20, h21, h24, h25, h26, h27, h28, h29, h30, h58, h59, h60, h61, h62, h63] at f0 f1 f2 f3 f5 f6 f7 f8 f9 f10 f11 f13 f14 f15 f16 f17 f18 f19 f20 f21 f22 f23 f24 f25 f26 f27 ⊢
  subst f0
  subst f1
  subst f2
  subst f3
  subst f5
  subst f6
  subst f7
  subst f9
  subst f10
  subst f11
  subst f13
  subst f14
  subst f15
  subst f17
  subst f19
  subst f20
  subst f21
  subst f23
  subst f24
  refine adI_s f26 (by omega) (by omega) ?_
  have k : a26 r15 % 5 = 2 := by omega
  rw [acF_2 k]
  unfold faF shF gnF
  dsimp only
  ((repeat' split) <;> first | rfl | (exfalso; omega)))
def w_advance14_1_24 : VC := (([(0, 23), (0, 49), (0, 8), (0, 11), (0, 9), (0, 6), (0, 6), (0, 8), (0, 9), (1, 49), (0, 49), ((-2147483648), 2147483647), ((-2147483648), 2147483647), (0, 5), (0, 23), (0, 48), (0, 119), (5, 120), (0, 10), (0, 119), (2, 2), (1, 1), (0, 7), (2, 2), (0, 7), (0, 1), (0, 9), (0, 9), (0, 99), (0, 97), ((-2147483648), 2147483647), ((-2147483648), 2147483647)]), [(21, [(some 22, 0), (some 31, 0)], [63, 59]), (16, [(some 31, 0), (some 30, 0), (none, 1)], []), (20, [(some 30, 0), (some 22, 0)], [59]), (21, [(some 22, 0), (some 29, 0)], [62, 58]), (3, [(some 29, 0), (none, 0)], []), (5, [(some 29, 0), (some 28, 0), (some 27, 2)], []), (20, [(some 28, 0), (some 22, 0)], [58]), (7, [(some 27, 0), (some 26, 0), (none, 2)], []), (1, [(some 25, 0), (none, 2)], []), (1, [(some 25, 0), (none, 1)], []), (20, [(some 26, 0), (some 18, 0)], [11]), (20, [(some 25, 0), (some 24, 0)], [7]), (20, [(some 24, 0), (some 18, 0)], [10]), (0, [(some 23, 0), (none, 2)], []), (20, [(some 23, 0), (some 22, 0)], [7]), (20, [(some 22, 0), (some 18, 0)], [10]), (21, [(some 18, 0), (none, 3)], [61, 60]), (0, [(some 21, 0), (none, 1)], []), (20, [(some 21, 0), (some 18, 0)], [60]), (0, [(some 20, 0), (none, 2)], []), (8, [(some 20, 0), (some 19, 0), (none, 5)], []), (20, [(some 19, 0), (some 15, 0)], [26]), (20, [(some 18, 0), (some 15, 0)], [27]), (2, [(some 16, 0), (some 17, 0)], []), (6, [(some 17, 0), (none, 5), (some 14, 1)], []), (20, [(some 16, 0), (some 15, 0)], [26]), (2, [(some 15, 0), (some 9, 0)], []), (90, [(some 10, 0), (some 15, 0), (some 9, 0), (some 14, 0), (some 11, 0), (some 12, 0)], [26, 27, 7, 8, 10, 11, 16, 20, 21, 24, 25, 28, 29, 30, 58, 59, 60]), (87, [(some 9, 0)], [26, 27])], (90, [(some 10, 0), (some 15, 1), (some 9, 0), (some 14, 0), (some 11, 0), (some 12, 0)], [26, 27, 7, 8, 10, 11, 16, 20, 21, 24, 25, 28, 29, 30, 62, 63, 61]))
set_option maxRecDepth 20000 in
theorem v_advance14_1_24 {PT : PTy} (hp : HP4 PT) : vcOk PT w_advance14_1_24 := vc_iv [(9, 1, 49), (10, 0, 49), (11, (-2147483648), 2147483647), (12, (-2147483648), 2147483647), (14, 0, 23), (15, 0, 48), (16, 0, 119), (17, 5, 120), (18, 0, 10), (19, 0, 119), (20, 2, 2), (21, 1, 1), (22, 0, 7), (23, 2, 2), (24, 0, 7), (25, 0, 1), (26, 0, 9), (27, 0, 9), (28, 0, 99), (29, 0, 97), (30, (-2147483648), 2147483647), (31, (-2147483648), 2147483647)] [7, 8, 10, 11, 16, 20, 21, 24, 25, 26, 27, 28, 29, 30, 58, 59, 60, 61, 62, 63] (by decide +kernel) (fun ρ α => by
  intro r9 g9 b9 r10 g10 b10 r11 g11 b11 r12 g12 b12 r14 g14 b14 r15 g15 b15 r16 g16 b16 r17 g17 b17 r18 g18 b18 r19 g19 b19 r20 g20 b20 r21 g21 b21 r22 g22 b22 r23 g23 b23 r24 g24 b24 r25 g25 b25 r26 g26 b26 r27 g27 b27 r28 g28 b28 r29 g29 b29 r30 g30 b30 r31 g31 b31 a7 h7 a8 h8 a10 h10 a11 h11 a16 h16 a20 h20 a21 h21 a24 h24 a25 h25 a26 h26 a27 h27 a28 h28 a29 h29 a30 h30 a58 h58 a59 h59 a60 h60 a61 h61 a62 h62 a63 h63 f0 f1 f2 f3 f4 f5 f6 f7 f8 f9 f10 f11 f12 f13 f14 f15 f16 f17 f18 f19 f20 f21 f22 f23 f24 f25 f26 f27 f28 tt
  clear f4 f8
  have e87 : PT 87 = P_pr := pe87_4 hp
  have e90 : PT 90 = P_adI := pe90_4 hp
  simp only [hF0, hF1, hF2, hF5, hF6, hF7, hF8, hF16, hF20, hF21, hFp_87, hFp_90, e87, e90, P_pr, P_adI, den_s, den_c, Int.add_zero, List.map_cons, List.map_nil, g9.eq, g10.eq, g11.eq, g12.eq, g14.eq, g15.eq, g16.eq, g17.eq, g18.eq, g19.eq, g20.eq, g21.eq, g22.eq, g23.eq, g24.eq, g25.eq, g26.eq, g27.eq, g28.eq, g29.eq, g30.eq, g31.eq, h7, h8, h10, h11, h16, h20, h21, h24, h25, h26, h27, h28, h29, h30, h58, h59, h60, h61, h62, h63] at f0 f1 f2 f3 f5 f6 f7 f9 f10 f11 f12 f13 f14 f15 f16 f17 f18 f19 f20 f21 f22 f23 f24 f25 f26 f27 f28 ⊢
  subst f0
  subst f1
  subst f2
  subst f3
  subst f5
  subst f6
  subst f7
  subst f10
  subst f11
  subst f12
  subst f14
  subst f15
  subst f16
  subst f18
  subst f20
  subst f21
  subst f22
  subst f24
  subst f25
  refine adI_s f27 (by omega) (by omega) ?_
  have k : a26 r15 % 5 = 2 := by omega
  rw [acF_2 k]
  unfold faF shF gnF
  dsimp only
  ((repeat' split) <;> first | rfl | (exfalso; omega)))
def w_advance14_1_25 : VC := (([(0, 23), (0, 49), (0, 8), (0, 11), (0, 9), (0, 6), (0, 6), (0, 8), (0, 9), (1, 49), (0, 49), ((-2147483648), 2147483647), ((-2147483648), 2147483647), (0, 5), (0, 23), (0, 48), (0, 119), (5, 120), (0, 10), (0, 119), (2, 2), (1, 1), (0, 7), (2, 2), (0, 7), (0, 1), (0, 9), (0, 9), (0, 99), ((-11), (-1)), ((-2147483648), 2147483647), ((-2147483648), 2147483647)]), [(21, [(some 22, 0), (some 31, 0)], [63, 59]), (16, [(some 31, 0), (some 30, 0), (none, 1)], []), (20, [(some 30, 0), (some 22, 0)], [59]), (21, [(some 22, 0), (none, 0)], [62, 58]), (2, [(some 29, 0), (none, 0)], []), (5, [(some 29, 0), (some 28, 0), (some 27, 2)], []), (20, [(some 28, 0), (some 22, 0)], [58]), (7, [(some 27, 0), (some 26, 0), (none, 2)], []), (1, [(some 25, 0), (none, 2)], []), (1, [(some 25, 0), (none, 1)], []), (20, [(some 26, 0), (some 18, 0)], [11]), (20, [(some 25, 0), (some 24, 0)], [7]), (20, [(some 24, 0), (some 18, 0)], [10]), (0, [(some 23, 0), (none, 2)], []), (20, [(some 23, 0), (some 22, 0)], [7]), (20, [(some 22, 0), (some 18, 0)], [10]), (21, [(some 18, 0), (none, 3)], [61, 60]), (0, [(some 21, 0), (none, 1)], []), (20, [(some 21, 0), (some 18, 0)], [60]), (0, [(some 20, 0), (none, 2)], []), (8, [(some 20, 0), (some 19, 0), (none, 5)], []), (20, [(some 19, 0), (some 15, 0)], [26]), (20, [(some 18, 0), (some 15, 0)], [27]), (2, [(some 16, 0), (some 17, 0)], []), (6, [(some 17, 0), (none, 5), (some 14, 1)], []), (20, [(some 16, 0), (some 15, 0)], [26]), (2, [(some 15, 0), (some 9, 0)], []), (90, [(some 10, 0), (some 15, 0), (some 9, 0), (some 14, 0), (some 11, 0), (some 12, 0)], [26, 27, 7, 8, 10, 11, 16, 20, 21, 24, 25, 28, 29, 30, 58, 59, 60]), (87, [(some 9, 0)], [26, 27])], (90, [(some 10, 0), (some 15, 1), (some 9, 0), (some 14, 0), (some 11, 0), (some 12, 0)], [26, 27, 7, 8, 10, 11, 16, 20, 21, 24, 25, 28, 29, 30, 62, 63, 61]))
set_option maxRecDepth 20000 in
theorem v_advance14_1_25 {PT : PTy} (hp : HP4 PT) : vcOk PT w_advance14_1_25 := vc_iv [(9, 1, 49), (10, 0, 49), (11, (-2147483648), 2147483647), (12, (-2147483648), 2147483647), (14, 0, 23), (15, 0, 48), (16, 0, 119), (17, 5, 120), (18, 0, 10), (19, 0, 119), (20, 2, 2), (21, 1, 1), (22, 0, 7), (23, 2, 2), (24, 0, 7), (25, 0, 1), (26, 0, 9), (27, 0, 9), (28, 0, 99), (29, (-11), (-1)), (30, (-2147483648), 2147483647), (31, (-2147483648), 2147483647)] [7, 8, 10, 11, 16, 20, 21, 24, 25, 26, 27, 28, 29, 30, 58, 59, 60, 61, 62, 63] (by decide +kernel) (fun ρ α => by
  intro r9 g9 b9 r10 g10 b10 r11 g11 b11 r12 g12 b12 r14 g14 b14 r15 g15 b15 r16 g16 b16 r17 g17 b17 r18 g18 b18 r19 g19 b19 r20 g20 b20 r21 g21 b21 r22 g22 b22 r23 g23 b23 r24 g24 b24 r25 g25 b25 r26 g26 b26 r27 g27 b27 r28 g28 b28 r29 g29 b29 r30 g30 b30 r31 g31 b31 a7 h7 a8 h8 a10 h10 a11 h11 a16 h16 a20 h20 a21 h21 a24 h24 a25 h25 a26 h26 a27 h27 a28 h28 a29 h29 a30 h30 a58 h58 a59 h59 a60 h60 a61 h61 a62 h62 a63 h63 f0 f1 f2 f3 f4 f5 f6 f7 f8 f9 f10 f11 f12 f13 f14 f15 f16 f17 f18 f19 f20 f21 f22 f23 f24 f25 f26 f27 f28 tt
  clear f4 f8
  have e87 : PT 87 = P_pr := pe87_4 hp
  have e90 : PT 90 = P_adI := pe90_4 hp
  simp only [hF0, hF1, hF2, hF5, hF6, hF7, hF8, hF16, hF20, hF21, hFp_87, hFp_90, e87, e90, P_pr, P_adI, den_s, den_c, Int.add_zero, List.map_cons, List.map_nil, g9.eq, g10.eq, g11.eq, g12.eq, g14.eq, g15.eq, g16.eq, g17.eq, g18.eq, g19.eq, g20.eq, g21.eq, g22.eq, g23.eq, g24.eq, g25.eq, g26.eq, g27.eq, g28.eq, g29.eq, g30.eq, g31.eq, h7, h8, h10, h11, h16, h20, h21, h24, h25, h26, h27, h28, h29, h30, h58, h59, h60, h61, h62, h63] at f0 f1 f2 f3 f5 f6 f7 f9 f10 f11 f12 f13 f14 f15 f16 f17 f18 f19 f20 f21 f22 f23 f24 f25 f26 f27 f28 ⊢
  subst f0
  subst f1
  subst f2
  subst f3
  subst f5
  subst f6
  subst f7
  subst f10
  subst f11
  subst f12
  subst f14
  subst f15
  subst f16
  subst f18
  subst f20
  subst f21
  subst f22
  subst f24
  subst f25
  refine adI_s f27 (by omega) (by omega) ?_
  have k : a26 r15 % 5 = 2 := by omega
  rw [acF_2 k]
  unfold faF shF gnF
  dsimp only
  ((repeat' split) <;> first | rfl | (exfalso; omega)))
def w_advance14_1_26 : VC := (([(0, 23), (0, 49), (0, 8), (0, 11), (0, 9), (0, 6), (0, 6), (0, 8), (0, 9), (1, 49), (0, 49), ((-2147483648), 2147483647), ((-2147483648), 2147483647), (0, 5), (0, 23), (0, 48), (0, 119), (5, 120), (0, 10), (0, 119), (2, 2), (1, 1), (0, 7), (2, 2), (0, 7), (2, 2), (0, 9), (0, 99), (0, 97), ((-2147483648), 2147483647), ((-2147483648), 2147483647)]), [(21, [(some 22, 0), (some 30, 0)], [63, 59]), (16, [(some 30, 0), (some 29, 0), (none, 1)], []), (20, [(some 29, 0), (some 22, 0)], [59]), (21, [(some 22, 0), (some 28, 0)], [62, 58]), (3, [(some 28, 0), (none, 0)], []), (5, [(some 28, 0), (some 27, 0), (some 26, 2)], []), (20, [(some 27, 0), (some 22, 0)], [58]), (0, [(some 25, 0), (none, 2)], []), (1, [(some 25, 0), (none, 1)], []), (20, [(some 26, 0), (some 18, 0)], [11]), (20, [(some 25, 0), (some 24, 0)], [7]), (20, [(some 24, 0), (some 18, 0)], [10]), (0, [(some 23, 0), (none, 2)], []), (20, [(some 23, 0), (some 22, 0)], [7]), (20, [(some 22, 0), (some 18, 0)], [10]), (21, [(some 18, 0), (none, 3)], [61, 60]), (0, [(some 21, 0), (none, 1)], []), (20, [(some 21, 0), (some 18, 0)], [60]), (0, [(some 20, 0), (none, 2)], []), (8, [(some 20, 0), (some 19, 0), (none, 5)], []), (20, [(some 19, 0), (some 15, 0)], [26]), (20, [(some 18, 0), (some 15, 0)], [27]), (2, [(some 16, 0), (some 17, 0)], []), (6, [(some 17, 0), (none, 5), (some 14, 1)], []), (20, [(some 16, 0), (some 15, 0)], [26]), (2, [(some 15, 0), (some 9, 0)], []), (90, [(some 10, 0), (some 15, 0), (some 9, 0), (some 14, 0), (some 11, 0), (some 12, 0)], [26, 27, 7, 8, 10, 11, 16, 20, 21, 24, 25, 28, 29, 30, 58, 59, 60]), (87, [(some 9, 0)], [26, 27])], (90, [(some 10, 0), (some 15, 1), (some 9, 0), (some 14, 0), (some 11, 0), (some 12, 0)], [26, 27, 7, 8, 10, 11, 16, 20, 21, 24, 25, 28, 29, 30, 62, 63, 61]))
set_option maxRecDepth 20000 in
theorem v_advance14_1_26 {PT : PTy} (hp : HP4 PT) : vcOk PT w_advance14_1_26 := vc_iv [(9, 1, 49), (10, 0, 49), (11, (-2147483648), 2147483647), (12, (-2147483648), 2147483647), (14, 0, 23), (15, 0, 48), (16, 0, 119), (17, 5, 120), (18, 0, 10), (19, 0, 119), (20, 2, 2), (21, 1, 1), (22, 0, 7), (23, 2, 2), (24, 0, 7), (25, 2, 2), (26, 0, 9), (27, 0, 99), (28, 0, 97), (29, (-2147483648), 2147483647), (30, (-2147483648), 2147483647)] [7, 8, 10, 11, 16, 20, 21, 24, 25, 26, 27, 28, 29, 30, 58, 59, 60, 61, 62, 63] (by decide +kernel) (fun ρ α => by
  intro r9 g9 b9 r10 g10 b10 r11 g11 b11 r12 g12 b12 r14 g14 b14 r15 g15 b15 r16 g16 b16 r17 g17 b17 r18 g18 b18 r19 g19 b19 r20 g20 b20 r21 g21 b21 r22 g22 b22 r23 g23 b23 r24 g24 b24 r25 g25 b25 r26 g26 b26 r27 g27 b27 r28 g28 b28 r29 g29 b29 r30 g30 b30 a7 h7 a8 h8 a10 h10 a11 h11 a16 h16 a20 h20 a21 h21 a24 h24 a25 h25 a26 h26 a27 h27 a28 h28 a29 h29 a30 h30 a58 h58 a59 h59 a60 h60 a61 h61 a62 h62 a63 h63 f0 f1 f2 f3 f4 f5 f6 f7 f8 f9 f10 f11 f12 f13 f14 f15 f16 f17 f18 f19 f20 f21 f22 f23 f24 f25 f26 f27 tt
  clear f4 f8
  have e87 : PT 87 = P_pr := pe87_4 hp
  have e90 : PT 90 = P_adI := pe90_4 hp
  simp only [hF0, hF2, hF5, hF6, hF8, hF16, hF20, hF21, hFp_87, hFp_90, e87, e90, P_pr, P_adI, den_s, den_c, Int.add_zero, List.map_cons, List.map_nil, g9.eq, g10.eq, g11.eq, g12.eq, g14.eq, g15.eq, g16.eq, g17.eq, g18.eq, g19.eq, g20.eq, g21.eq, g22.eq, g23.eq, g24.eq, g25.eq, g26.eq, g27.eq, g28.eq, g29.eq, g30.eq, h7, h8, h10, h11, h16, h20, h21, h24, h25, h26, h27, h28, h29, h30, h58, h59, h60, h61, h62, h63] at f0 f1 f2 f3 f5 f6 f7 f9 f10 f11 f12 f13 f14 f15 f16 f17 f18 f19 f20 f21 f22 f23 f24 f25 f26 f27 ⊢
  subst f0
  subst f1
  subst f2
  subst f3
  subst f5
  subst f6
  subst f9
  subst f10
  subst f11
  subst f13
  subst f14
  subst f15
  subst f17
  subst f19
  subst f20
  subst f21
  subst f23
  subst f24
  refine adI_s f26 (by omega) (by omega) ?_
  have k : a26 r15 % 5 = 2 := by omega
  rw [acF_2 k]
  unfold faF shF gnF
  dsimp only
  ((repeat' split) <;> first | rfl | (exfalso; omega)))
def w_advance14_1_27 : VC := (([(0, 23), (0, 49), (0, 8), (0, 11), (0, 9), (0, 6), (0, 6), (0, 8), (0, 9), (1, 49), (0, 49), ((-2147483648), 2147483647), ((-2147483648), 2147483647), (0, 5), (0, 23), (0, 48), (0, 119), (5, 120), (0, 10), (0, 119), (2, 2), (1, 1), (0, 7), (2, 2), (0, 7), (2, 2), (0, 9), (0, 99), ((-11), (-1)), ((-2147483648), 2147483647), ((-2147483648), 2147483647)]), [(21, [(some 22, 0), (some 30, 0)], [63, 59]), (16, [(some 30, 0), (some 29, 0), (none, 1)], []), (20, [(some 29, 0), (some 22, 0)], [59]), (21, [(some 22, 0), (none, 0)], [62, 58]), (2, [(some 28, 0), (none, 0)], []), (5, [(some 28, 0), (some 27, 0), (some 26, 2)], []), (20, [(some 27, 0), (some 22, 0)], [58]), (0, [(some 25, 0), (none, 2)], []), (1, [(some 25, 0), (none, 1)], []), (20, [(some 26, 0), (some 18, 0)], [11]), (20, [(some 25, 0), (some 24, 0)], [7]), (20, [(some 24, 0), (some 18, 0)], [10]), (0, [(some 23, 0), (none, 2)], []), (20, [(some 23, 0), (some 22, 0)], [7]), (20, [(some 22, 0), (some 18, 0)], [10]), (21, [(some 18, 0), (none, 3)], [61, 60]), (0, [(some 21, 0), (none, 1)], []), (20, [(some 21, 0), (some 18, 0)], [60]), (0, [(some 20, 0), (none, 2)], []), (8, [(some 20, 0), (some 19, 0), (none, 5)], []), (20, [(some 19, 0), (some 15, 0)], [26]), (20, [(some 18, 0), (some 15, 0)], [27]), (2, [(some 16, 0), (some 17, 0)], []), (6, [(some 17, 0), (none, 5), (some 14, 1)], []), (20, [(some 16, 0), (some 15, 0)], [26]), (2, [(some 15, 0), (some 9, 0)], []), (90, [(some 10, 0), (some 15, 0), (some 9, 0), (some 14, 0), (some 11, 0), (some 12, 0)], [26, 27, 7, 8, 10, 11, 16, 20, 21, 24, 25, 28, 29, 30, 58, 59, 60]), (87, [(some 9, 0)], [26, 27])], (90, [(some 10, 0), (some 15, 1), (some 9, 0), (some 14, 0), (some 11, 0), (some 12, 0)], [26, 27, 7, 8, 10, 11, 16, 20, 21, 24, 25, 28, 29, 30, 62, 63, 61]))
set_option maxRecDepth 20000 in
theorem v_advance14_1_27 {PT : PTy} (hp : HP4 PT) : vcOk PT w_advance14_1_27 := vc_iv [(9, 1, 49), (10, 0, 49), (11, (-2147483648), 2147483647), (12, (-2147483648), 2147483647), (14, 0, 23), (15, 0, 48), (16, 0, 119), (17, 5, 120), (18, 0, 10), (19, 0, 119), (20, 2, 2), (21, 1, 1), (22, 0, 7), (23, 2, 2), (24, 0, 7), (25, 2, 2), (26, 0, 9), (27, 0, 99), (28, (-11), (-1)), (29, (-2147483648), 2147483647), (30, (-2147483648), 2147483647)] [7, 8, 10, 11, 16, 20, 21, 24, 25, 26, 27, 28, 29, 30, 58, 59, 60, 61, 62, 63] (by decide +kernel) (fun ρ α => by
  intro r9 g9 b9 r10 g10 b10 r11 g11 b11 r12 g12 b12 r14 g14 b14 r15 g15 b15 r16 g16 b16 r17 g17 b17 r18 g18 b18 r19 g19 b19 r20 g20 b20 r21 g21 b21 r22 g22 b22 r23 g23 b23 r24 g24 b24 r25 g25 b25 r26 g26 b26 r27 g27 b27 r28 g28 b28 r29 g29 b29 r30 g30 b30 a7 h7 a8 h8 a10 h10 a11 h11 a16 h16 a20 h20 a21 h21 a24 h24 a25 h25 a26 h26 a27 h27 a28 h28 a29 h29 a30 h30 a58 h58 a59 h59 a60 h60 a61 h61 a62 h62 a63 h63 f0 f1 f2 f3 f4 f5 f6 f7 f8 f9 f10 f11 f12 f13 f14 f15 f16 f17 f18 f19 f20 f21 f22 f23 f24 f25 f26 f27 tt
  clear f4 f8
  have e87 : PT 87 = P_pr := pe87_4 hp
  have e90 : PT 90 = P_adI := pe90_4 hp
  simp only [hF0, hF2, hF5, hF6, hF8, hF16, hF20, hF21, hFp_87, hFp_90, e87, e90, P_pr, P_adI, den_s, den_c, Int.add_zero, List.map_cons, List.map_nil, g9.eq, g10.eq, g11.eq, g12.eq, g14.eq, g15.eq, g16.eq, g17.eq, g18.eq, g19.eq, g20.eq, g21.eq, g22.eq, g23.eq, g24.eq, g25.eq, g26.eq, g27.eq, g28.eq, g29.eq, g30.eq, h7, h8, h10, h11, h16, h20, h21, h24, h25, h26, h27, h28, h29, h30, h58, h59, h60, h61, h62, h63] at f0 f1 f2 f3 f5 f6 f7 f9 f10 f11 f12 f13 f14 f15 f16 f17 f18 f19 f20 f21 f22 f23 f24 f25 f26 f27 ⊢
  subst f0
  subst f1
  subst f2
  subst f3
  subst f5
  subst f6
  subst f9
  subst f10
  subst f11
  subst f13
  subst f14
  subst f15
  subst f17
  subst f19
  subst f20
  subst f21
  subst f23
  subst f24
  refine adI_s f26 (by omega) (by omega) ?_
  have k : a26 r15 % 5 = 2 := by omega
  rw [acF_2 k]
  unfold faF shF gnF
  dsimp only
  ((repeat' split) <;> first | rfl | (exfalso; omega)))
def w_advance14_1_28 : VC := (([(0, 23), (0, 49), (0, 8), (0, 11), (0, 9), (0, 6), (0, 6), (0, 8), (0, 9), (1, 49), (0, 49), ((-2147483648), 2147483647), ((-2147483648), 2147483647), (0, 5), (0, 23), (0, 48), (0, 119), (5, 120), (0, 10), (0, 119), (2, 2), (1, 1), (0, 7), (2, 2), (0, 7), (1, 1), (0, 9), (0, 18), (0, 99), (0, 97), ((-2147483648), 2147483647), ((-2147483648), 2147483647)]), [(21, [(some 22, 0), (some 31, 0)], [63, 59]), (16, [(some 31, 0), (some 30, 0), (none, 1)], []), (20, [(some 30, 0), (some 22, 0)], [59]), (21, [(some 22, 0), (some 29, 0)], [62, 58]), (3, [(some 29, 0), (none, 0)], []), (5, [(some 29, 0), (some 28, 0), (some 27, 2)], []), (20, [(some 28, 0), (some 22, 0)], [58]), (6, [(some 27, 0), (none, 2), (some 26, 0)], []), (0, [(some 25, 0), (none, 1)], []), (20, [(some 26, 0), (some 18, 0)], [11]), (20, [(some 25, 0), (some 24, 0)], [7]), (20, [(some 24, 0), (some 18, 0)], [10]), (0, [(some 23, 0), (none, 2)], []), (20, [(some 23, 0), (some 22, 0)], [7]), (20, [(some 22, 0), (some 18, 0)], [10]), (21, [(some 18, 0), (none, 3)], [61, 60]), (0, [(some 21, 0), (none, 1)], []), (20, [(some 21, 0), (some 18, 0)], [60]), (0, [(some 20, 0), (none, 2)], []), (8, [(some 20, 0), (some 19, 0), (none, 5)], []), (20, [(some 19, 0), (some 15, 0)], [26]), (20, [(some 18, 0), (some 15, 0)], [27]), (2, [(some 16, 0), (some 17, 0)], []), (6, [(some 17, 0), (none, 5), (some 14, 1)], []), (20, [(some 16, 0), (some 15, 0)], [26]), (2, [(some 15, 0), (some 9, 0)], []), (90, [(some 10, 0), (some 15, 0), (some 9, 0), (some 14, 0), (some 11, 0), (some 12, 0)], [26, 27, 7, 8, 10, 11, 16, 20, 21, 24, 25, 28, 29, 30, 58, 59, 60]), (87, [(some 9, 0)], [26, 27])], (90, [(some 10, 0), (some 15, 1), (some 9, 0), (some 14, 0), (some 11, 0), (some 12, 0)], [26, 27, 7, 8, 10, 11, 16, 20, 21, 24, 25, 28, 29, 30, 62, 63, 61]))
set_option maxRecDepth 20000 in
theorem v_advance14_1_28 {PT : PTy} (hp : HP4 PT) : vcOk PT w_advance14_1_28 := vc_iv [(9, 1, 49), (10, 0, 49), (11, (-2147483648), 2147483647), (12, (-2147483648), 2147483647), (14, 0, 23), (15, 0, 48), (16, 0, 119), (17, 5, 120), (18, 0, 10), (19, 0, 119), (20, 2, 2), (21, 1, 1), (22, 0, 7), (23, 2, 2), (24, 0, 7), (25, 1, 1), (26, 0, 9), (27, 0, 18), (28, 0, 99), (29, 0, 97), (30, (-2147483648), 2147483647), (31, (-2147483648), 2147483647)] [7, 8, 10, 11, 16, 20, 21, 24, 25, 26, 27, 28, 29, 30, 58, 59, 60, 61, 62, 63] (by decide +kernel) (fun ρ α => by
  intro r9 g9 b9 r10 g10 b10 r11 g11 b11 r12 g12 b12 r14 g14 b14 r15 g15 b15 r16 g16 b16 r17 g17 b17 r18 g18 b18 r19 g19 b19 r20 g20 b20 r21 g21 b21 r22 g22 b22 r23 g23 b23 r24 g24 b24 r25 g25 b25 r26 g26 b26 r27 g27 b27 r28 g28 b28 r29 g29 b29 r30 g30 b30 r31 g31 b31 a7 h7 a8 h8 a10 h10 a11 h11 a16 h16 a20 h20 a21 h21 a24 h24 a25 h25 a26 h26 a27 h27 a28 h28 a29 h29 a30 h30 a58 h58 a59 h59 a60 h60 a61 h61 a62 h62 a63 h63 f0 f1 f2 f3 f4 f5 f6 f7 f8 f9 f10 f11 f12 f13 f14 f15 f16 f17 f18 f19 f20 f21 f22 f23 f24 f25 f26 f27 tt
  clear f4
  have e87 : PT 87 = P_pr := pe87_4 hp
  have e90 : PT 90 = P_adI := pe90_4 hp
  simp only [hF0, hF2, hF5, hF6, hF8, hF16, hF20, hF21, hFp_87, hFp_90, e87, e90, P_pr, P_adI, den_s, den_c, Int.add_zero, List.map_cons, List.map_nil, g9.eq, g10.eq, g11.eq, g12.eq, g14.eq, g15.eq, g16.eq, g17.eq, g18.eq, g19.eq, g20.eq, g21.eq, g22.eq, g23.eq, g24.eq, g25.eq, g26.eq, g27.eq, g28.eq, g29.eq, g30.eq, g31.eq, h7, h8, h10, h11, h16, h20, h21, h24, h25, h26, h27, h28, h29, h30, h58, h59, h60, h61, h62, h63] at f0 f1 f2 f3 f5 f6 f7 f8 f9 f10 f11 f12 f13 f14 f15 f16 f17 f18 f19 f20 f21 f22 f23 f24 f25 f26 f27 ⊢
  subst f0
  subst f1
  subst f2
  subst f3
  subst f5
  subst f6
  subst f7
  subst f9
  subst f10
  subst f11
  subst f13
  subst f14
  subst f15
  subst f17
  subst f19
  subst f20
  subst f21
  subst f23
  subst f24
  refine adI_s f26 (by omega) (by omega) ?_
  have k : a26 r15 % 5 = 2 := by omega
  rw [acF_2 k]
  unfold faF shF gnF
  dsimp only
  ((repeat' split) <;> first | rfl | (exfalso; omega)))
def w_advance14_1_29 : VC := (([(0, 23), (0, 49), (0, 8), (0, 11), (0, 9), (0, 6), (0, 6), (0, 8), (0, 9), (1, 49), (0, 49), ((-2147483648), 2147483647), ((-2147483648), 2147483647), (0, 5), (0, 23), (0, 48), (0, 119), (5, 120), (0, 10), (0, 119), (2, 2), (1, 1), (0, 7), (2, 2), (0, 7), (1, 1), (0, 9), (0, 18), (0, 99), ((-20), (-1)), ((-2147483648), 2147483647), ((-2147483648), 2147483647)]), [(21, [(some 22, 0), (some 31, 0)], [63, 59]), (16, [(some 31, 0), (some 30, 0), (none, 1)], []), (20, [(some 30, 0), (some 22, 0)], [59]), (21, [(some 22, 0), (none, 0)], [62, 58]), (2, [(some 29, 0), (none, 0)], []), (5, [(some 29, 0), (some 28, 0), (some 27, 2)], []), (20, [(some 28, 0), (some 22, 0)], [58]), (6, [(some 27, 0), (none, 2), (some 26, 0)], []), (0, [(some 25, 0), (none, 1)], []), (20, [(some 26, 0), (some 18, 0)], [11]), (20, [(some 25, 0), (some 24, 0)], [7]), (20, [(some 24, 0), (some 18, 0)], [10]), (0, [(some 23, 0), (none, 2)], []), (20, [(some 23, 0), (some 22, 0)], [7]), (20, [(some 22, 0), (some 18, 0)], [10]), (21, [(some 18, 0), (none, 3)], [61, 60]), (0, [(some 21, 0), (none, 1)], []), (20, [(some 21, 0), (some 18, 0)], [60]), (0, [(some 20, 0), (none, 2)], []), (8, [(some 20, 0), (some 19, 0), (none, 5)], []), (20, [(some 19, 0), (some 15, 0)], [26]), (20, [(some 18, 0), (some 15, 0)], [27]), (2, [(some 16, 0), (some 17, 0)], []), (6, [(some 17, 0), (none, 5), (some 14, 1)], []), (20, [(some 16, 0), (some 15, 0)], [26]), (2, [(some 15, 0), (some 9, 0)], []), (90, [(some 10, 0), (some 15, 0), (some 9, 0), (some 14, 0), (some 11, 0), (some 12, 0)], [26, 27, 7, 8, 10, 11, 16, 20, 21, 24, 25, 28, 29, 30, 58, 59, 60]), (87, [(some 9, 0)], [26, 27])], (90, [(some 10, 0), (some 15, 1), (some 9, 0), (some 14, 0), (some 11, 0), (some 12, 0)], [26, 27, 7, 8, 10, 11, 16, 20, 21, 24, 25, 28, 29, 30, 62, 63, 61]))
set_option maxRecDepth 20000 in
theorem v_advance14_1_29 {PT : PTy} (hp : HP4 PT) : vcOk PT w_advance14_1_29 := vc_iv [(9, 1, 49), (10, 0, 49), (11, (-2147483648), 2147483647), (12, (-2147483648), 2147483647), (14, 0, 23), (15, 0, 48), (16, 0, 119), (17, 5, 120), (18, 0, 10), (19, 0, 119), (20, 2, 2), (21, 1, 1), (22, 0, 7), (23, 2, 2), (24, 0, 7), (25, 1, 1), (26, 0, 9), (27, 0, 18), (28, 0, 99), (29, (-20), (-1)), (30, (-2147483648), 2147483647), (31, (-2147483648), 2147483647)] [7, 8, 10, 11, 16, 20, 21, 24, 25, 26, 27, 28, 29, 30, 58, 59, 60, 61, 62, 63] (by decide +kernel) (fun ρ α => by
  intro r9 g9 b9 r10 g10 b10 r11 g11 b11 r12 g12 b12 r14 g14 b14 r15 g15 b15 r16 g16 b16 r17 g17 b17 r18 g18 b18 r19 g19 b19 r20 g20 b20 r21 g21 b21 r22 g22 b22 r23 g23 b23 r24 g24 b24 r25 g25 b25 r26 g26 b26 r27 g27 b27 r28 g28 b28 r29 g29 b29 r30 g30 b30 r31 g31 b31 a7 h7 a8 h8 a10 h10 a11 h11 a16 h16 a20 h20 a21 h21 a24 h24 a25 h25 a26 h26 a27 h27 a28 h28 a29 h29 a30 h30 a58 h58 a59 h59 a60 h60 a61 h61 a62 h62 a63 h63 f0 f1 f2 f3 f4 f5 f6 f7 f8 f9 f10 f11 f12 f13 f14 f15 f16 f17 f18 f19 f20 f21 f22 f23 f24 f25 f26 f27 tt
  clear f4
  have e87 : PT 87 = P_pr := pe87_4 hp
  have e90 : PT 90 = P_adI := pe90_4 hp
  simp only [hF0, hF2, hF5, hF6, hF8, hF16, hF20, hF21, hFp_87, hFp_90, e87, e90, P_pr, P_adI, den_s, den_c, Int.add_zero, List.map_cons, List.map_nil, g9.eq, g10.eq, g11.eq, g12.eq, g14.eq, g15.eq, g16.eq, g17.eq, g18.eq, g19.eq, g20.eq, g21.eq, g22.eq, g23.eq, g24.eq, g25.eq, g26.eq, g27.eq, g28.eq, g29.eq, g30.eq, g31.eq, h7, h8, h10, h11, h16, h20, h21, h24, h25, h26, h27, h28, h29, h30, h58, h59, h60, h61, h62, h63] at f0 f1 f2 f3 f5 f6 f7 f8 f9 f10 f11 f12 f13 f14 f15 f16 f17 f18 f19 f20 f21 f22 f23 f24 f25 f26 f27 ⊢
  subst f0
  subst f1
  subst f2
  subst f3
  subst f5
  subst f6
  subst f7
  subst f9
  subst f10
  subst f11
  subst f13
  subst f14
  subst f15
  subst f17
  subst f19
  subst f20
  subst f21
  subst f23
  subst f24
  refine adI_s f26 (by omega) (by omega) ?_
  have k : a26 r15 % 5 = 2 := by omega
  rw [acF_2 k]
  unfold faF shF gnF
  dsimp only
  ((repeat' split) <;> first | rfl | (exfalso; omega)))
def w_advance14_1_30 : VC := (([(0, 23), (0, 49), (0, 8), (0, 11), (0, 9), (0, 6), (0, 6), (0, 8), (0, 9), (1, 49), (0, 49), ((-2147483648), 2147483647), ((-2147483648), 2147483647), (0, 5), (0, 23), (0, 48), (0, 119), (5, 120), (0, 10), (0, 119), (2, 2), (0, 3)]), [(1, [(some 21, 0), (none, 1)], []), (20, [(some 21, 0), (some 18, 0)], [60]), (0, [(some 20, 0), (none, 2)], []), (8, [(some 20, 0), (some 19, 0), (none, 5)], []), (20, [(some 19, 0), (some 15, 0)], [26]), (20, [(some 18, 0), (some 15, 0)], [27]), (2, [(some 16, 0), (some 17, 0)], []), (6, [(some 17, 0), (none, 5), (some 14, 1)], []), (20, [(some 16, 0), (some 15, 0)], [26]), (2, [(some 15, 0), (some 9, 0)], []), (90, [(some 10, 0), (some 15, 0), (some 9, 0), (some 14, 0), (some 11, 0), (some 12, 0)], [26, 27, 7, 8, 10, 11, 16, 20, 21, 24, 25, 28, 29, 30, 58, 59, 60]), (87, [(some 9, 0)], [26, 27])], (90, [(some 10, 0), (some 15, 1), (some 9, 0), (some 14, 0), (some 11, 0), (some 12, 0)], [26, 27, 7, 8, 10, 11, 16, 20, 21, 24, 25, 28, 29, 30, 58, 59, 60]))
set_option maxRecDepth 20000 in
theorem v_advance14_1_30 {PT : PTy} (hp : HP4 PT) : vcOk PT w_advance14_1_30 := vc_iv [(9, 1, 49), (10, 0, 49), (11, (-2147483648), 2147483647), (12, (-2147483648), 2147483647), (14, 0, 23), (15, 0, 48), (16, 0, 119), (17, 5, 120), (18, 0, 10), (19, 0, 119), (20, 2, 2), (21, 0, 3)] [7, 8, 10, 11, 16, 20, 21, 24, 25, 26, 27, 28, 29, 30, 58, 59, 60] (by decide +kernel) (fun ρ α => by
  intro r9 g9 b9 r10 g10 b10 r11 g11 b11 r12 g12 b12 r14 g14 b14 r15 g15 b15 r16 g16 b16 r17 g17 b17 r18 g18 b18 r19 g19 b19 r20 g20 b20 r21 g21 b21 a7 h7 a8 h8 a10 h10 a11 h11 a16 h16 a20 h20 a21 h21 a24 h24 a25 h25 a26 h26 a27 h27 a28 h28 a29 h29 a30 h30 a58 h58 a59 h59 a60 h60 f0 f1 f2 f3 f4 f5 f6 f7 f8 f9 f10 f11 tt
  have e87 : PT 87 = P_pr := pe87_4 hp
  have e90 : PT 90 = P_adI := pe90_4 hp
  simp only [hF0, hF1, hF2, hF6, hF8, hF20, hFp_87, hFp_90, e87, e90, P_pr, P_adI, den_s, den_c, Int.add_zero, List.map_cons, List.map_nil, g9.eq, g10.eq, g11.eq, g12.eq, g14.eq, g15.eq, g16.eq, g17.eq, g18.eq, g19.eq, g20.eq, g21.eq, h7, h8, h10, h11, h16, h20, h21, h24, h25, h26, h27, h28, h29, h30, h58, h59, h60] at f0 f1 f2 f3 f4 f5 f6 f7 f8 f9 f10 f11 ⊢
  subst f1
  subst f3
  subst f4
  subst f5
  subst f7
  subst f8
  refine adI_s f10 (by omega) (by omega) ?_
  have k : a26 r15 % 5 = 2 := by omega
  rw [acF_2 k]
  unfold faF shF gnF
  dsimp only
  ((repeat' split) <;> first | rfl | (exfalso; omega)))
def w_advance14_1_31 : VC := (([(0, 23), (0, 49), (0, 8), (0, 11), (0, 9), (0, 6), (0, 6), (0, 8), (0, 9), (1, 49), (0, 49), ((-2147483648), 2147483647), ((-2147483648), 2147483647), (0, 5), (0, 23), (0, 48), (0, 119), (5, 120), (0, 10), (0, 119), (3, 3), ((-2147483648), 2147483647), ((-2147483648), 2147483647)]), [(1, [(some 22, 0), (none, 0)], []), (10, [(some 22, 0), (some 21, 0), (none, 1)], []), (14, [(some 21, 0), (some 12, 0), (some 18, 0)], []), (0, [(some 20, 0), (none, 3)], []), (8, [(some 20, 0), (some 19, 0), (none, 5)], []), (20, [(some 19, 0), (some 15, 0)], [26]), (20, [(some 18, 0), (some 15, 0)], [27]), (2, [(some 16, 0), (some 17, 0)], []), (6, [(some 17, 0), (none, 5), (some 14, 1)], []), (20, [(some 16, 0), (some 15, 0)], [26]), (2, [(some 15, 0), (some 9, 0)], []), (90, [(some 10, 0), (some 15, 0), (some 9, 0), (some 14, 0), (some 11, 0), (some 12, 0)], [26, 27, 7, 8, 10, 11, 16, 20, 21, 24, 25, 28, 29, 30, 58, 59, 60]), (87, [(some 9, 0)], [26, 27])], (90, [(some 10, 0), (some 15, 1), (some 9, 0), (some 14, 0), (some 11, 0), (some 12, 0)], [26, 27, 7, 8, 10, 11, 16, 20, 21, 24, 25, 28, 29, 30, 58, 59, 60]))
set_option maxRecDepth 20000 in
theorem v_advance14_1_31 {PT : PTy} (hp : HP4 PT) : vcOk PT w_advance14_1_31 := vc_iv [(9, 1, 49), (10, 0, 49), (11, (-2147483648), 2147483647), (12, (-2147483648), 2147483647), (14, 0, 23), (15, 0, 48), (16, 0, 119), (17, 5, 120), (18, 0, 10), (19, 0, 119), (20, 3, 3), (21, (-2147483648), 2147483647), (22, (-2147483648), 2147483647)] [7, 8, 10, 11, 16, 20, 21, 24, 25, 26, 27, 28, 29, 30, 58, 59, 60] (by decide +kernel) (fun ρ α => by
  intro r9 g9 b9 r10 g10 b10 r11 g11 b11 r12 g12 b12 r14 g14 b14 r15 g15 b15 r16 g16 b16 r17 g17 b17 r18 g18 b18 r19 g19 b19 r20 g20 b20 r21 g21 b21 r22 g22 b22 a7 h7 a8 h8 a10 h10 a11 h11 a16 h16 a20 h20 a21 h21 a24 h24 a25 h25 a26 h26 a27 h27 a28 h28 a29 h29 a30 h30 a58 h58 a59 h59 a60 h60 f0 f1 f2 f3 f4 f5 f6 f7 f8 f9 f10 f11 f12 tt
  have e87 : PT 87 = P_pr := pe87_4 hp
  have e90 : PT 90 = P_adI := pe90_4 hp
  simp only [hF0, hF1, hF2, hF6, hF8, hF10, hF14, hF20, hFp_87, hFp_90, e87, e90, P_pr, P_adI, den_s, den_c, Int.add_zero, List.map_cons, List.map_nil, g9.eq, g10.eq, g11.eq, g12.eq, g14.eq, g15.eq, g16.eq, g17.eq, g18.eq, g19.eq, g20.eq, g21.eq, g22.eq, h7, h8, h10, h11, h16, h20, h21, h24, h25, h26, h27, h28, h29, h30, h58, h59, h60] at f0 f1 f2 f3 f4 f5 f6 f7 f8 f9 f10 f11 f12 ⊢
  subst f1
  subst f2
  subst f4
  subst f5
  subst f6
  subst f8
  subst f9
  refine adI_s f11 (by omega) (by omega) ?_
  have k : a26 r15 % 5 = 3 := by omega
  rw [acF_3 k]
  unfold shF
  dsimp only
  ((repeat' split) <;> first | rfl | (exfalso; omega)))
def w_advance14_1_32 : VC := (([(0, 23), (0, 49), (0, 8), (0, 11), (0, 9), (0, 6), (0, 6), (0, 8), (0, 9), (1, 49), (0, 49), ((-2147483648), 2147483647), ((-2147483648), 2147483647), (0, 5), (0, 23), (0, 48), (0, 119), (5, 120), (0, 10), (0, 119), (3, 3), ((-2147483648), 2147483647), (0, 0)]), [(0, [(some 22, 0), (none, 0)], []), (10, [(some 22, 0), (some 21, 0), (none, 1)], []), (14, [(some 21, 0), (some 12, 0), (some 18, 0)], []), (0, [(some 20, 0), (none, 3)], []), (8, [(some 20, 0), (some 19, 0), (none, 5)], []), (20, [(some 19, 0), (some 15, 0)], [26]), (20, [(some 18, 0), (some 15, 0)], [27]), (2, [(some 16, 0), (some 17, 0)], []), (6, [(some 17, 0), (none, 5), (some 14, 1)], []), (20, [(some 16, 0), (some 15, 0)], [26]), (2, [(some 15, 0), (some 9, 0)], []), (90, [(some 10, 0), (some 15, 0), (some 9, 0), (some 14, 0), (some 11, 0), (some 12, 0)], [26, 27, 7, 8, 10, 11, 16, 20, 21, 24, 25, 28, 29, 30, 58, 59, 60]), (87, [(some 9, 0)], [26, 27])], (3, [(some 18, 0), (none, 0)], []))
set_option maxRecDepth 20000 in
theorem v_advance14_1_32 {PT : PTy} (hp : HP4 PT) : vcOk PT w_advance14_1_32 := vc_iv [(9, 1, 49), (10, 0, 49), (11, (-2147483648), 2147483647), (12, (-2147483648), 2147483647), (14, 0, 23), (15, 0, 48), (16, 0, 119), (17, 5, 120), (18, 0, 10), (19, 0, 119), (20, 3, 3), (21, (-2147483648), 2147483647), (22, 0, 0)] [7, 8, 10, 11, 16, 20, 21, 24, 25, 26, 27, 28, 29, 30, 58, 59, 60] (by decide +kernel) (fun ρ α => by
  intro r9 g9 b9 r10 g10 b10 r11 g11 b11 r12 g12 b12 r14 g14 b14 r15 g15 b15 r16 g16 b16 r17 g17 b17 r18 g18 b18 r19 g19 b19 r20 g20 b20 r21 g21 b21 r22 g22 b22 a7 h7 a8 h8 a10 h10 a11 h11 a16 h16 a20 h20 a21 h21 a24 h24 a25 h25 a26 h26 a27 h27 a28 h28 a29 h29 a30 h30 a58 h58 a59 h59 a60 h60 f0 f1 f2 f3 f4 f5 f6 f7 f8 f9 f10 f11 f12 tt
  have e87 : PT 87 = P_pr := pe87_4 hp
  have e90 : PT 90 = P_adI := pe90_4 hp
  simp only [hF0, hF2, hF3, hF6, hF8, hF10, hF14, hF20, hFp_87, hFp_90, e87, e90, P_pr, P_adI, den_s, den_c, Int.add_zero, List.map_cons, List.map_nil, g9.eq, g10.eq, g11.eq, g12.eq, g14.eq, g15.eq, g16.eq, g17.eq, g18.eq, g19.eq, g20.eq, g21.eq, g22.eq, h7, h8, h10, h11, h16, h20, h21, h24, h25, h26, h27, h28, h29, h30, h58, h59, h60] at f0 f1 f2 f3 f4 f5 f6 f7 f8 f9 f10 f11 f12 ⊢
  subst f1
  subst f2
  subst f4
  subst f5
  subst f6
  subst f8
  subst f9
  first
    | omega
    | (have hpr := f12 r15 (by omega) (by omega) (by omega); omega))
def w_advance14_1_33 : VC := (([(0, 23), (0, 49), (0, 8), (0, 11), (0, 9), (0, 6), (0, 6), (0, 8), (0, 9), (1, 49), (0, 49), ((-2147483648), 2147483647), ((-2147483648), 2147483647), (0, 5), (0, 23), (0, 48), (0, 119), (5, 120), (0, 10), (0, 119), (3, 3), ((-2147483648), 2147483647), (0, 0)]), [(0, [(some 22, 0), (none, 0)], []), (10, [(some 22, 0), (some 21, 0), (none, 1)], []), (14, [(some 21, 0), (some 12, 0), (some 18, 0)], []), (0, [(some 20, 0), (none, 3)], []), (8, [(some 20, 0), (some 19, 0), (none, 5)], []), (20, [(some 19, 0), (some 15, 0)], [26]), (20, [(some 18, 0), (some 15, 0)], [27]), (2, [(some 16, 0), (some 17, 0)], []), (6, [(some 17, 0), (none, 5), (some 14, 1)], []), (20, [(some 16, 0), (some 15, 0)], [26]), (2, [(some 15, 0), (some 9, 0)], []), (90, [(some 10, 0), (some 15, 0), (some 9, 0), (some 14, 0), (some 11, 0), (some 12, 0)], [26, 27, 7, 8, 10, 11, 16, 20, 21, 24, 25, 28, 29, 30, 58, 59, 60]), (87, [(some 9, 0)], [26, 27])], (3, [(none, 8), (some 18, 0)], []))
set_option maxRecDepth 20000 in
theorem v_advance14_1_33 {PT : PTy} (hp : HP4 PT) : vcOk PT w_advance14_1_33 := vc_iv [(9, 1, 49), (10, 0, 49), (11, (-2147483648), 2147483647), (12, (-2147483648), 2147483647), (14, 0, 23), (15, 0, 48), (16, 0, 119), (17, 5, 120), (18, 0, 10), (19, 0, 119), (20, 3, 3), (21, (-2147483648), 2147483647), (22, 0, 0)] [7, 8, 10, 11, 16, 20, 21, 24, 25, 26, 27, 28, 29, 30, 58, 59, 60] (by decide +kernel) (fun ρ α => by
  intro r9 g9 b9 r10 g10 b10 r11 g11 b11 r12 g12 b12 r14 g14 b14 r15 g15 b15 r16 g16 b16 r17 g17 b17 r18 g18 b18 r19 g19 b19 r20 g20 b20 r21 g21 b21 r22 g22 b22 a7 h7 a8 h8 a10 h10 a11 h11 a16 h16 a20 h20 a21 h21 a24 h24 a25 h25 a26 h26 a27 h27 a28 h28 a29 h29 a30 h30 a58 h58 a59 h59 a60 h60 f0 f1 f2 f3 f4 f5 f6 f7 f8 f9 f10 f11 f12 tt
  have e87 : PT 87 = P_pr := pe87_4 hp
  have e90 : PT 90 = P_adI := pe90_4 hp
  simp only [hF0, hF2, hF3, hF6, hF8, hF10, hF14, hF20, hFp_87, hFp_90, e87, e90, P_pr, P_adI, den_s, den_c, Int.add_zero, List.map_cons, List.map_nil, g9.eq, g10.eq, g11.eq, g12.eq, g14.eq, g15.eq, g16.eq, g17.eq, g18.eq, g19.eq, g20.eq, g21.eq, g22.eq, h7, h8, h10, h11, h16, h20, h21, h24, h25, h26, h27, h28, h29, h30, h58, h59, h60] at f0 f1 f2 f3 f4 f5 f6 f7 f8 f9 f10 f11 f12 ⊢
  subst f1
  subst f2
  subst f4
  subst f5
  subst f6
  subst f8
  subst f9
  first
    | omega
    | (have hpr := f12 r15 (by omega) (by omega) (by omega); omega))
def w_advance14_1_34 : VC := (([(0, 23), (0, 49), (0, 8), (0, 11), (0, 9), (0, 6), (0, 6), (0, 8), (0, 9), (1, 49), (0, 49), ((-2147483648), 2147483647), ((-2147483648), 2147483647), (0, 5), (0, 23), (0, 48), (0, 119), (5, 120), (0, 8), (0, 119), (3, 3), ((-2147483648), 2147483647), (0, 0), (0, 7), (0, 9), (0, 99), (0, 99)]), [(21, [(some 23, 0), (some 26, 0)], [61, 58]), (3, [(some 26, 0), (none, 0)], []), (5, [(some 26, 0), (some 25, 0), (some 24, 0)], []), (20, [(some 25, 0), (some 23, 0)], [58]), (20, [(some 24, 0), (some 18, 0)], [21]), (20, [(some 23, 0), (some 18, 0)], [20]), (0, [(some 22, 0), (none, 0)], []), (10, [(some 22, 0), (some 21, 0), (none, 1)], []), (14, [(some 21, 0), (some 12, 0), (some 18, 0)], []), (0, [(some 20, 0), (none, 3)], []), (8, [(some 20, 0), (some 19, 0), (none, 5)], []), (20, [(some 19, 0), (some 15, 0)], [26]), (20, [(some 18, 0), (some 15, 0)], [27]), (2, [(some 16, 0), (some 17, 0)], []), (6, [(some 17, 0), (none, 5), (some 14, 1)], []), (20, [(some 16, 0), (some 15, 0)], [26]), (2, [(some 15, 0), (some 9, 0)], []), (90, [(some 10, 0), (some 15, 0), (some 9, 0), (some 14, 0), (some 11, 0), (some 12, 0)], [26, 27, 7, 8, 10, 11, 16, 20, 21, 24, 25, 28, 29, 30, 58, 59, 60]), (87, [(some 9, 0)], [26, 27])], (90, [(some 10, 0), (some 15, 1), (some 9, 0), (some 14, 0), (some 11, 0), (some 12, 0)], [26, 27, 7, 8, 10, 11, 16, 20, 21, 24, 25, 28, 29, 30, 61, 59, 60]))
set_option maxRecDepth 20000 in
theorem v_advance14_1_34 {PT : PTy} (hp : HP4 PT) : vcOk PT w_advance14_1_34 := vc_iv [(9, 1, 49), (10, 0, 49), (11, (-2147483648), 2147483647), (12, (-2147483648), 2147483647), (14, 0, 23), (15, 0, 48), (16, 0, 119), (17, 5, 120), (18, 0, 8), (19, 0, 119), (20, 3, 3), (21, (-2147483648), 2147483647), (22, 0, 0), (23, 0, 7), (24, 0, 9), (25, 0, 99), (26, 0, 99)] [7, 8, 10, 11, 16, 20, 21, 24, 25, 26, 27, 28, 29, 30, 58, 59, 60, 61] (by decide +kernel) (fun ρ α => by
  intro r9 g9 b9 r10 g10 b10 r11 g11 b11 r12 g12 b12 r14 g14 b14 r15 g15 b15 r16 g16 b16 r17 g17 b17 r18 g18 b18 r19 g19 b19 r20 g20 b20 r21 g21 b21 r22 g22 b22 r23 g23 b23 r24 g24 b24 r25 g25 b25 r26 g26 b26 a7 h7 a8 h8 a10 h10 a11 h11 a16 h16 a20 h20 a21 h21 a24 h24 a25 h25 a26 h26 a27 h27 a28 h28 a29 h29 a30 h30 a58 h58 a59 h59 a60 h60 a61 h61 f0 f1 f2 f3 f4 f5 f6 f7 f8 f9 f10 f11 f12 f13 f14 f15 f16 f17 f18 tt
  clear f1
  have e87 : PT 87 = P_pr := pe87_4 hp
  have e90 : PT 90 = P_adI := pe90_4 hp
  simp only [hF0, hF2, hF5, hF6, hF8, hF10, hF14, hF20, hF21, hFp_87, hFp_90, e87, e90, P_pr, P_adI, den_s, den_c, Int.add_zero, List.map_cons, List.map_nil, g9.eq, g10.eq, g11.eq, g12.eq, g14.eq, g15.eq, g16.eq, g17.eq, g18.eq, g19.eq, g20.eq, g21.eq, g22.eq, g23.eq, g24.eq, g25.eq, g26.eq, h7, h8, h10, h11, h16, h20, h21, h24, h25, h26, h27, h28, h29, h30, h58, h59, h60, h61] at f0 f2 f3 f4 f5 f6 f7 f8 f9 f10 f11 f12 f13 f14 f15 f16 f17 f18 ⊢
  subst f0
  subst f2
  subst f3
  subst f4
  subst f5
  subst f7
  subst f8
  subst f10
  subst f11
  subst f12
  subst f14
  subst f15
  refine adI_s f17 (by omega) (by omega) ?_
  have k : a26 r15 % 5 = 3 := by omega
  rw [acF_3 k]
  unfold shF
  dsimp only
  ((repeat' split) <;> first | rfl | (exfalso; omega)))
def w_advance14_1_35 : VC := (([(0, 23), (0, 49), (0, 8), (0, 11), (0, 9), (0, 6), (0, 6), (0, 8), (0, 9), (1, 49), (0, 49), ((-2147483648), 2147483647), ((-2147483648), 2147483647), (0, 5), (0, 23), (0, 48), (0, 119), (5, 120), (0, 8), (0, 119), (3, 3), ((-2147483648), 2147483647), (0, 0), (0, 7), (0, 9), (0, 99), ((-9), (-1))]), [(21, [(some 23, 0), (none, 0)], [61, 58]), (2, [(some 26, 0), (none, 0)], []), (5, [(some 26, 0), (some 25, 0), (some 24, 0)], []), (20, [(some 25, 0), (some 23, 0)], [58]), (20, [(some 24, 0), (some 18, 0)], [21]), (20, [(some 23, 0), (some 18, 0)], [20]), (0, [(some 22, 0), (none, 0)], []), (10, [(some 22, 0), (some 21, 0), (none, 1)], []), (14, [(some 21, 0), (some 12, 0), (some 18, 0)], []), (0, [(some 20, 0), (none, 3)], []), (8, [(some 20, 0), (some 19, 0), (none, 5)], []), (20, [(some 19, 0), (some 15, 0)], [26]), (20, [(some 18, 0), (some 15, 0)], [27]), (2, [(some 16, 0), (some 17, 0)], []), (6, [(some 17, 0), (none, 5), (some 14, 1)], []), (20, [(some 16, 0), (some 15, 0)], [26]), (2, [(some 15, 0), (some 9, 0)], []), (90, [(some 10, 0), (some 15, 0), (some 9, 0), (some 14, 0), (some 11, 0), (some 12, 0)], [26, 27, 7, 8, 10, 11, 16, 20, 21, 24, 25, 28, 29, 30, 58, 59, 60]), (87, [(some 9, 0)], [26, 27])], (90, [(some 10, 0), (some 15, 1), (some 9, 0), (some 14, 0), (some 11, 0), (some 12, 0)], [26, 27, 7, 8, 10, 11, 16, 20, 21, 24, 25, 28, 29, 30, 61, 59, 60]))
set_option maxRecDepth 20000 in
theorem v_advance14_1_35 {PT : PTy} (hp : HP4 PT) : vcOk PT w_advance14_1_35 := vc_iv [(9, 1, 49), (10, 0, 49), (11, (-2147483648), 2147483647), (12, (-2147483648), 2147483647), (14, 0, 23), (15, 0, 48), (16, 0, 119), (17, 5, 120), (18, 0, 8), (19, 0, 119), (20, 3, 3), (21, (-2147483648), 2147483647), (22, 0, 0), (23, 0, 7), (24, 0, 9), (25, 0, 99), (26, (-9), (-1))] [7, 8, 10, 11, 16, 20, 21, 24, 25, 26, 27, 28, 29, 30, 58, 59, 60, 61] (by decide +kernel) (fun ρ α => by
  intro r9 g9 b9 r10 g10 b10 r11 g11 b11 r12 g12 b12 r14 g14 b14 r15 g15 b15 r16 g16 b16 r17 g17 b17 r18 g18 b18 r19 g19 b19 r20 g20 b20 r21 g21 b21 r22 g22 b22 r23 g23 b23 r24 g24 b24 r25 g25 b25 r26 g26 b26 a7 h7 a8 h8 a10 h10 a11 h11 a16 h16 a20 h20 a21 h21 a24 h24 a25 h25 a26 h26 a27 h27 a28 h28 a29 h29 a30 h30 a58 h58 a59 h59 a60 h60 a61 h61 f0 f1 f2 f3 f4 f5 f6 f7 f8 f9 f10 f11 f12 f13 f14 f15 f16 f17 f18 tt
  clear f1
  have e87 : PT 87 = P_pr := pe87_4 hp
  have e90 : PT 90 = P_adI := pe90_4 hp
  simp only [hF0, hF2, hF5, hF6, hF8, hF10, hF14, hF20, hF21, hFp_87, hFp_90, e87, e90, P_pr, P_adI, den_s, den_c, Int.add_zero, List.map_cons, List.map_nil, g9.eq, g10.eq, g11.eq, g12.eq, g14.eq, g15.eq, g16.eq, g17.eq, g18.eq, g19.eq, g20.eq, g21.eq, g22.eq, g23.eq, g24.eq, g25.eq, g26.eq, h7, h8, h10, h11, h16, h20, h21, h24, h25, h26, h27, h28, h29, h30, h58, h59, h60, h61] at f0 f2 f3 f4 f5 f6 f7 f8 f9 f10 f11 f12 f13 f14 f15 f16 f17 f18 ⊢
  subst f0
  subst f2
  subst f3
  subst f4
  subst f5
  subst f7
  subst f8
  subst f10
  subst f11
  subst f12
  subst f14
  subst f15
  refine adI_s f17 (by omega) (by omega) ?_
  have k : a26 r15 % 5 = 3 := by omega
  rw [acF_3 k]
  unfold shF
  dsimp only
  ((repeat' split) <;> first | rfl | (exfalso; omega)))
set_option maxRecDepth 1000000 in
theorem k_advance14 {PT : PTy} (hp : HP4 PT) : wfX c_advance14 = true ∧ xcOk PT c_advance14 := xctr (xl0) c_advance14 146 mX0_advance rfl h_advance14 (by decide +kernel) (by decide +kernel) (by decide) (vcs_by [w_advance14_0_0] (by decide +kernel) (vc (v_advance14_0_0 hp) vn)) (fmc (vcs_by [w_advance14_1_0, w_advance14_1_1, w_advance14_1_2, w_advance14_1_3, w_advance14_1_4, w_advance14_1_5, w_advance14_1_6, w_advance14_1_7, w_advance14_1_8, w_advance14_1_9, w_advance14_1_10, w_advance14_1_11, w_advance14_1_12, w_advance14_1_13, w_advance14_1_14, w_advance14_1_15, w_advance14_1_16, w_advance14_1_17, w_advance14_1_18, w_advance14_1_19, w_advance14_1_20, w_advance14_1_21, w_advance14_1_22, w_advance14_1_23, w_advance14_1_24, w_advance14_1_25, w_advance14_1_26, w_advance14_1_27, w_advance14_1_28, w_advance14_1_29, w_advance14_1_30, w_advance14_1_31, w_advance14_1_32, w_advance14_1_33, w_advance14_1_34, w_advance14_1_35] (by decide +kernel) (vc (v_advance14_1_0 hp) (vc (v_advance14_1_1 hp) (vc (v_advance14_1_2 hp) (vc (v_advance14_1_3 hp) (vc (v_advance14_1_4 hp) (vc (v_advance14_1_5 hp) (vc (v_advance14_1_6 hp) (vc (v_advance14_1_7 hp) (vc (v_advance14_1_8 hp) (vc (v_advance14_1_9 hp) (vc (v_advance14_1_10 hp) (vc (v_advance14_1_11 hp) (vc (v_advance14_1_12 hp) (vc (v_advance14_1_13 hp) (vc (v_advance14_1_14 hp) (vc (v_advance14_1_15 hp) (vc (v_advance14_1_16 hp) (vc (v_advance14_1_17 hp) (vc (v_advance14_1_18 hp) (vc (v_advance14_1_19 hp) (vc (v_advance14_1_20 hp) (vc (v_advance14_1_21 hp) (vc (v_advance14_1_22 hp) (vc (v_advance14_1_23 hp) (vc (v_advance14_1_24 hp) (vc (v_advance14_1_25 hp) (vc (v_advance14_1_26 hp) (vc (v_advance14_1_27 hp) (vc (v_advance14_1_28 hp) (vc (v_advance14_1_29 hp) (vc (v_advance14_1_30 hp) (vc (v_advance14_1_31 hp) (vc (v_advance14_1_32 hp) (vc (v_advance14_1_33 hp) (vc (v_advance14_1_34 hp) (vc (v_advance14_1_35 hp) vn))))))))))))))))))))))))))))))))))))) fmn)
def c_fittingBits14 : XC := (12, 1, (bX), [.inr (.inl 5)], (gX 14), [], [((bX ++ [((-2147483648), 2147483647)]), some (.inl (some 14, 0)), (gX 14), (List.range 58), 58, [(92, [(some 14, 0), (some 2, 0)], [28, 8])])])
def h_fittingBits14 : List XH := [(4, (bX ++ [((-2147483648), 2147483647), (0, 8)]), [some (.inr (.inl 5)), some (.inl (some 14, 0)), some (.inl (some 15, 0))], (gX 14), (List.range 58), 58, [(92, [(some 14, 0), (some 15, 0)], [28, 8]), (3, [(some 2, 0), (some 15, 0)], [])], [(true, (none, 1)), (true, (some 15, 0))])]
def w_fittingBits14_0_0 : VC := ((bX), [], (92, [(none, 0), (none, 0)], [28, 8]))
theorem pe92_4 {PT : PTy} (hp : HP4 PT) : PT 92 = P_bits := hp.2.1
set_option maxRecDepth 20000 in
theorem v_fittingBits14_0_0 {PT : PTy} (hp : HP4 PT) : vcOk PT w_fittingBits14_0_0 := vc_in [] (by decide +kernel) (fun ρ α => by
  intro tt
  have e92 : PT 92 = P_bits := pe92_4 hp
  simp only [hFp_92, e92, P_bits, den_s, den_c, Int.add_zero, List.map_cons, List.map_nil] at ⊢
  first | rfl | omega)
def w_fittingBits14_0_1 : VC := ((bX), [], (3, [(some 2, 0), (none, 0)], []))
set_option maxRecDepth 20000 in
theorem v_fittingBits14_0_1 {PT : PTy} (hp : HP4 PT) : vcOk PT w_fittingBits14_0_1 := vc_in [(2, 0, 8)] (by decide +kernel) (fun ρ α => by
  intro b2 tt
  simp only [hF3, den_s, den_c, Int.add_zero, List.map_cons, List.map_nil] at ⊢
  first | rfl | omega)
def w_fittingBits14_1_0 : VC := ((bX ++ [((-2147483648), 2147483647), (0, 8)]), [(3, [(some 15, 0), (some 2, 0)], []), (92, [(some 14, 0), (some 15, 0)], [28, 8]), (3, [(some 2, 0), (some 15, 0)], [])], (92, [(some 14, 0), (some 2, 0)], [28, 8]))
set_option maxRecDepth 20000 in
theorem v_fittingBits14_1_0 {PT : PTy} (hp : HP4 PT) : vcOk PT w_fittingBits14_1_0 := vc_iv [(2, 0, 8), (14, (-2147483648), 2147483647), (15, 0, 8)] [8, 28] (by decide +kernel) (fun ρ α => by
  intro r2 g2 b2 r14 g14 b14 r15 g15 b15 a8 h8 a28 h28 f0 f1 f2 tt
  have e92 : PT 92 = P_bits := pe92_4 hp
  simp only [hF3, hFp_92, e92, P_bits, den_s, den_c, Int.add_zero, List.map_cons, List.map_nil, g2.eq, g14.eq, g15.eq, h8, h28] at f0 f1 f2 ⊢
  first
    | omega
    | (rw [show r2 = r15 by omega]; exact f1)
    | (rw [foldI_s (by omega), ← f1]; first | (rw [if_pos (by omega)]) | (rw [if_neg (by omega)])))
def w_fittingBits14_1_1 : VC := (([(0, 23), (0, 49), (1, 8), (0, 11), (0, 9), (0, 6), (0, 6), (0, 8), (0, 9), (0, 49), (0, 49), ((-2147483648), 2147483647), ((-2147483648), 2147483647), (0, 5), ((-2147483648), 2147483647), (0, 7), (0, 99), (0, 9), (0, 0), (1, 128), ((-2147483648), 2147483647)]), [(11, [(some 20, 0), (some 14, 0), (some 19, 0)], []), (13, [(some 19, 0), (none, 1), (some 15, 0)], []), (1, [(none, 1), (none, 0)], []), (0, [(some 18, 0), (none, 0)], []), (5, [(some 18, 0), (some 16, 0), (some 17, 0)], []), (20, [(some 17, 0), (some 15, 0)], [8]), (20, [(some 16, 0), (some 15, 0)], [28]), (2, [(some 15, 0), (some 2, 0)], []), (92, [(some 14, 0), (some 15, 0)], [28, 8]), (3, [(some 2, 0), (some 15, 0)], [])], (92, [(some 20, 0), (some 15, 1)], [28, 8]))
set_option maxRecDepth 20000 in
theorem v_fittingBits14_1_1 {PT : PTy} (hp : HP4 PT) : vcOk PT w_fittingBits14_1_1 := vc_iv [(2, 1, 8), (14, (-2147483648), 2147483647), (15, 0, 7), (16, 0, 99), (17, 0, 9), (18, 0, 0), (19, 1, 128), (20, (-2147483648), 2147483647)] [8, 28] (by decide +kernel) (fun ρ α => by
  intro r2 g2 b2 r14 g14 b14 r15 g15 b15 r16 g16 b16 r17 g17 b17 r18 g18 b18 r19 g19 b19 r20 g20 b20 a8 h8 a28 h28 f0 f1 f2 f3 f4 f5 f6 f7 f8 f9 tt
  clear f2
  have e92 : PT 92 = P_bits := pe92_4 hp
  simp only [hF0, hF2, hF3, hF5, hF11, hF13, hF20, hFp_92, e92, P_bits, den_s, den_c, Int.add_zero, List.map_cons, List.map_nil, g2.eq, g14.eq, g15.eq, g16.eq, g17.eq, g18.eq, g19.eq, g20.eq, h8, h28] at f0 f1 f3 f4 f5 f6 f7 f8 f9 ⊢
  subst f0
  subst f1
  subst f4
  subst f5
  subst f6
  first
    | omega
    | (rw [show r2 = r15 by omega]; exact f8)
    | (rw [foldI_s (by omega), ← f8]; first | (rw [if_pos (by omega)]) | (rw [if_neg (by omega)])))
def w_fittingBits14_1_2 : VC := (([(0, 23), (0, 49), (1, 8), (0, 11), (0, 9), (0, 6), (0, 6), (0, 8), (0, 9), (0, 49), (0, 49), ((-2147483648), 2147483647), ((-2147483648), 2147483647), (0, 5), ((-2147483648), 2147483647), (0, 7), (0, 99), (0, 9), (0, 0), (1, 128), ((-2147483648), 2147483647)]), [(11, [(some 20, 0), (some 14, 0), (some 19, 0)], []), (13, [(some 19, 0), (none, 1), (some 15, 0)], []), (1, [(none, 1), (none, 0)], []), (0, [(some 18, 0), (none, 0)], []), (5, [(some 18, 0), (some 16, 0), (some 17, 0)], []), (20, [(some 17, 0), (some 15, 0)], [8]), (20, [(some 16, 0), (some 15, 0)], [28]), (2, [(some 15, 0), (some 2, 0)], []), (92, [(some 14, 0), (some 15, 0)], [28, 8]), (3, [(some 2, 0), (some 15, 0)], [])], (3, [(some 2, 0), (some 15, 1)], []))
set_option maxRecDepth 20000 in
theorem v_fittingBits14_1_2 {PT : PTy} (hp : HP4 PT) : vcOk PT w_fittingBits14_1_2 := vc_iv [(2, 1, 8), (14, (-2147483648), 2147483647), (15, 0, 7), (16, 0, 99), (17, 0, 9), (18, 0, 0), (19, 1, 128), (20, (-2147483648), 2147483647)] [8, 28] (by decide +kernel) (fun ρ α => by
  intro r2 g2 b2 r14 g14 b14 r15 g15 b15 r16 g16 b16 r17 g17 b17 r18 g18 b18 r19 g19 b19 r20 g20 b20 a8 h8 a28 h28 f0 f1 f2 f3 f4 f5 f6 f7 f8 f9 tt
  clear f2
  have e92 : PT 92 = P_bits := pe92_4 hp
  simp only [hF0, hF2, hF3, hF5, hF11, hF13, hF20, hFp_92, e92, P_bits, den_s, den_c, Int.add_zero, List.map_cons, List.map_nil, g2.eq, g14.eq, g15.eq, g16.eq, g17.eq, g18.eq, g19.eq, g20.eq, h8, h28] at f0 f1 f3 f4 f5 f6 f7 f8 f9 ⊢
  subst f0
  subst f1
  subst f4
  subst f5
  subst f6
  first
    | omega
    | (rw [show r2 = r15 by omega]; exact f8)
    | (rw [foldI_s (by omega), ← f8]; first | (rw [if_pos (by omega)]) | (rw [if_neg (by omega)])))
def w_fittingBits14_1_3 : VC := (([(0, 23), (0, 49), (1, 8), (0, 11), (0, 9), (0, 6), (0, 6), (0, 8), (0, 9), (0, 49), (0, 49), ((-2147483648), 2147483647), ((-2147483648), 2147483647), (0, 5), ((-2147483648), 2147483647), (0, 7), (0, 99), (0, 9), ((-9), 99)]), [(0, [(none, 0), (none, 0)], []), (1, [(some 18, 0), (none, 1)], []), (1, [(some 18, 0), (none, 0)], []), (5, [(some 18, 0), (some 16, 0), (some 17, 0)], []), (20, [(some 17, 0), (some 15, 0)], [8]), (20, [(some 16, 0), (some 15, 0)], [28]), (2, [(some 15, 0), (some 2, 0)], []), (92, [(some 14, 0), (some 15, 0)], [28, 8]), (3, [(some 2, 0), (some 15, 0)], [])], (92, [(some 14, 0), (some 15, 1)], [28, 8]))
set_option maxRecDepth 20000 in
theorem v_fittingBits14_1_3 {PT : PTy} (hp : HP4 PT) : vcOk PT w_fittingBits14_1_3 := vc_iv [(2, 1, 8), (14, (-2147483648), 2147483647), (15, 0, 7), (16, 0, 99), (17, 0, 9), (18, (-9), 99)] [8, 28] (by decide +kernel) (fun ρ α => by
  intro r2 g2 b2 r14 g14 b14 r15 g15 b15 r16 g16 b16 r17 g17 b17 r18 g18 b18 a8 h8 a28 h28 f0 f1 f2 f3 f4 f5 f6 f7 f8 tt
  clear f0
  have e92 : PT 92 = P_bits := pe92_4 hp
  simp only [hF1, hF2, hF3, hF5, hF20, hFp_92, e92, P_bits, den_s, den_c, Int.add_zero, List.map_cons, List.map_nil, g2.eq, g14.eq, g15.eq, g16.eq, g17.eq, g18.eq, h8, h28] at f1 f2 f3 f4 f5 f6 f7 f8 ⊢
  subst f3
  subst f4
  subst f5
  first
    | omega
    | (rw [show r2 = r15 by omega]; exact f7)
    | (rw [foldI_s (by omega), ← f7]; first | (rw [if_pos (by omega)]) | (rw [if_neg (by omega)])))
def w_fittingBits14_1_4 : VC := (([(0, 23), (0, 49), (1, 8), (0, 11), (0, 9), (0, 6), (0, 6), (0, 8), (0, 9), (0, 49), (0, 49), ((-2147483648), 2147483647), ((-2147483648), 2147483647), (0, 5), ((-2147483648), 2147483647), (0, 7), (0, 99), (0, 9), ((-9), 99)]), [(0, [(none, 0), (none, 0)], []), (1, [(some 18, 0), (none, 1)], []), (1, [(some 18, 0), (none, 0)], []), (5, [(some 18, 0), (some 16, 0), (some 17, 0)], []), (20, [(some 17, 0), (some 15, 0)], [8]), (20, [(some 16, 0), (some 15, 0)], [28]), (2, [(some 15, 0), (some 2, 0)], []), (92, [(some 14, 0), (some 15, 0)], [28, 8]), (3, [(some 2, 0), (some 15, 0)], [])], (3, [(some 2, 0), (some 15, 1)], []))
set_option maxRecDepth 20000 in
theorem v_fittingBits14_1_4 {PT : PTy} (hp : HP4 PT) : vcOk PT w_fittingBits14_1_4 := vc_iv [(2, 1, 8), (14, (-2147483648), 2147483647), (15, 0, 7), (16, 0, 99), (17, 0, 9), (18, (-9), 99)] [8, 28] (by decide +kernel) (fun ρ α => by
  intro r2 g2 b2 r14 g14 b14 r15 g15 b15 r16 g16 b16 r17 g17 b17 r18 g18 b18 a8 h8 a28 h28 f0 f1 f2 f3 f4 f5 f6 f7 f8 tt
  clear f0
  have e92 : PT 92 = P_bits := pe92_4 hp
  simp only [hF1, hF2, hF3, hF5, hF20, hFp_92, e92, P_bits, den_s, den_c, Int.add_zero, List.map_cons, List.map_nil, g2.eq, g14.eq, g15.eq, g16.eq, g17.eq, g18.eq, h8, h28] at f1 f2 f3 f4 f5 f6 f7 f8 ⊢
  subst f3
  subst f4
  subst f5
  first
    | omega
    | (rw [show r2 = r15 by omega]; exact f7)
    | (rw [foldI_s (by omega), ← f7]; first | (rw [if_pos (by omega)]) | (rw [if_neg (by omega)])))
def w_fittingBits14_1_5 : VC := (([(0, 23), (0, 49), (1, 8), (0, 11), (0, 9), (0, 6), (0, 6), (0, 8), (0, 9), (0, 49), (0, 49), ((-2147483648), 2147483647), ((-2147483648), 2147483647), (0, 5), ((-2147483648), 2147483647), (0, 7), (0, 99), (0, 9), (1, 1), (1, 128), ((-2147483648), 2147483647)]), [(11, [(some 20, 0), (some 14, 0), (some 19, 0)], []), (13, [(some 19, 0), (none, 1), (some 15, 0)], []), (1, [(none, 1), (none, 0)], []), (0, [(some 18, 0), (none, 1)], []), (1, [(some 18, 0), (none, 0)], []), (5, [(some 18, 0), (some 16, 0), (some 17, 0)], []), (20, [(some 17, 0), (some 15, 0)], [8]), (20, [(some 16, 0), (some 15, 0)], [28]), (2, [(some 15, 0), (some 2, 0)], []), (92, [(some 14, 0), (some 15, 0)], [28, 8]), (3, [(some 2, 0), (some 15, 0)], [])], (92, [(some 20, 0), (some 15, 1)], [28, 8]))
set_option maxRecDepth 20000 in
theorem v_fittingBits14_1_5 {PT : PTy} (hp : HP4 PT) : vcOk PT w_fittingBits14_1_5 := vc_iv [(2, 1, 8), (14, (-2147483648), 2147483647), (15, 0, 7), (16, 0, 99), (17, 0, 9), (18, 1, 1), (19, 1, 128), (20, (-2147483648), 2147483647)] [8, 28] (by decide +kernel) (fun ρ α => by
  intro r2 g2 b2 r14 g14 b14 r15 g15 b15 r16 g16 b16 r17 g17 b17 r18 g18 b18 r19 g19 b19 r20 g20 b20 a8 h8 a28 h28 f0 f1 f2 f3 f4 f5 f6 f7 f8 f9 f10 tt
  clear f2 f4
  have e92 : PT 92 = P_bits := pe92_4 hp
  simp only [hF0, hF2, hF3, hF5, hF11, hF13, hF20, hFp_92, e92, P_bits, den_s, den_c, Int.add_zero, List.map_cons, List.map_nil, g2.eq, g14.eq, g15.eq, g16.eq, g17.eq, g18.eq, g19.eq, g20.eq, h8, h28] at f0 f1 f3 f5 f6 f7 f8 f9 f10 ⊢
  subst f0
  subst f1
  subst f5
  subst f6
  subst f7
  first
    | omega
    | (rw [show r2 = r15 by omega]; exact f9)
    | (rw [foldI_s (by omega), ← f9]; first | (rw [if_pos (by omega)]) | (rw [if_neg (by omega)])))
def w_fittingBits14_1_6 : VC := (([(0, 23), (0, 49), (1, 8), (0, 11), (0, 9), (0, 6), (0, 6), (0, 8), (0, 9), (0, 49), (0, 49), ((-2147483648), 2147483647), ((-2147483648), 2147483647), (0, 5), ((-2147483648), 2147483647), (0, 7), (0, 99), (0, 9), (1, 1), (1, 128), ((-2147483648), 2147483647)]), [(11, [(some 20, 0), (some 14, 0), (some 19, 0)], []), (13, [(some 19, 0), (none, 1), (some 15, 0)], []), (1, [(none, 1), (none, 0)], []), (0, [(some 18, 0), (none, 1)], []), (1, [(some 18, 0), (none, 0)], []), (5, [(some 18, 0), (some 16, 0), (some 17, 0)], []), (20, [(some 17, 0), (some 15, 0)], [8]), (20, [(some 16, 0), (some 15, 0)], [28]), (2, [(some 15, 0), (some 2, 0)], []), (92, [(some 14, 0), (some 15, 0)], [28, 8]), (3, [(some 2, 0), (some 15, 0)], [])], (3, [(some 2, 0), (some 15, 1)], []))
set_option maxRecDepth 20000 in
theorem v_fittingBits14_1_6 {PT : PTy} (hp : HP4 PT) : vcOk PT w_fittingBits14_1_6 := vc_iv [(2, 1, 8), (14, (-2147483648), 2147483647), (15, 0, 7), (16, 0, 99), (17, 0, 9), (18, 1, 1), (19, 1, 128), (20, (-2147483648), 2147483647)] [8, 28] (by decide +kernel) (fun ρ α => by
  intro r2 g2 b2 r14 g14 b14 r15 g15 b15 r16 g16 b16 r17 g17 b17 r18 g18 b18 r19 g19 b19 r20 g20 b20 a8 h8 a28 h28 f0 f1 f2 f3 f4 f5 f6 f7 f8 f9 f10 tt
  clear f2 f4
  have e92 : PT 92 = P_bits := pe92_4 hp
  simp only [hF0, hF2, hF3, hF5, hF11, hF13, hF20, hFp_92, e92, P_bits, den_s, den_c, Int.add_zero, List.map_cons, List.map_nil, g2.eq, g14.eq, g15.eq, g16.eq, g17.eq, g18.eq, g19.eq, g20.eq, h8, h28] at f0 f1 f3 f5 f6 f7 f8 f9 f10 ⊢
  subst f0
  subst f1
  subst f5
  subst f6
  subst f7
  first
    | omega
    | (rw [show r2 = r15 by omega]; exact f9)
    | (rw [foldI_s (by omega), ← f9]; first | (rw [if_pos (by omega)]) | (rw [if_neg (by omega)])))
set_option maxRecDepth 1000000 in
theorem k_fittingBits14 {PT : PTy} (hp : HP4 PT) : wfX c_fittingBits14 = true ∧ xcOk PT c_fittingBits14 := xctr (xl0) c_fittingBits14 57 mX0_fittingBits rfl h_fittingBits14 (by decide +kernel) (by decide +kernel) (by decide) (vcs_by [w_fittingBits14_0_0, w_fittingBits14_0_1] (by decide +kernel) (vc (v_fittingBits14_0_0 hp) (vc (v_fittingBits14_0_1 hp) vn))) (fmc (vcs_by [w_fittingBits14_1_0, w_fittingBits14_1_1, w_fittingBits14_1_2, w_fittingBits14_1_3, w_fittingBits14_1_4, w_fittingBits14_1_5, w_fittingBits14_1_6] (by decide +kernel) (vc (v_fittingBits14_1_0 hp) (vc (v_fittingBits14_1_1 hp) (vc (v_fittingBits14_1_2 hp) (vc (v_fittingBits14_1_3 hp) (vc (v_fittingBits14_1_4 hp) (vc (v_fittingBits14_1_5 hp) (vc (v_fittingBits14_1_6 hp) vn)))))))) fmn)
def c_nakedBits14 : XC := (13, 0, (bX), [.inr (.inl 5)], (gX 14), [], [((bX ++ [((-2147483648), 2147483647)]), some (.inl (some 14, 0)), (gX 14), (List.range 58), 58, [(93, [(some 14, 0), (some 2, 0)], [28])])])
def h_nakedBits14 : List XH := [(4, (bX ++ [((-2147483648), 2147483647), (0, 8)]), [some (.inr (.inl 5)), some (.inl (some 14, 0)), some (.inl (some 15, 0))], (gX 14), (List.range 58), 58, [(93, [(some 14, 0), (some 15, 0)], [28]), (3, [(some 2, 0), (some 15, 0)], [])], [(true, (none, 1)), (true, (some 15, 0))])]
def w_nakedBits14_0_0 : VC := ((bX), [], (93, [(none, 0), (none, 0)], [28]))
theorem pe93_4 {PT : PTy} (hp : HP4 PT) : PT 93 = P_nkd := hp.2.2.1
set_option maxRecDepth 20000 in
theorem v_nakedBits14_0_0 {PT : PTy} (hp : HP4 PT) : vcOk PT w_nakedBits14_0_0 := vc_in [] (by decide +kernel) (fun ρ α => by
  intro tt
  have e93 : PT 93 = P_nkd := pe93_4 hp
  simp only [hFp_93, e93, P_nkd, den_s, den_c, Int.add_zero, List.map_cons, List.map_nil] at ⊢
  first | rfl | omega)
def w_nakedBits14_0_1 : VC := ((bX), [], (3, [(some 2, 0), (none, 0)], []))
set_option maxRecDepth 20000 in
theorem v_nakedBits14_0_1 {PT : PTy} (hp : HP4 PT) : vcOk PT w_nakedBits14_0_1 := vc_in [(2, 0, 8)] (by decide +kernel) (fun ρ α => by
  intro b2 tt
  simp only [hF3, den_s, den_c, Int.add_zero, List.map_cons, List.map_nil] at ⊢
  first | rfl | omega)
def w_nakedBits14_1_0 : VC := ((bX ++ [((-2147483648), 2147483647), (0, 8)]), [(3, [(some 15, 0), (some 2, 0)], []), (93, [(some 14, 0), (some 15, 0)], [28]), (3, [(some 2, 0), (some 15, 0)], [])], (93, [(some 14, 0), (some 2, 0)], [28]))
set_option maxRecDepth 20000 in
theorem v_nakedBits14_1_0 {PT : PTy} (hp : HP4 PT) : vcOk PT w_nakedBits14_1_0 := vc_iv [(2, 0, 8), (14, (-2147483648), 2147483647), (15, 0, 8)] [28] (by decide +kernel) (fun ρ α => by
  intro r2 g2 b2 r14 g14 b14 r15 g15 b15 a28 h28 f0 f1 f2 tt
  have e93 : PT 93 = P_nkd := pe93_4 hp
  simp only [hF3, hFp_93, e93, P_nkd, den_s, den_c, Int.add_zero, List.map_cons, List.map_nil, g2.eq, g14.eq, g15.eq, h28] at f0 f1 f2 ⊢
  first
    | omega
    | (rw [show r2 = r15 by omega]; exact f1)
    | (rw [foldI_s (by omega), ← f1]; first | (rw [if_pos (by omega)]) | (rw [if_neg (by omega)])))
def w_nakedBits14_1_1 : VC := (([(0, 23), (0, 49), (1, 8), (0, 11), (0, 9), (0, 6), (0, 6), (0, 8), (0, 9), (0, 49), (0, 49), ((-2147483648), 2147483647), ((-2147483648), 2147483647), (0, 5), ((-2147483648), 2147483647), (0, 7), (1, 99)]), [(1, [(some 16, 0), (none, 0)], []), (20, [(some 16, 0), (some 15, 0)], [28]), (2, [(some 15, 0), (some 2, 0)], []), (93, [(some 14, 0), (some 15, 0)], [28]), (3, [(some 2, 0), (some 15, 0)], [])], (93, [(some 14, 0), (some 15, 1)], [28]))
set_option maxRecDepth 20000 in
theorem v_nakedBits14_1_1 {PT : PTy} (hp : HP4 PT) : vcOk PT w_nakedBits14_1_1 := vc_iv [(2, 1, 8), (14, (-2147483648), 2147483647), (15, 0, 7), (16, 1, 99)] [28] (by decide +kernel) (fun ρ α => by
  intro r2 g2 b2 r14 g14 b14 r15 g15 b15 r16 g16 b16 a28 h28 f0 f1 f2 f3 f4 tt
  clear f0
  have e93 : PT 93 = P_nkd := pe93_4 hp
  simp only [hF2, hF3, hF20, hFp_93, e93, P_nkd, den_s, den_c, Int.add_zero, List.map_cons, List.map_nil, g2.eq, g14.eq, g15.eq, g16.eq, h28] at f1 f2 f3 f4 ⊢
  subst f1
  first
    | omega
    | (rw [show r2 = r15 by omega]; exact f3)
    | (rw [foldI_s (by omega), ← f3]; first | (rw [if_pos (by omega)]) | (rw [if_neg (by omega)])))
def w_nakedBits14_1_2 : VC := (([(0, 23), (0, 49), (1, 8), (0, 11), (0, 9), (0, 6), (0, 6), (0, 8), (0, 9), (0, 49), (0, 49), ((-2147483648), 2147483647), ((-2147483648), 2147483647), (0, 5), ((-2147483648), 2147483647), (0, 7), (1, 99)]), [(1, [(some 16, 0), (none, 0)], []), (20, [(some 16, 0), (some 15, 0)], [28]), (2, [(some 15, 0), (some 2, 0)], []), (93, [(some 14, 0), (some 15, 0)], [28]), (3, [(some 2, 0), (some 15, 0)], [])], (3, [(some 2, 0), (some 15, 1)], []))
set_option maxRecDepth 20000 in
theorem v_nakedBits14_1_2 {PT : PTy} (hp : HP4 PT) : vcOk PT w_nakedBits14_1_2 := vc_iv [(2, 1, 8), (14, (-2147483648), 2147483647), (15, 0, 7), (16, 1, 99)] [28] (by decide +kernel) (fun ρ α => by
  intro r2 g2 b2 r14 g14 b14 r15 g15 b15 r16 g16 b16 a28 h28 f0 f1 f2 f3 f4 tt
  clear f0
  have e93 : PT 93 = P_nkd := pe93_4 hp
  simp only [hF2, hF3, hF20, hFp_93, e93, P_nkd, den_s, den_c, Int.add_zero, List.map_cons, List.map_nil, g2.eq, g14.eq, g15.eq, g16.eq, h28] at f1 f2 f3 f4 ⊢
  subst f1
  first
    | omega
    | (rw [show r2 = r15 by omega]; exact f3)
    | (rw [foldI_s (by omega), ← f3]; first | (rw [if_pos (by omega)]) | (rw [if_neg (by omega)])))
def w_nakedBits14_1_3 : VC := (([(0, 23), (0, 49), (1, 8), (0, 11), (0, 9), (0, 6), (0, 6), (0, 8), (0, 9), (0, 49), (0, 49), ((-2147483648), 2147483647), ((-2147483648), 2147483647), (0, 5), ((-2147483648), 2147483647), (0, 7), (0, 0), (1, 128), ((-2147483648), 2147483647)]), [(11, [(some 18, 0), (some 14, 0), (some 17, 0)], []), (13, [(some 17, 0), (none, 1), (some 15, 0)], []), (0, [(some 16, 0), (none, 0)], []), (20, [(some 16, 0), (some 15, 0)], [28]), (2, [(some 15, 0), (some 2, 0)], []), (93, [(some 14, 0), (some 15, 0)], [28]), (3, [(some 2, 0), (some 15, 0)], [])], (93, [(some 18, 0), (some 15, 1)], [28]))
set_option maxRecDepth 20000 in
theorem v_nakedBits14_1_3 {PT : PTy} (hp : HP4 PT) : vcOk PT w_nakedBits14_1_3 := vc_iv [(2, 1, 8), (14, (-2147483648), 2147483647), (15, 0, 7), (16, 0, 0), (17, 1, 128), (18, (-2147483648), 2147483647)] [28] (by decide +kernel) (fun ρ α => by
  intro r2 g2 b2 r14 g14 b14 r15 g15 b15 r16 g16 b16 r17 g17 b17 r18 g18 b18 a28 h28 f0 f1 f2 f3 f4 f5 f6 tt
  have e93 : PT 93 = P_nkd := pe93_4 hp
  simp only [hF0, hF2, hF3, hF11, hF13, hF20, hFp_93, e93, P_nkd, den_s, den_c, Int.add_zero, List.map_cons, List.map_nil, g2.eq, g14.eq, g15.eq, g16.eq, g17.eq, g18.eq, h28] at f0 f1 f2 f3 f4 f5 f6 ⊢
  subst f0
  subst f1
  subst f3
  first
    | omega
    | (rw [show r2 = r15 by omega]; exact f5)
    | (rw [foldI_s (by omega), ← f5]; first | (rw [if_pos (by omega)]) | (rw [if_neg (by omega)])))
def w_nakedBits14_1_4 : VC := (([(0, 23), (0, 49), (1, 8), (0, 11), (0, 9), (0, 6), (0, 6), (0, 8), (0, 9), (0, 49), (0, 49), ((-2147483648), 2147483647), ((-2147483648), 2147483647), (0, 5), ((-2147483648), 2147483647), (0, 7), (0, 0), (1, 128), ((-2147483648), 2147483647)]), [(11, [(some 18, 0), (some 14, 0), (some 17, 0)], []), (13, [(some 17, 0), (none, 1), (some 15, 0)], []), (0, [(some 16, 0), (none, 0)], []), (20, [(some 16, 0), (some 15, 0)], [28]), (2, [(some 15, 0), (some 2, 0)], []), (93, [(some 14, 0), (some 15, 0)], [28]), (3, [(some 2, 0), (some 15, 0)], [])], (3, [(some 2, 0), (some 15, 1)], []))
set_option maxRecDepth 20000 in
theorem v_nakedBits14_1_4 {PT : PTy} (hp : HP4 PT) : vcOk PT w_nakedBits14_1_4 := vc_iv [(2, 1, 8), (14, (-2147483648), 2147483647), (15, 0, 7), (16, 0, 0), (17, 1, 128), (18, (-2147483648), 2147483647)] [28] (by decide +kernel) (fun ρ α => by
  intro r2 g2 b2 r14 g14 b14 r15 g15 b15 r16 g16 b16 r17 g17 b17 r18 g18 b18 a28 h28 f0 f1 f2 f3 f4 f5 f6 tt
  have e93 : PT 93 = P_nkd := pe93_4 hp
  simp only [hF0, hF2, hF3, hF11, hF13, hF20, hFp_93, e93, P_nkd, den_s, den_c, Int.add_zero, List.map_cons, List.map_nil, g2.eq, g14.eq, g15.eq, g16.eq, g17.eq, g18.eq, h28] at f0 f1 f2 f3 f4 f5 f6 ⊢
  subst f0
  subst f1
  subst f3
  first
    | omega
    | (rw [show r2 = r15 by omega]; exact f5)
    | (rw [foldI_s (by omega), ← f5]; first | (rw [if_pos (by omega)]) | (rw [if_neg (by omega)])))
set_option maxRecDepth 1000000 in
theorem k_nakedBits14 {PT : PTy} (hp : HP4 PT) : wfX c_nakedBits14 = true ∧ xcOk PT c_nakedBits14 := xctr (xl0) c_nakedBits14 39 mX0_nakedBits rfl h_nakedBits14 (by decide +kernel) (by decide +kernel) (by decide) (vcs_by [w_nakedBits14_0_0, w_nakedBits14_0_1] (by decide +kernel) (vc (v_nakedBits14_0_0 hp) (vc (v_nakedBits14_0_1 hp) vn))) (fmc (vcs_by [w_nakedBits14_1_0, w_nakedBits14_1_1, w_nakedBits14_1_2, w_nakedBits14_1_3, w_nakedBits14_1_4] (by decide +kernel) (vc (v_nakedBits14_1_0 hp) (vc (v_nakedBits14_1_1 hp) (vc (v_nakedBits14_1_2 hp) (vc (v_nakedBits14_1_3 hp) (vc (v_nakedBits14_1_4 hp) vn)))))) fmn)
def c_allRips14 : XC := (14, 0, (bX), [.inr (.inl 5)], (gX 14), [], [((bX ++ [((-2147483648), 2147483647)]), some (.inl (some 14, 0)), (gX 14), (List.range 58), 58, [(94, [(some 14, 0), (some 2, 0)], [29])])])
def h_allRips14 : List XH := [(4, (bX ++ [((-2147483648), 2147483647), (0, 8)]), [some (.inr (.inl 5)), some (.inl (some 14, 0)), some (.inl (some 15, 0))], (gX 14), (List.range 58), 58, [(94, [(some 14, 0), (some 15, 0)], [29]), (3, [(some 2, 0), (some 15, 0)], [])], [(true, (none, 1)), (true, (some 15, 0))])]
def w_allRips14_0_0 : VC := ((bX), [], (94, [(none, 0), (none, 0)], [29]))
theorem pe94_4 {PT : PTy} (hp : HP4 PT) : PT 94 = P_rps := hp.2.2.2.1
set_option maxRecDepth 20000 in
theorem v_allRips14_0_0 {PT : PTy} (hp : HP4 PT) : vcOk PT w_allRips14_0_0 := vc_in [] (by decide +kernel) (fun ρ α => by
  intro tt
  have e94 : PT 94 = P_rps := pe94_4 hp
  simp only [hFp_94, e94, P_rps, den_s, den_c, Int.add_zero, List.map_cons, List.map_nil] at ⊢
  first | rfl | omega)
def w_allRips14_0_1 : VC := ((bX), [], (3, [(some 2, 0), (none, 0)], []))
set_option maxRecDepth 20000 in
theorem v_allRips14_0_1 {PT : PTy} (hp : HP4 PT) : vcOk PT w_allRips14_0_1 := vc_in [(2, 0, 8)] (by decide +kernel) (fun ρ α => by
  intro b2 tt
  simp only [hF3, den_s, den_c, Int.add_zero, List.map_cons, List.map_nil] at ⊢
  first | rfl | omega)
def w_allRips14_1_0 : VC := ((bX ++ [((-2147483648), 2147483647), (0, 8)]), [(3, [(some 15, 0), (some 2, 0)], []), (94, [(some 14, 0), (some 15, 0)], [29]), (3, [(some 2, 0), (some 15, 0)], [])], (94, [(some 14, 0), (some 2, 0)], [29]))
set_option maxRecDepth 20000 in
theorem v_allRips14_1_0 {PT : PTy} (hp : HP4 PT) : vcOk PT w_allRips14_1_0 := vc_iv [(2, 0, 8), (14, (-2147483648), 2147483647), (15, 0, 8)] [29] (by decide +kernel) (fun ρ α => by
  intro r2 g2 b2 r14 g14 b14 r15 g15 b15 a29 h29 f0 f1 f2 tt
  have e94 : PT 94 = P_rps := pe94_4 hp
  simp only [hF3, hFp_94, e94, P_rps, den_s, den_c, Int.add_zero, List.map_cons, List.map_nil, g2.eq, g14.eq, g15.eq, h29] at f0 f1 f2 ⊢
  first
    | omega
    | (rw [show r2 = r15 by omega]; exact f1)
    | (rw [foldI_s (by omega), ← f1]))
def w_allRips14_1_1 : VC := (([(0, 23), (0, 49), (1, 8), (0, 11), (0, 9), (0, 6), (0, 6), (0, 8), (0, 9), (0, 49), (0, 49), ((-2147483648), 2147483647), ((-2147483648), 2147483647), (0, 5), ((-2147483648), 2147483647), (0, 7), ((-2147483648), 2147483647), ((-2147483648), 2147483647)]), [(16, [(some 17, 0), (some 14, 0), (some 16, 0)], []), (20, [(some 16, 0), (some 15, 0)], [29]), (2, [(some 15, 0), (some 2, 0)], []), (94, [(some 14, 0), (some 15, 0)], [29]), (3, [(some 2, 0), (some 15, 0)], [])], (94, [(some 17, 0), (some 15, 1)], [29]))
set_option maxRecDepth 20000 in
theorem v_allRips14_1_1 {PT : PTy} (hp : HP4 PT) : vcOk PT w_allRips14_1_1 := vc_iv [(2, 1, 8), (14, (-2147483648), 2147483647), (15, 0, 7), (16, (-2147483648), 2147483647), (17, (-2147483648), 2147483647)] [29] (by decide +kernel) (fun ρ α => by
  intro r2 g2 b2 r14 g14 b14 r15 g15 b15 r16 g16 b16 r17 g17 b17 a29 h29 f0 f1 f2 f3 f4 tt
  have e94 : PT 94 = P_rps := pe94_4 hp
  simp only [hF2, hF3, hF16, hF20, hFp_94, e94, P_rps, den_s, den_c, Int.add_zero, List.map_cons, List.map_nil, g2.eq, g14.eq, g15.eq, g16.eq, g17.eq, h29] at f0 f1 f2 f3 f4 ⊢
  subst f0
  subst f1
  first
    | omega
    | (rw [show r2 = r15 by omega]; exact f3)
    | (rw [foldI_s (by omega), ← f3]))
def w_allRips14_1_2 : VC := (([(0, 23), (0, 49), (1, 8), (0, 11), (0, 9), (0, 6), (0, 6), (0, 8), (0, 9), (0, 49), (0, 49), ((-2147483648), 2147483647), ((-2147483648), 2147483647), (0, 5), ((-2147483648), 2147483647), (0, 7), ((-2147483648), 2147483647), ((-2147483648), 2147483647)]), [(16, [(some 17, 0), (some 14, 0), (some 16, 0)], []), (20, [(some 16, 0), (some 15, 0)], [29]), (2, [(some 15, 0), (some 2, 0)], []), (94, [(some 14, 0), (some 15, 0)], [29]), (3, [(some 2, 0), (some 15, 0)], [])], (3, [(some 2, 0), (some 15, 1)], []))
set_option maxRecDepth 20000 in
theorem v_allRips14_1_2 {PT : PTy} (hp : HP4 PT) : vcOk PT w_allRips14_1_2 := vc_iv [(2, 1, 8), (14, (-2147483648), 2147483647), (15, 0, 7), (16, (-2147483648), 2147483647), (17, (-2147483648), 2147483647)] [29] (by decide +kernel) (fun ρ α => by
  intro r2 g2 b2 r14 g14 b14 r15 g15 b15 r16 g16 b16 r17 g17 b17 a29 h29 f0 f1 f2 f3 f4 tt
  have e94 : PT 94 = P_rps := pe94_4 hp
  simp only [hF2, hF3, hF16, hF20, hFp_94, e94, P_rps, den_s, den_c, Int.add_zero, List.map_cons, List.map_nil, g2.eq, g14.eq, g15.eq, g16.eq, g17.eq, h29] at f0 f1 f2 f3 f4 ⊢
  subst f0
  subst f1
  first
    | omega
    | (rw [show r2 = r15 by omega]; exact f3)
    | (rw [foldI_s (by omega), ← f3]))
set_option maxRecDepth 1000000 in
theorem k_allRips14 {PT : PTy} (hp : HP4 PT) : wfX c_allRips14 = true ∧ xcOk PT c_allRips14 := xctr (xl0) c_allRips14 35 mX0_allRips rfl h_allRips14 (by decide +kernel) (by decide +kernel) (by decide) (vcs_by [w_allRips14_0_0, w_allRips14_0_1] (by decide +kernel) (vc (v_allRips14_0_0 hp) (vc (v_allRips14_0_1 hp) vn))) (fmc (vcs_by [w_allRips14_1_0, w_allRips14_1_1, w_allRips14_1_2] (by decide +kernel) (vc (v_allRips14_1_0 hp) (vc (v_allRips14_1_1 hp) (vc (v_allRips14_1_2 hp) vn)))) fmn)
def c_fill29_35 : XC := (202, 0, (bX), [.inr (.inl 29), .inl (none, 0)], (gX 35), [], [((bX), none, (gX 35), (ansT 58 [(29, 58)]), 59, [])])
def h_fill29_35 : List XH := [(5, (bX ++ [(0, 8)]), [some (.inr (.inl 29)), some (.inl (none, 0)), some (.inl (some 14, 0)), some (.inl (none, 8))], (gX 35), (ansT 58 [(29, 58)]), 59, [], [(true, (none, 1)), (true, (some 14, 0))])]
set_option maxRecDepth 1000000 in
theorem k_fill29_35 {PT : PTy} (hp : HP4 PT) : wfX c_fill29_35 = true ∧ xcOk PT c_fill29_35 := xctr (xl0) c_fill29_35 30 mJ7_fill_53178 rfl h_fill29_35 (by decide +kernel) (by decide +kernel) (by decide) (vcs_by [] (by decide +kernel) vn) (fmc (vcs_by [] (by decide +kernel) vn) fmn)
def c_fill30_35 : XC := (202, 0, (bX), [.inr (.inl 30), .inl (none, 0)], (gX 35), [], [((bX), none, (gX 35), (ansT 58 [(30, 58)]), 59, [])])
def h_fill30_35 : List XH := [(5, (bX ++ [(0, 11)]), [some (.inr (.inl 30)), some (.inl (none, 0)), some (.inl (some 14, 0)), some (.inl (none, 11))], (gX 35), (ansT 58 [(30, 58)]), 59, [], [(true, (none, 1)), (true, (some 14, 0))])]
set_option maxRecDepth 1000000 in
theorem k_fill30_35 {PT : PTy} (hp : HP4 PT) : wfX c_fill30_35 = true ∧ xcOk PT c_fill30_35 := xctr (xl0) c_fill30_35 30 mJ7_fill_53178 rfl h_fill30_35 (by decide +kernel) (by decide +kernel) (by decide) (vcs_by [] (by decide +kernel) vn) (fmc (vcs_by [] (by decide +kernel) vn) fmn)
def c_begin35 : XC := (4, 1, (bX), [.inr (.inl 5)], (gX 35), [], [((bX), none, (hst (gX 35) [(5, .inr (.inr (.inr (0, [.inr (.inl 6), .inr (.inl 9), .inr (.inl 14), .inr (.inl 18), .inr (.inl 22), .inr (.inl 26), .inr (.inl 27), .inr (.inl 28), .inr (.inl 29), .inr (.inl 30), .inl (some 9, 0), .inl (none, 0), .inl (some 11, 0), .inl (some 12, 0), .inr (.inl 35)]))))]), (ansT 58 [(28, 58), (29, 59), (30, 60)]), 61, [])])
def h_begin35 : List XH := []
set_option maxRecDepth 1000000 in
theorem k_begin35 {PT : PTy} (hp : HP4 PT) : wfX c_begin35 = true ∧ xcOk PT c_begin35 := xctr (xl (k_fill29_35 hp) (xl (k_fill30_35 hp) (xl0))) c_begin35 41 mX0_begin rfl h_begin35 (by decide +kernel) (by decide +kernel) (by decide) (vcs_by [] (by decide +kernel) vn) fmn
def c_advance35 : XC := (5, 2, (bX ++ [(0, 23)]), [.inr (.inl 5), .inl (some 14, 0)], (gX 35), [(87, [(some 9, 0)], [26, 27])], [((bX ++ [(0, 23), (0, 49)]), none, (hst (gX 35) [(5, .inr (.inr (.inr (0, [.inr (.inl 6), .inr (.inl 9), .inr (.inl 14), .inr (.inl 18), .inr (.inl 22), .inr (.inl 26), .inr (.inl 27), .inr (.inl 28), .inr (.inl 29), .inr (.inl 30), .inl (some 9, 0), .inl (some 15, 0), .inl (some 11, 0), .inl (some 12, 0), .inr (.inl 35)]))))]), (ansT 58 [(28, 58), (29, 59), (30, 60)]), 61, [])])
def h_advance35 : List XH := [(0, (bX ++ [(0, 23), (0, 49)]), [some (.inr (.inl 5)), some (.inl (some 14, 0)), none], (hst (gX 35) [(5, .inr (.inr (.inr (0, [.inr (.inl 6), .inr (.inl 9), .inr (.inl 14), .inr (.inl 18), .inr (.inl 22), .inr (.inl 26), .inr (.inl 27), .inr (.inl 28), .inr (.inl 29), .inr (.inl 30), .inl (some 9, 0), .inl (some 15, 0), .inl (some 11, 0), .inl (some 12, 0), .inr (.inl 35)]))))]), (ansT 58 [(28, 58), (29, 59), (30, 60)]), 61, [], [(true, (none, 1)), (true, (some 15, 0))])]
def w_advance35_1_0 : VC := (([(0, 23), (0, 49), (0, 8), (0, 11), (0, 9), (0, 6), (0, 6), (0, 8), (0, 9), (1, 49), (0, 49), ((-2147483648), 2147483647), ((-2147483648), 2147483647), (0, 5), (0, 23), (0, 48), (0, 119), (5, 120), (0, 10), (0, 119), (0, 4)]), [(25, [(some 20, 0), (none, 0), (none, 3)], []), (8, [(some 20, 0), (some 19, 0), (none, 5)], []), (20, [(some 19, 0), (some 15, 0)], [26]), (20, [(some 18, 0), (some 15, 0)], [27]), (2, [(some 16, 0), (some 17, 0)], []), (6, [(some 17, 0), (none, 5), (some 14, 1)], []), (20, [(some 16, 0), (some 15, 0)], [26]), (2, [(some 15, 0), (some 9, 0)], []), (87, [(some 9, 0)], [26, 27])], (3, [(some 18, 0), (none, 0)], []))
set_option maxRecDepth 20000 in
theorem v_advance35_1_0 {PT : PTy} (hp : HP4 PT) : vcOk PT w_advance35_1_0 := vc_iv [(9, 1, 49), (14, 0, 23), (15, 0, 48), (16, 0, 119), (17, 5, 120), (18, 0, 10), (19, 0, 119), (20, 0, 4)] [26, 27] (by decide +kernel) (fun ρ α => by
  intro r9 g9 b9 r14 g14 b14 r15 g15 b15 r16 g16 b16 r17 g17 b17 r18 g18 b18 r19 g19 b19 r20 g20 b20 a26 h26 a27 h27 f0 f1 f2 f3 f4 f5 f6 f7 f8 tt
  have e87 : PT 87 = P_pr := pe87_4 hp
  simp only [hF2, hF3, hF6, hF8, hF20, hF25, hFp_87, e87, P_pr, den_s, den_c, Int.add_zero, List.map_cons, List.map_nil, g9.eq, g14.eq, g15.eq, g16.eq, g17.eq, g18.eq, g19.eq, g20.eq, h26, h27] at f0 f1 f2 f3 f4 f5 f6 f7 f8 ⊢
  subst f1
  subst f2
  subst f3
  subst f5
  subst f6
  first
    | omega
    | (have hpr := f8 r15 (by omega) (by omega) (by omega); omega))
def w_advance35_1_1 : VC := (([(0, 23), (0, 49), (0, 8), (0, 11), (0, 9), (0, 6), (0, 6), (0, 8), (0, 9), (1, 49), (0, 49), ((-2147483648), 2147483647), ((-2147483648), 2147483647), (0, 5), (0, 23), (0, 48), (0, 119), (5, 120), (0, 10), (0, 119), (0, 4)]), [(25, [(some 20, 0), (none, 0), (none, 3)], []), (8, [(some 20, 0), (some 19, 0), (none, 5)], []), (20, [(some 19, 0), (some 15, 0)], [26]), (20, [(some 18, 0), (some 15, 0)], [27]), (2, [(some 16, 0), (some 17, 0)], []), (6, [(some 17, 0), (none, 5), (some 14, 1)], []), (20, [(some 16, 0), (some 15, 0)], [26]), (2, [(some 15, 0), (some 9, 0)], []), (87, [(some 9, 0)], [26, 27])], (3, [(none, 8), (some 18, 0)], []))
set_option maxRecDepth 20000 in
theorem v_advance35_1_1 {PT : PTy} (hp : HP4 PT) : vcOk PT w_advance35_1_1 := vc_iv [(9, 1, 49), (14, 0, 23), (15, 0, 48), (16, 0, 119), (17, 5, 120), (18, 0, 10), (19, 0, 119), (20, 0, 4)] [26, 27] (by decide +kernel) (fun ρ α => by
  intro r9 g9 b9 r14 g14 b14 r15 g15 b15 r16 g16 b16 r17 g17 b17 r18 g18 b18 r19 g19 b19 r20 g20 b20 a26 h26 a27 h27 f0 f1 f2 f3 f4 f5 f6 f7 f8 tt
  have e87 : PT 87 = P_pr := pe87_4 hp
  simp only [hF2, hF3, hF6, hF8, hF20, hF25, hFp_87, e87, P_pr, den_s, den_c, Int.add_zero, List.map_cons, List.map_nil, g9.eq, g14.eq, g15.eq, g16.eq, g17.eq, g18.eq, g19.eq, g20.eq, h26, h27] at f0 f1 f2 f3 f4 f5 f6 f7 f8 ⊢
  subst f1
  subst f2
  subst f3
  subst f5
  subst f6
  first
    | omega
    | (have hpr := f8 r15 (by omega) (by omega) (by omega); omega))
def w_advance35_1_2 : VC := (([(0, 23), (0, 49), (0, 8), (0, 11), (0, 9), (0, 6), (0, 6), (0, 8), (0, 9), (1, 49), (0, 49), ((-2147483648), 2147483647), ((-2147483648), 2147483647), (0, 5), (0, 23), (0, 48), (0, 119), (5, 120), (0, 10), (0, 119), (1, 1), ((-2147483648), 2147483647), (0, 0)]), [(0, [(some 22, 0), (none, 0)], []), (10, [(some 22, 0), (some 21, 0), (none, 1)], []), (14, [(some 21, 0), (some 11, 0), (some 18, 0)], []), (0, [(some 20, 0), (none, 1)], []), (8, [(some 20, 0), (some 19, 0), (none, 5)], []), (20, [(some 19, 0), (some 15, 0)], [26]), (20, [(some 18, 0), (some 15, 0)], [27]), (2, [(some 16, 0), (some 17, 0)], []), (6, [(some 17, 0), (none, 5), (some 14, 1)], []), (20, [(some 16, 0), (some 15, 0)], [26]), (2, [(some 15, 0), (some 9, 0)], []), (87, [(some 9, 0)], [26, 27])], (3, [(some 18, 0), (none, 0)], []))
set_option maxRecDepth 20000 in
theorem v_advance35_1_2 {PT : PTy} (hp : HP4 PT) : vcOk PT w_advance35_1_2 := vc_iv [(9, 1, 49), (11, (-2147483648), 2147483647), (14, 0, 23), (15, 0, 48), (16, 0, 119), (17, 5, 120), (18, 0, 10), (19, 0, 119), (20, 1, 1), (21, (-2147483648), 2147483647), (22, 0, 0)] [26, 27] (by decide +kernel) (fun ρ α => by
  intro r9 g9 b9 r11 g11 b11 r14 g14 b14 r15 g15 b15 r16 g16 b16 r17 g17 b17 r18 g18 b18 r19 g19 b19 r20 g20 b20 r21 g21 b21 r22 g22 b22 a26 h26 a27 h27 f0 f1 f2 f3 f4 f5 f6 f7 f8 f9 f10 f11 tt
  have e87 : PT 87 = P_pr := pe87_4 hp
  simp only [hF0, hF2, hF3, hF6, hF8, hF10, hF14, hF20, hFp_87, e87, P_pr, den_s, den_c, Int.add_zero, List.map_cons, List.map_nil, g9.eq, g11.eq, g14.eq, g15.eq, g16.eq, g17.eq, g18.eq, g19.eq, g20.eq, g21.eq, g22.eq, h26, h27] at f0 f1 f2 f3 f4 f5 f6 f7 f8 f9 f10 f11 ⊢
  subst f1
  subst f2
  subst f4
  subst f5
  subst f6
  subst f8
  subst f9
  first
    | omega
    | (have hpr := f11 r15 (by omega) (by omega) (by omega); omega))
def w_advance35_1_3 : VC := (([(0, 23), (0, 49), (0, 8), (0, 11), (0, 9), (0, 6), (0, 6), (0, 8), (0, 9), (1, 49), (0, 49), ((-2147483648), 2147483647), ((-2147483648), 2147483647), (0, 5), (0, 23), (0, 48), (0, 119), (5, 120), (0, 10), (0, 119), (1, 1), ((-2147483648), 2147483647), (0, 0)]), [(0, [(some 22, 0), (none, 0)], []), (10, [(some 22, 0), (some 21, 0), (none, 1)], []), (14, [(some 21, 0), (some 11, 0), (some 18, 0)], []), (0, [(some 20, 0), (none, 1)], []), (8, [(some 20, 0), (some 19, 0), (none, 5)], []), (20, [(some 19, 0), (some 15, 0)], [26]), (20, [(some 18, 0), (some 15, 0)], [27]), (2, [(some 16, 0), (some 17, 0)], []), (6, [(some 17, 0), (none, 5), (some 14, 1)], []), (20, [(some 16, 0), (some 15, 0)], [26]), (2, [(some 15, 0), (some 9, 0)], []), (87, [(some 9, 0)], [26, 27])], (3, [(none, 8), (some 18, 0)], []))
set_option maxRecDepth 20000 in
theorem v_advance35_1_3 {PT : PTy} (hp : HP4 PT) : vcOk PT w_advance35_1_3 := vc_iv [(9, 1, 49), (11, (-2147483648), 2147483647), (14, 0, 23), (15, 0, 48), (16, 0, 119), (17, 5, 120), (18, 0, 10), (19, 0, 119), (20, 1, 1), (21, (-2147483648), 2147483647), (22, 0, 0)] [26, 27] (by decide +kernel) (fun ρ α => by
  intro r9 g9 b9 r11 g11 b11 r14 g14 b14 r15 g15 b15 r16 g16 b16 r17 g17 b17 r18 g18 b18 r19 g19 b19 r20 g20 b20 r21 g21 b21 r22 g22 b22 a26 h26 a27 h27 f0 f1 f2 f3 f4 f5 f6 f7 f8 f9 f10 f11 tt
  have e87 : PT 87 = P_pr := pe87_4 hp
  simp only [hF0, hF2, hF3, hF6, hF8, hF10, hF14, hF20, hFp_87, e87, P_pr, den_s, den_c, Int.add_zero, List.map_cons, List.map_nil, g9.eq, g11.eq, g14.eq, g15.eq, g16.eq, g17.eq, g18.eq, g19.eq, g20.eq, g21.eq, g22.eq, h26, h27] at f0 f1 f2 f3 f4 f5 f6 f7 f8 f9 f10 f11 ⊢
  subst f1
  subst f2
  subst f4
  subst f5
  subst f6
  subst f8
  subst f9
  first
    | omega
    | (have hpr := f11 r15 (by omega) (by omega) (by omega); omega))
def w_advance35_1_4 : VC := (([(0, 23), (0, 49), (0, 8), (0, 11), (0, 9), (0, 6), (0, 6), (0, 8), (0, 9), (1, 49), (0, 49), ((-2147483648), 2147483647), ((-2147483648), 2147483647), (0, 5), (0, 23), (0, 48), (0, 119), (5, 120), (0, 10), (0, 119), (3, 3), ((-2147483648), 2147483647), (0, 0)]), [(0, [(some 22, 0), (none, 0)], []), (10, [(some 22, 0), (some 21, 0), (none, 1)], []), (14, [(some 21, 0), (some 12, 0), (some 18, 0)], []), (0, [(some 20, 0), (none, 3)], []), (8, [(some 20, 0), (some 19, 0), (none, 5)], []), (20, [(some 19, 0), (some 15, 0)], [26]), (20, [(some 18, 0), (some 15, 0)], [27]), (2, [(some 16, 0), (some 17, 0)], []), (6, [(some 17, 0), (none, 5), (some 14, 1)], []), (20, [(some 16, 0), (some 15, 0)], [26]), (2, [(some 15, 0), (some 9, 0)], []), (87, [(some 9, 0)], [26, 27])], (3, [(some 18, 0), (none, 0)], []))
set_option maxRecDepth 20000 in
theorem v_advance35_1_4 {PT : PTy} (hp : HP4 PT) : vcOk PT w_advance35_1_4 := vc_iv [(9, 1, 49), (12, (-2147483648), 2147483647), (14, 0, 23), (15, 0, 48), (16, 0, 119), (17, 5, 120), (18, 0, 10), (19, 0, 119), (20, 3, 3), (21, (-2147483648), 2147483647), (22, 0, 0)] [26, 27] (by decide +kernel) (fun ρ α => by
  intro r9 g9 b9 r12 g12 b12 r14 g14 b14 r15 g15 b15 r16 g16 b16 r17 g17 b17 r18 g18 b18 r19 g19 b19 r20 g20 b20 r21 g21 b21 r22 g22 b22 a26 h26 a27 h27 f0 f1 f2 f3 f4 f5 f6 f7 f8 f9 f10 f11 tt
  have e87 : PT 87 = P_pr := pe87_4 hp
  simp only [hF0, hF2, hF3, hF6, hF8, hF10, hF14, hF20, hFp_87, e87, P_pr, den_s, den_c, Int.add_zero, List.map_cons, List.map_nil, g9.eq, g12.eq, g14.eq, g15.eq, g16.eq, g17.eq, g18.eq, g19.eq, g20.eq, g21.eq, g22.eq, h26, h27] at f0 f1 f2 f3 f4 f5 f6 f7 f8 f9 f10 f11 ⊢
  subst f1
  subst f2
  subst f4
  subst f5
  subst f6
  subst f8
  subst f9
  first
    | omega
    | (have hpr := f11 r15 (by omega) (by omega) (by omega); omega))
def w_advance35_1_5 : VC := (([(0, 23), (0, 49), (0, 8), (0, 11), (0, 9), (0, 6), (0, 6), (0, 8), (0, 9), (1, 49), (0, 49), ((-2147483648), 2147483647), ((-2147483648), 2147483647), (0, 5), (0, 23), (0, 48), (0, 119), (5, 120), (0, 10), (0, 119), (3, 3), ((-2147483648), 2147483647), (0, 0)]), [(0, [(some 22, 0), (none, 0)], []), (10, [(some 22, 0), (some 21, 0), (none, 1)], []), (14, [(some 21, 0), (some 12, 0), (some 18, 0)], []), (0, [(some 20, 0), (none, 3)], []), (8, [(some 20, 0), (some 19, 0), (none, 5)], []), (20, [(some 19, 0), (some 15, 0)], [26]), (20, [(some 18, 0), (some 15, 0)], [27]), (2, [(some 16, 0), (some 17, 0)], []), (6, [(some 17, 0), (none, 5), (some 14, 1)], []), (20, [(some 16, 0), (some 15, 0)], [26]), (2, [(some 15, 0), (some 9, 0)], []), (87, [(some 9, 0)], [26, 27])], (3, [(none, 8), (some 18, 0)], []))
set_option maxRecDepth 20000 in
theorem v_advance35_1_5 {PT : PTy} (hp : HP4 PT) : vcOk PT w_advance35_1_5 := vc_iv [(9, 1, 49), (12, (-2147483648), 2147483647), (14, 0, 23), (15, 0, 48), (16, 0, 119), (17, 5, 120), (18, 0, 10), (19, 0, 119), (20, 3, 3), (21, (-2147483648), 2147483647), (22, 0, 0)] [26, 27] (by decide +kernel) (fun ρ α => by
  intro r9 g9 b9 r12 g12 b12 r14 g14 b14 r15 g15 b15 r16 g16 b16 r17 g17 b17 r18 g18 b18 r19 g19 b19 r20 g20 b20 r21 g21 b21 r22 g22 b22 a26 h26 a27 h27 f0 f1 f2 f3 f4 f5 f6 f7 f8 f9 f10 f11 tt
  have e87 : PT 87 = P_pr := pe87_4 hp
  simp only [hF0, hF2, hF3, hF6, hF8, hF10, hF14, hF20, hFp_87, e87, P_pr, den_s, den_c, Int.add_zero, List.map_cons, List.map_nil, g9.eq, g12.eq, g14.eq, g15.eq, g16.eq, g17.eq, g18.eq, g19.eq, g20.eq, g21.eq, g22.eq, h26, h27] at f0 f1 f2 f3 f4 f5 f6 f7 f8 f9 f10 f11 ⊢
  subst f1
  subst f2
  subst f4
  subst f5
  subst f6
  subst f8
  subst f9
  first
    | omega
    | (have hpr := f11 r15 (by omega) (by omega) (by omega); omega))
set_option maxRecDepth 1000000 in
theorem k_advance35 {PT : PTy} (hp : HP4 PT) : wfX c_advance35 = true ∧ xcOk PT c_advance35 := xctr (xl0) c_advance35 146 mX0_advance rfl h_advance35 (by decide +kernel) (by decide +kernel) (by decide) (vcs_by [] (by decide +kernel) vn) (fmc (vcs_by [w_advance35_1_0, w_advance35_1_1, w_advance35_1_2, w_advance35_1_3, w_advance35_1_4, w_advance35_1_5] (by decide +kernel) (vc (v_advance35_1_0 hp) (vc (v_advance35_1_1 hp) (vc (v_advance35_1_2 hp) (vc (v_advance35_1_3 hp) (vc (v_advance35_1_4 hp) (vc (v_advance35_1_5 hp) vn))))))) fmn)
def c_fittingBits35 : XC := (12, 1, (bX), [.inr (.inl 5)], (gX 35), [], [((bX ++ [((-2147483648), 2147483647)]), some (.inl (some 14, 0)), (gX 35), (List.range 58), 58, [])])
def h_fittingBits35 : List XH := [(4, (bX ++ [((-2147483648), 2147483647), (0, 8)]), [some (.inr (.inl 5)), some (.inl (some 14, 0)), some (.inl (some 15, 0))], (gX 35), (List.range 58), 58, [(3, [(some 2, 0), (some 15, 0)], [])], [(true, (none, 1)), (true, (some 15, 0))])]
def w_fittingBits35_0_0 : VC := ((bX), [], (3, [(some 2, 0), (none, 0)], []))
set_option maxRecDepth 20000 in
theorem v_fittingBits35_0_0 {PT : PTy} (hp : HP4 PT) : vcOk PT w_fittingBits35_0_0 := vc_in [(2, 0, 8)] (by decide +kernel) (fun ρ α => by
  intro b2 tt
  simp only [hF3, den_s, den_c, Int.add_zero, List.map_cons, List.map_nil] at ⊢
  first | rfl | omega)
def w_fittingBits35_1_0 : VC := (([(0, 23), (0, 49), (1, 8), (0, 11), (0, 9), (0, 6), (0, 6), (0, 8), (0, 9), (0, 49), (0, 49), ((-2147483648), 2147483647), ((-2147483648), 2147483647), (0, 5), ((-2147483648), 2147483647), (0, 7), (0, 99), (0, 9), (0, 0), (1, 128), ((-2147483648), 2147483647)]), [(11, [(some 20, 0), (some 14, 0), (some 19, 0)], []), (13, [(some 19, 0), (none, 1), (some 15, 0)], []), (1, [(none, 1), (none, 0)], []), (0, [(some 18, 0), (none, 0)], []), (5, [(some 18, 0), (some 16, 0), (some 17, 0)], []), (20, [(some 17, 0), (some 15, 0)], [8]), (20, [(some 16, 0), (some 15, 0)], [28]), (2, [(some 15, 0), (some 2, 0)], []), (3, [(some 2, 0), (some 15, 0)], [])], (3, [(some 2, 0), (some 15, 1)], []))
set_option maxRecDepth 20000 in
theorem v_fittingBits35_1_0 {PT : PTy} (hp : HP4 PT) : vcOk PT w_fittingBits35_1_0 := vc_iv [(2, 1, 8), (14, (-2147483648), 2147483647), (15, 0, 7), (16, 0, 99), (17, 0, 9), (18, 0, 0), (19, 1, 128), (20, (-2147483648), 2147483647)] [8, 28] (by decide +kernel) (fun ρ α => by
  intro r2 g2 b2 r14 g14 b14 r15 g15 b15 r16 g16 b16 r17 g17 b17 r18 g18 b18 r19 g19 b19 r20 g20 b20 a8 h8 a28 h28 f0 f1 f2 f3 f4 f5 f6 f7 f8 tt
  clear f2
  simp only [hF0, hF2, hF3, hF5, hF11, hF13, hF20, den_s, den_c, Int.add_zero, List.map_cons, List.map_nil, g2.eq, g14.eq, g15.eq, g16.eq, g17.eq, g18.eq, g19.eq, g20.eq, h8, h28] at f0 f1 f3 f4 f5 f6 f7 f8 ⊢
  subst f0
  subst f1
  subst f4
  subst f5
  subst f6
  first
    | omega
    | (rw [show r2 = r15 by omega]; exact f8)
    | (rw [foldI_s (by omega), ← f8]; first | (rw [if_pos (by omega)]) | (rw [if_neg (by omega)])))
def w_fittingBits35_1_1 : VC := (([(0, 23), (0, 49), (1, 8), (0, 11), (0, 9), (0, 6), (0, 6), (0, 8), (0, 9), (0, 49), (0, 49), ((-2147483648), 2147483647), ((-2147483648), 2147483647), (0, 5), ((-2147483648), 2147483647), (0, 7), (0, 99), (0, 9), ((-9), 99)]), [(0, [(none, 0), (none, 0)], []), (1, [(some 18, 0), (none, 1)], []), (1, [(some 18, 0), (none, 0)], []), (5, [(some 18, 0), (some 16, 0), (some 17, 0)], []), (20, [(some 17, 0), (some 15, 0)], [8]), (20, [(some 16, 0), (some 15, 0)], [28]), (2, [(some 15, 0), (some 2, 0)], []), (3, [(some 2, 0), (some 15, 0)], [])], (3, [(some 2, 0), (some 15, 1)], []))
set_option maxRecDepth 20000 in
theorem v_fittingBits35_1_1 {PT : PTy} (hp : HP4 PT) : vcOk PT w_fittingBits35_1_1 := vc_iv [(2, 1, 8), (15, 0, 7), (16, 0, 99), (17, 0, 9), (18, (-9), 99)] [8, 28] (by decide +kernel) (fun ρ α => by
  intro r2 g2 b2 r15 g15 b15 r16 g16 b16 r17 g17 b17 r18 g18 b18 a8 h8 a28 h28 f0 f1 f2 f3 f4 f5 f6 f7 tt
  clear f0
  simp only [hF1, hF2, hF3, hF5, hF20, den_s, den_c, Int.add_zero, List.map_cons, List.map_nil, g2.eq, g15.eq, g16.eq, g17.eq, g18.eq, h8, h28] at f1 f2 f3 f4 f5 f6 f7 ⊢
  subst f3
  subst f4
  subst f5
  first
    | omega
    | (rw [show r2 = r15 by omega]; exact f7)
    | (rw [foldI_s (by omega), ← f7]; first | (rw [if_pos (by omega)]) | (rw [if_neg (by omega)])))
def w_fittingBits35_1_2 : VC := (([(0, 23), (0, 49), (1, 8), (0, 11), (0, 9), (0, 6), (0, 6), (0, 8), (0, 9), (0, 49), (0, 49), ((-2147483648), 2147483647), ((-2147483648), 2147483647), (0, 5), ((-2147483648), 2147483647), (0, 7), (0, 99), (0, 9), (1, 1), (1, 128), ((-2147483648), 2147483647)]), [(11, [(some 20, 0), (some 14, 0), (some 19, 0)], []), (13, [(some 19, 0), (none, 1), (some 15, 0)], []), (1, [(none, 1), (none, 0)], []), (0, [(some 18, 0), (none, 1)], []), (1, [(some 18, 0), (none, 0)], []), (5, [(some 18, 0), (some 16, 0), (some 17, 0)], []), (20, [(some 17, 0), (some 15, 0)], [8]), (20, [(some 16, 0), (some 15, 0)], [28]), (2, [(some 15, 0), (some 2, 0)], []), (3, [(some 2, 0), (some 15, 0)], [])], (3, [(some 2, 0), (some 15, 1)], []))
set_option maxRecDepth 20000 in
theorem v_fittingBits35_1_2 {PT : PTy} (hp : HP4 PT) : vcOk PT w_fittingBits35_1_2 := vc_iv [(2, 1, 8), (14, (-2147483648), 2147483647), (15, 0, 7), (16, 0, 99), (17, 0, 9), (18, 1, 1), (19, 1, 128), (20, (-2147483648), 2147483647)] [8, 28] (by decide +kernel) (fun ρ α => by
  intro r2 g2 b2 r14 g14 b14 r15 g15 b15 r16 g16 b16 r17 g17 b17 r18 g18 b18 r19 g19 b19 r20 g20 b20 a8 h8 a28 h28 f0 f1 f2 f3 f4 f5 f6 f7 f8 f9 tt
  clear f2 f4
  simp only [hF0, hF2, hF3, hF5, hF11, hF13, hF20, den_s, den_c, Int.add_zero, List.map_cons, List.map_nil, g2.eq, g14.eq, g15.eq, g16.eq, g17.eq, g18.eq, g19.eq, g20.eq, h8, h28] at f0 f1 f3 f5 f6 f7 f8 f9 ⊢
  subst f0
  subst f1
  subst f5
  subst f6
  subst f7
  first
    | omega
    | (rw [show r2 = r15 by omega]; exact f9)
    | (rw [foldI_s (by omega), ← f9]; first | (rw [if_pos (by omega)]) | (rw [if_neg (by omega)])))
set_option maxRecDepth 1000000 in
theorem k_fittingBits35 {PT : PTy} (hp : HP4 PT) : wfX c_fittingBits35 = true ∧ xcOk PT c_fittingBits35 := xctr (xl0) c_fittingBits35 57 mX0_fittingBits rfl h_fittingBits35 (by decide +kernel) (by decide +kernel) (by decide) (vcs_by [w_fittingBits35_0_0] (by decide +kernel) (vc (v_fittingBits35_0_0 hp) vn)) (fmc (vcs_by [w_fittingBits35_1_0, w_fittingBits35_1_1, w_fittingBits35_1_2] (by decide +kernel) (vc (v_fittingBits35_1_0 hp) (vc (v_fittingBits35_1_1 hp) (vc (v_fittingBits35_1_2 hp) vn)))) fmn)
def c_allRips35 : XC := (14, 0, (bX), [.inr (.inl 5)], (gX 35), [], [((bX ++ [((-2147483648), 2147483647)]), some (.inl (some 14, 0)), (gX 35), (List.range 58), 58, [])])
def h_allRips35 : List XH := [(4, (bX ++ [((-2147483648), 2147483647), (0, 8)]), [some (.inr (.inl 5)), some (.inl (some 14, 0)), some (.inl (some 15, 0))], (gX 35), (List.range 58), 58, [(3, [(some 2, 0), (some 15, 0)], [])], [(true, (none, 1)), (true, (some 15, 0))])]
def w_allRips35_0_0 : VC := ((bX), [], (3, [(some 2, 0), (none, 0)], []))
set_option maxRecDepth 20000 in
theorem v_allRips35_0_0 {PT : PTy} (hp : HP4 PT) : vcOk PT w_allRips35_0_0 := vc_in [(2, 0, 8)] (by decide +kernel) (fun ρ α => by
  intro b2 tt
  simp only [hF3, den_s, den_c, Int.add_zero, List.map_cons, List.map_nil] at ⊢
  first | rfl | omega)
def w_allRips35_1_0 : VC := (([(0, 23), (0, 49), (1, 8), (0, 11), (0, 9), (0, 6), (0, 6), (0, 8), (0, 9), (0, 49), (0, 49), ((-2147483648), 2147483647), ((-2147483648), 2147483647), (0, 5), ((-2147483648), 2147483647), (0, 7), ((-2147483648), 2147483647), ((-2147483648), 2147483647)]), [(16, [(some 17, 0), (some 14, 0), (some 16, 0)], []), (20, [(some 16, 0), (some 15, 0)], [29]), (2, [(some 15, 0), (some 2, 0)], []), (3, [(some 2, 0), (some 15, 0)], [])], (3, [(some 2, 0), (some 15, 1)], []))
set_option maxRecDepth 20000 in
theorem v_allRips35_1_0 {PT : PTy} (hp : HP4 PT) : vcOk PT w_allRips35_1_0 := vc_iv [(2, 1, 8), (14, (-2147483648), 2147483647), (15, 0, 7), (16, (-2147483648), 2147483647), (17, (-2147483648), 2147483647)] [29] (by decide +kernel) (fun ρ α => by
  intro r2 g2 b2 r14 g14 b14 r15 g15 b15 r16 g16 b16 r17 g17 b17 a29 h29 f0 f1 f2 f3 tt
  simp only [hF2, hF3, hF16, hF20, den_s, den_c, Int.add_zero, List.map_cons, List.map_nil, g2.eq, g14.eq, g15.eq, g16.eq, g17.eq, h29] at f0 f1 f2 f3 ⊢
  subst f0
  subst f1
  first
    | omega
    | (rw [show r2 = r15 by omega]; exact f3)
    | (rw [foldI_s (by omega), ← f3]))
set_option maxRecDepth 1000000 in
theorem k_allRips35 {PT : PTy} (hp : HP4 PT) : wfX c_allRips35 = true ∧ xcOk PT c_allRips35 := xctr (xl0) c_allRips35 35 mX0_allRips rfl h_allRips35 (by decide +kernel) (by decide +kernel) (by decide) (vcs_by [w_allRips35_0_0] (by decide +kernel) (vc (v_allRips35_0_0 hp) vn)) (fmc (vcs_by [w_allRips35_1_0] (by decide +kernel) (vc (v_allRips35_1_0 hp) vn)) fmn)
