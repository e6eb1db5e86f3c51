/-! ===== plans; printed by wip/gen/x ===== -/
def P_drI (l : List Int) (a : List (Int → Int)) : Prop := match l, a with
  | [i, st, sd, m], [D, O] => st = sdF sd i ∧ drS sd m i D O
  | _, _ => False
theorem hFp_212 {PT : PTy} {ρ : Nat → Int} {α : Nat → Int → Int} (l : List AN) (a : List Nat) : hF PT ρ α (212, l, a) = PT 212 (l.map (den ρ)) (a.map α) := rfl
def P_drP (l : List Int) (a : List (Int → Int)) : Prop := match l, a with
  | [nk, sd, n, m], [D, O] => (m = 0 → nk = 0) ∧ (0 < m → nk = n ∧ drS sd m n D O)
  | _, _ => False
theorem hFp_213 {PT : PTy} {ρ : Nat → Int} {α : Nat → Int → Int} (l : List AN) (a : List Nat) : hF PT ρ α (213, l, a) = PT 213 (l.map (den ρ)) (a.map α) := rfl
def P_oyX (l : List Int) (a : List (Int → Int)) : Prop := match l, a with
  | [r, sd, c, w, nk, n, m, nl, nt], [so, sz, wh, gr, md, du, KD, KO, ld, lw, lm, td, tw, tm, C, T, S] => (¬ (0 ≤ c ∧ c ≤ 8 ∧ 0 ≤ w ∧ w ≤ 1) → r = -2) ∧ (0 ≤ c ∧ c ≤ 8 ∧ 0 ≤ w ∧ w ≤ 1 → (m = 0 → nk = 0) ∧ (0 < m → nk = c ∧ drS sd m c KD KO) ∧ yX (5 * (23 + 1)) n m nk nl nt 0 0 so sz wh gr md du KD KO ld lw lm td tw tm C T S ∧ (w = 0 → r = rpsF T n) ∧ (w = 1 → r = bcF (bitF C sz n)))
  | _, _ => False
theorem hFp_214 {PT : PTy} {ρ : Nat → Int} {α : Nat → Int → Int} (l : List AN) (a : List Nat) : hF PT ρ α (214, l, a) = PT 214 (l.map (den ρ)) (a.map α) := rfl
def P_nkY2 (l : List Int) (a : List (Int → Int)) : Prop := match l, a with
  | [nk, m, c], [] => (m = 0 → nk = 0) ∧ (0 < m → nk = c)
  | _, _ => False
theorem hFp_215 {PT : PTy} {ρ : Nat → Int} {α : Nat → Int → Int} (l : List AN) (a : List Nat) : hF PT ρ α (215, l, a) = PT 215 (l.map (den ρ)) (a.map α) := rfl
def P_yrJ (l : List Int) (a : List (Int → Int)) : Prop := match l, a with
  | [p, b, nk, sd, c, n, m, nl, nt], [L, T, so, sz, wh, gr, md, du, KD, KO, ld, lw, lm, td, tw, tm, CA, C, U, S] => (∃ a b, rdP a n (L 0) T so sz ∧ rdV b m (L 1) (sh T) wh gr md du) ∧ (m = 0 → nk = 0) ∧ (0 < m → nk = c ∧ drS sd m c KD KO) ∧ (∃ TA SA, yY n m nk nl nt 0 0 so sz wh gr md du KD KO ld lw lm td tw tm CA TA SA C U S) ∧ b = rpT3 S p ∧ b ≤ p
  | _, _ => False
theorem hFp_216 {PT : PTy} {ρ : Nat → Int} {α : Nat → Int → Int} (l : List AN) (a : List Nat) : hF PT ρ α (216, l, a) = PT 216 (l.map (den ρ)) (a.map α) := rfl
def P_yrP (l : List Int) (a : List (Int → Int)) : Prop := match l, a with
  | [r, w, nk, sd, c, n, m, nl, nt], [L, T, so, sz, wh, gr, md, du, KD, KO, ld, lw, lm, td, tw, tm, CA, C, U, S] => (∃ a b, rdP a n (L 0) T so sz ∧ rdV b m (L 1) (sh T) wh gr md du) ∧ (m = 0 → nk = 0) ∧ (0 < m → nk = c ∧ drS sd m c KD KO) ∧ (∃ TA SA, yY n m nk nl nt 0 0 so sz wh gr md du KD KO ld lw lm td tw tm CA TA SA C U S) ∧ (w = 0 → r = rpT3 S m) ∧ (w = 1 → r = cntF (atD 23 CA) sz n)
  | _, _ => False
theorem hFp_217 {PT : PTy} {ρ : Nat → Int} {α : Nat → Int → Int} (l : List AN) (a : List Nat) : hF PT ρ α (217, l, a) = PT 217 (l.map (den ρ)) (a.map α) := rfl
def P_oyY (l : List Int) (a : List (Int → Int)) : Prop := match l, a with
  | [r, sd, c, w, nk, n, m, nl, nt], [L, T, so, sz, wh, gr, md, du, KD, KO, ld, lw, lm, td, tw, tm, CA, C, U, S] => (¬ (0 ≤ c ∧ c ≤ 8 ∧ 0 ≤ w ∧ w ≤ 1) → r = -2) ∧ (0 ≤ c ∧ c ≤ 8 ∧ 0 ≤ w ∧ w ≤ 1 → (∃ a b, rdP a n (L 0) T so sz ∧ rdV b m (L 1) (sh T) wh gr md du) ∧ (m = 0 → nk = 0) ∧ (0 < m → nk = c ∧ drS sd m c KD KO) ∧ (∃ TA SA, yY n m nk nl nt 0 0 so sz wh gr md du KD KO ld lw lm td tw tm CA TA SA C U S) ∧ (w = 0 → r = rpT3 S m) ∧ (w = 1 → r = cntF (atD 23 CA) sz n))
  | _, _ => False
theorem hFp_218 {PT : PTy} {ρ : Nat → Int} {α : Nat → Int → Int} (l : List AN) (a : List Nat) : hF PT ρ α (218, l, a) = PT 218 (l.map (den ρ)) (a.map α) := rfl
def HP18 (PT : PTy) : Prop := HP17 PT ∧ (PT 212 = P_drI ∧ PT 213 = P_drP ∧ PT 214 = P_oyX ∧ PT 215 = P_nkY2 ∧ PT 216 = P_yrJ ∧ PT 217 = P_yrP ∧ PT 218 = P_oyY ∧ True)
def c_drawK : XC := (97, 1, (bT ++ [((-2147483648), 2147483647), (0, 8)]), [.inr (.inl 0), .inl (some 14, 0), .inl (some 15, 0)], (gX 999), [], [((bT ++ [((-2147483648), 2147483647), (0, 8), (0, 9)]), none, (hst (gX 999) [(35, .inr (.inr (.inr (4, [.inr (.inl 36), .inr (.inl 37), .inr (.inl 38), .inl (none, 8), .inl (some 16, 0)]))))]), (ansT 58 [(36, 58), (37, 59), (38, 60)]), 61, [(213, [(some 16, 0), (some 14, 0), (some 15, 0), (some 3, 0)], [58, 59])])])
def h_drawK : List XH := [(24, ([(0, 23), (0, 49), (0, 8), (1, 10), (0, 8), (0, 6), (0, 6), (0, 8), (0, 9), (0, 49), (0, 49), ((-2147483648), 2147483647), ((-2147483648), 2147483647), (0, 5), ((-2147483648), 2147483647), (0, 8), ((-2147483648), 2147483647), (0, 8), (0, 9)]), [some (.inr (.inl 0)), some (.inl (some 14, 0)), some (.inl (some 15, 0)), some (.inl (some 16, 0)), some (.inl (some 17, 0)), none], (hst (gX 999) [(35, .inr (.inr (.inr (4, [.inr (.inl 36), .inr (.inl 37), .inr (.inl 38), .inl (none, 8), .inl (some 18, 0)]))))]), (ansT 58 [(36, 58), (37, 59), (38, 60)]), 61, [(212, [(some 17, 0), (some 16, 0), (some 14, 0), (some 3, 0)], [58, 59]), (0, [(some 18, 0), (some 17, 0)], []), (3, [(some 15, 0), (some 17, 0)], []), (2, [(none, 0), (some 3, 0)], [])], [(true, (none, 1)), (true, (some 17, 0))])]
def w_drawK_0_0 : VC := (([(0, 23), (0, 49), (0, 8), (1, 10), (0, 8), (0, 6), (0, 6), (0, 8), (0, 9), (0, 49), (0, 49), ((-2147483648), 2147483647), ((-2147483648), 2147483647), (0, 5), ((-2147483648), 2147483647), (0, 8)]), [(1, [(some 3, 0), (none, 0)], [])], (212, [(none, 0), (some 14, 0), (some 14, 0), (some 3, 0)], [36, 37]))
theorem pe212_18 {PT : PTy} (hp : HP18 PT) : PT 212 = P_drI := hp.2.1
set_option maxRecDepth 20000 in
theorem v_drawK_0_0 {PT : PTy} (hp : HP18 PT) : vcOk PT w_drawK_0_0 := vc_iv [(3, 1, 10), (14, (-2147483648), 2147483647)] [36, 37] (by decide +kernel) (fun ρ α => by
  intro r3 g3 b3 r14 g14 b14 a36 h36 a37 h37 f0 tt
  clear f0
  have e212 : PT 212 = P_drI := pe212_18 hp
  simp only [hFp_212, e212, P_drI, den_s, den_c, Int.add_zero, List.map_cons, List.map_nil, g3, g14, h36, h37] at ⊢
  clear g3 g14 h36 h37 e212 tt
  exact ⟨rfl, drS_z⟩)
def w_drawK_0_1 : VC := (([(0, 23), (0, 49), (0, 8), (1, 10), (0, 8), (0, 6), (0, 6), (0, 8), (0, 9), (0, 49), (0, 49), ((-2147483648), 2147483647), ((-2147483648), 2147483647), (0, 5), ((-2147483648), 2147483647), (0, 8)]), [(1, [(some 3, 0), (none, 0)], [])], (0, [(none, 0), (none, 0)], []))
theorem v_drawK_0_1 {PT : PTy} (_ : HP18 PT) : vcOk PT w_drawK_0_1 := vc_of (fun ρ α _ _ => rfl)
def w_drawK_0_2 : VC := (([(0, 23), (0, 49), (0, 8), (1, 10), (0, 8), (0, 6), (0, 6), (0, 8), (0, 9), (0, 49), (0, 49), ((-2147483648), 2147483647), ((-2147483648), 2147483647), (0, 5), ((-2147483648), 2147483647), (0, 8)]), [(1, [(some 3, 0), (none, 0)], [])], (3, [(some 15, 0), (none, 0)], []))
set_option maxRecDepth 20000 in
theorem v_drawK_0_2 {PT : PTy} (hp : HP18 PT) : vcOk PT w_drawK_0_2 := vc_iv [(15, 0, 8)] [] (by decide +kernel) (fun ρ α => by
  intro r15 g15 b15 f0 tt
  clear f0
  simp only [hF3, den_s, den_c, Int.add_zero, List.map_cons, List.map_nil, g15] at ⊢
  clear g15 tt
  omega)
def w_drawK_0_3 : VC := (([(0, 23), (0, 49), (0, 8), (1, 10), (0, 8), (0, 6), (0, 6), (0, 8), (0, 9), (0, 49), (0, 49), ((-2147483648), 2147483647), ((-2147483648), 2147483647), (0, 5), ((-2147483648), 2147483647), (0, 8)]), [(1, [(some 3, 0), (none, 0)], [])], (2, [(none, 0), (some 3, 0)], []))
set_option maxRecDepth 20000 in
theorem v_drawK_0_3 {PT : PTy} (hp : HP18 PT) : vcOk PT w_drawK_0_3 := vc_iv [(3, 1, 10)] [] (by decide +kernel) (fun ρ α => by
  intro r3 g3 b3 f0 tt
  clear f0
  simp only [hF2, den_s, den_c, Int.add_zero, List.map_cons, List.map_nil, g3] at ⊢
  clear g3 tt
  omega)
def w_drawK_0_4 : VC := (([(0, 23), (0, 49), (0, 8), (0, 0), (0, 8), (0, 6), (0, 6), (0, 8), (0, 9), (0, 49), (0, 49), ((-2147483648), 2147483647), ((-2147483648), 2147483647), (0, 5), ((-2147483648), 2147483647), (0, 8)]), [(0, [(some 3, 0), (none, 0)], [])], (213, [(none, 0), (some 14, 0), (some 15, 0), (some 3, 0)], [36, 37]))
theorem pe213_18 {PT : PTy} (hp : HP18 PT) : PT 213 = P_drP := hp.2.2.1
set_option maxRecDepth 20000 in
theorem v_drawK_0_4 {PT : PTy} (hp : HP18 PT) : vcOk PT w_drawK_0_4 := vc_iv [(3, 0, 0), (14, (-2147483648), 2147483647), (15, 0, 8)] [36, 37] (by decide +kernel) (fun ρ α => by
  intro r3 g3 b3 r14 g14 b14 r15 g15 b15 a36 h36 a37 h37 f0 tt
  have e213 : PT 213 = P_drP := pe213_18 hp
  simp only [hF0, hFp_213, e213, P_drP, den_s, den_c, Int.add_zero, List.map_cons, List.map_nil, g3, g14, g15, h36, h37] at f0 ⊢
  clear g3 g14 g15 h36 h37 e213 tt
  first
    | exact ⟨fun _ => (by first | rfl | trivial), fun h => by exfalso; omega⟩
    | exact ⟨fun h => by exfalso; omega, fun _ => ⟨by omega, drS_z⟩⟩)
def w_drawK_1_0 : VC := (([(0, 23), (0, 49), (0, 8), (1, 10), (0, 8), (0, 6), (0, 6), (0, 8), (0, 9), (0, 49), (0, 49), ((-2147483648), 2147483647), ((-2147483648), 2147483647), (0, 5), ((-2147483648), 2147483647), (0, 8), ((-2147483648), 2147483647), (0, 8), (0, 9)]), [(3, [(some 17, 0), (some 15, 0)], []), (212, [(some 17, 0), (some 16, 0), (some 14, 0), (some 3, 0)], [58, 59]), (0, [(some 18, 0), (some 17, 0)], []), (3, [(some 15, 0), (some 17, 0)], []), (2, [(none, 0), (some 3, 0)], [])], (213, [(some 18, 0), (some 14, 0), (some 15, 0), (some 3, 0)], [58, 59]))
set_option maxRecDepth 20000 in
theorem v_drawK_1_0 {PT : PTy} (hp : HP18 PT) : vcOk PT w_drawK_1_0 := vc_iv [(3, 1, 10), (14, (-2147483648), 2147483647), (15, 0, 8), (16, (-2147483648), 2147483647), (17, 0, 8), (18, 0, 9)] [58, 59] (by decide +kernel) (fun ρ α => by
  intro r3 g3 b3 r14 g14 b14 r15 g15 b15 r16 g16 b16 r17 g17 b17 r18 g18 b18 a58 h58 a59 h59 f0 f1 f2 f3 f4 tt
  clear f4
  have e212 : PT 212 = P_drI := pe212_18 hp
  have e213 : PT 213 = P_drP := pe213_18 hp
  simp only [hF0, hF3, hFp_212, hFp_213, e212, e213, P_drI, P_drP, den_s, den_c, Int.add_zero, List.map_cons, List.map_nil, g3, g14, g15, g16, g17, g18, h58, h59] at f0 f1 f2 f3 ⊢
  clear g3 g14 g15 g16 g17 g18 h58 h59 e212 e213 tt
  obtain ⟨i1, i2⟩ := f1
  rw [show r17 = r15 by omega] at i2
  exact ⟨fun h => by exfalso; omega, fun _ => ⟨by omega, i2⟩⟩)
def w_drawK_1_1 : VC := (([(0, 23), (0, 49), (0, 8), (1, 10), (0, 8), (0, 6), (0, 6), (0, 8), (0, 9), (0, 49), (0, 49), ((-2147483648), 2147483647), ((-2147483648), 2147483647), (0, 5), ((-2147483648), 2147483647), (1, 8), ((-2147483648), 2147483647), (0, 7), (9, 9), ((-2147483648), 2147483647), ((-2147483648), 2147483647), (0, 65535), (0, 23), ((-2147483648), 2147483647), ((-2147483648), 2147483647), (0, 65535), (0, 9)]), [(3, [(some 18, 0), (none, 9)], []), (8, [(some 26, 0), (some 25, 0), (some 3, 0)], []), (15, [(some 25, 0), (some 24, 0), (none, 16)], []), (16, [(some 24, 0), (some 23, 0), (none, 12345)], []), (17, [(some 23, 0), (none, 1103515245), (some 20, 0)], []), (8, [(some 22, 0), (some 21, 0), (none, 24)], []), (15, [(some 21, 0), (some 20, 0), (none, 16)], []), (16, [(some 20, 0), (some 19, 0), (none, 12345)], []), (17, [(some 19, 0), (none, 1103515245), (some 16, 0)], []), (2, [(some 17, 0), (some 15, 0)], []), (212, [(some 17, 0), (some 16, 0), (some 14, 0), (some 3, 0)], [58, 59]), (0, [(some 18, 0), (some 17, 0)], []), (3, [(some 15, 0), (some 17, 0)], []), (2, [(none, 0), (some 3, 0)], [])], (212, [(some 17, 1), (some 24, 0), (some 14, 0), (some 3, 0)], [58, 59]))
set_option maxRecDepth 20000 in
theorem v_drawK_1_1 {PT : PTy} (hp : HP18 PT) : vcOk PT w_drawK_1_1 := vc_iv [(3, 1, 10), (14, (-2147483648), 2147483647), (15, 1, 8), (16, (-2147483648), 2147483647), (17, 0, 7), (18, 9, 9), (19, (-2147483648), 2147483647), (20, (-2147483648), 2147483647), (21, 0, 65535), (22, 0, 23), (23, (-2147483648), 2147483647), (24, (-2147483648), 2147483647), (25, 0, 65535), (26, 0, 9)] [58, 59] (by decide +kernel) (fun ρ α => by
  intro r3 g3 b3 r14 g14 b14 r15 g15 b15 r16 g16 b16 r17 g17 b17 r18 g18 b18 r19 g19 b19 r20 g20 b20 r21 g21 b21 r22 g22 b22 r23 g23 b23 r24 g24 b24 r25 g25 b25 r26 g26 b26 a58 h58 a59 h59 f0 f1 f2 f3 f4 f5 f6 f7 f8 f9 f10 f11 f12 f13 tt
  clear f0 f13
  have e212 : PT 212 = P_drI := pe212_18 hp
  simp only [hF0, hF2, hF3, hF8, hF15, hF16, hF17, hFp_212, e212, P_drI, den_s, den_c, Int.add_zero, List.map_cons, List.map_nil, g3, g14, g15, g16, g17, g18, g19, g20, g21, g22, g23, g24, g25, g26, h58, h59] at f1 f2 f3 f4 f5 f6 f7 f8 f9 f10 f11 f12 ⊢
  clear g3 g14 g15 g16 g17 g18 g19 g20 g21 g22 g23 g24 g25 g26 h58 h59 e212 tt
  subst f1
  subst f2
  subst f3
  subst f4
  subst f5
  subst f6
  subst f7
  subst f8
  exfalso; omega)
def w_drawK_1_2 : VC := (([(0, 23), (0, 49), (0, 8), (1, 10), (0, 8), (0, 6), (0, 6), (0, 8), (0, 9), (0, 49), (0, 49), ((-2147483648), 2147483647), ((-2147483648), 2147483647), (0, 5), ((-2147483648), 2147483647), (1, 8), ((-2147483648), 2147483647), (0, 7), (9, 9), ((-2147483648), 2147483647), ((-2147483648), 2147483647), (0, 65535), (0, 23), ((-2147483648), 2147483647), ((-2147483648), 2147483647), (0, 65535), (0, 9)]), [(3, [(some 18, 0), (none, 9)], []), (8, [(some 26, 0), (some 25, 0), (some 3, 0)], []), (15, [(some 25, 0), (some 24, 0), (none, 16)], []), (16, [(some 24, 0), (some 23, 0), (none, 12345)], []), (17, [(some 23, 0), (none, 1103515245), (some 20, 0)], []), (8, [(some 22, 0), (some 21, 0), (none, 24)], []), (15, [(some 21, 0), (some 20, 0), (none, 16)], []), (16, [(some 20, 0), (some 19, 0), (none, 12345)], []), (17, [(some 19, 0), (none, 1103515245), (some 16, 0)], []), (2, [(some 17, 0), (some 15, 0)], []), (212, [(some 17, 0), (some 16, 0), (some 14, 0), (some 3, 0)], [58, 59]), (0, [(some 18, 0), (some 17, 0)], []), (3, [(some 15, 0), (some 17, 0)], []), (2, [(none, 0), (some 3, 0)], [])], (0, [(some 18, 0), (some 17, 1)], []))
set_option maxRecDepth 20000 in
theorem v_drawK_1_2 {PT : PTy} (hp : HP18 PT) : vcOk PT w_drawK_1_2 := vc_iv [(3, 1, 10), (14, (-2147483648), 2147483647), (15, 1, 8), (16, (-2147483648), 2147483647), (17, 0, 7), (18, 9, 9), (19, (-2147483648), 2147483647), (20, (-2147483648), 2147483647), (21, 0, 65535), (22, 0, 23), (23, (-2147483648), 2147483647), (24, (-2147483648), 2147483647), (25, 0, 65535), (26, 0, 9)] [58, 59] (by decide +kernel) (fun ρ α => by
  intro r3 g3 b3 r14 g14 b14 r15 g15 b15 r16 g16 b16 r17 g17 b17 r18 g18 b18 r19 g19 b19 r20 g20 b20 r21 g21 b21 r22 g22 b22 r23 g23 b23 r24 g24 b24 r25 g25 b25 r26 g26 b26 a58 h58 a59 h59 f0 f1 f2 f3 f4 f5 f6 f7 f8 f9 f10 f11 f12 f13 tt
  clear f0 f13
  have e212 : PT 212 = P_drI := pe212_18 hp
  simp only [hF0, hF2, hF3, hF8, hF15, hF16, hF17, hFp_212, e212, P_drI, den_s, den_c, Int.add_zero, List.map_cons, List.map_nil, g3, g14, g15, g16, g17, g18, g19, g20, g21, g22, g23, g24, g25, g26, h58, h59] at f1 f2 f3 f4 f5 f6 f7 f8 f9 f10 f11 f12 ⊢
  clear g3 g14 g15 g16 g17 g18 g19 g20 g21 g22 g23 g24 g25 g26 h58 h59 e212 tt
  subst f1
  subst f2
  subst f3
  subst f4
  subst f5
  subst f6
  subst f7
  subst f8
  omega)
def w_drawK_1_3 : VC := (([(0, 23), (0, 49), (0, 8), (1, 10), (0, 8), (0, 6), (0, 6), (0, 8), (0, 9), (0, 49), (0, 49), ((-2147483648), 2147483647), ((-2147483648), 2147483647), (0, 5), ((-2147483648), 2147483647), (1, 8), ((-2147483648), 2147483647), (0, 7), (9, 9), ((-2147483648), 2147483647), ((-2147483648), 2147483647), (0, 65535), (0, 23), ((-2147483648), 2147483647), ((-2147483648), 2147483647), (0, 65535), (0, 9)]), [(3, [(some 18, 0), (none, 9)], []), (8, [(some 26, 0), (some 25, 0), (some 3, 0)], []), (15, [(some 25, 0), (some 24, 0), (none, 16)], []), (16, [(some 24, 0), (some 23, 0), (none, 12345)], []), (17, [(some 23, 0), (none, 1103515245), (some 20, 0)], []), (8, [(some 22, 0), (some 21, 0), (none, 24)], []), (15, [(some 21, 0), (some 20, 0), (none, 16)], []), (16, [(some 20, 0), (some 19, 0), (none, 12345)], []), (17, [(some 19, 0), (none, 1103515245), (some 16, 0)], []), (2, [(some 17, 0), (some 15, 0)], []), (212, [(some 17, 0), (some 16, 0), (some 14, 0), (some 3, 0)], [58, 59]), (0, [(some 18, 0), (some 17, 0)], []), (3, [(some 15, 0), (some 17, 0)], []), (2, [(none, 0), (some 3, 0)], [])], (3, [(some 15, 0), (some 17, 1)], []))
set_option maxRecDepth 20000 in
theorem v_drawK_1_3 {PT : PTy} (hp : HP18 PT) : vcOk PT w_drawK_1_3 := vc_iv [(3, 1, 10), (14, (-2147483648), 2147483647), (15, 1, 8), (16, (-2147483648), 2147483647), (17, 0, 7), (18, 9, 9), (19, (-2147483648), 2147483647), (20, (-2147483648), 2147483647), (21, 0, 65535), (22, 0, 23), (23, (-2147483648), 2147483647), (24, (-2147483648), 2147483647), (25, 0, 65535), (26, 0, 9)] [58, 59] (by decide +kernel) (fun ρ α => by
  intro r3 g3 b3 r14 g14 b14 r15 g15 b15 r16 g16 b16 r17 g17 b17 r18 g18 b18 r19 g19 b19 r20 g20 b20 r21 g21 b21 r22 g22 b22 r23 g23 b23 r24 g24 b24 r25 g25 b25 r26 g26 b26 a58 h58 a59 h59 f0 f1 f2 f3 f4 f5 f6 f7 f8 f9 f10 f11 f12 f13 tt
  clear f0 f13
  have e212 : PT 212 = P_drI := pe212_18 hp
  simp only [hF0, hF2, hF3, hF8, hF15, hF16, hF17, hFp_212, e212, P_drI, den_s, den_c, Int.add_zero, List.map_cons, List.map_nil, g3, g14, g15, g16, g17, g18, g19, g20, g21, g22, g23, g24, g25, g26, h58, h59] at f1 f2 f3 f4 f5 f6 f7 f8 f9 f10 f11 f12 ⊢
  clear g3 g14 g15 g16 g17 g18 g19 g20 g21 g22 g23 g24 g25 g26 h58 h59 e212 tt
  subst f1
  subst f2
  subst f3
  subst f4
  subst f5
  subst f6
  subst f7
  subst f8
  omega)
def w_drawK_1_4 : VC := (([(0, 23), (0, 49), (0, 8), (1, 10), (0, 8), (0, 6), (0, 6), (0, 8), (0, 9), (0, 49), (0, 49), ((-2147483648), 2147483647), ((-2147483648), 2147483647), (0, 5), ((-2147483648), 2147483647), (1, 8), ((-2147483648), 2147483647), (0, 7), (0, 8), ((-2147483648), 2147483647), ((-2147483648), 2147483647), (0, 65535), (0, 23), ((-2147483648), 2147483647), ((-2147483648), 2147483647), (0, 65535), (0, 9)]), [(21, [(some 18, 0), (none, 0)], [63, 60]), (21, [(some 18, 0), (some 26, 0)], [62, 59]), (21, [(some 18, 0), (some 22, 0)], [61, 58]), (2, [(some 18, 0), (none, 9)], []), (8, [(some 26, 0), (some 25, 0), (some 3, 0)], []), (15, [(some 25, 0), (some 24, 0), (none, 16)], []), (16, [(some 24, 0), (some 23, 0), (none, 12345)], []), (17, [(some 23, 0), (none, 1103515245), (some 20, 0)], []), (8, [(some 22, 0), (some 21, 0), (none, 24)], []), (15, [(some 21, 0), (some 20, 0), (none, 16)], []), (16, [(some 20, 0), (some 19, 0), (none, 12345)], []), (17, [(some 19, 0), (none, 1103515245), (some 16, 0)], []), (2, [(some 17, 0), (some 15, 0)], []), (212, [(some 17, 0), (some 16, 0), (some 14, 0), (some 3, 0)], [58, 59]), (0, [(some 18, 0), (some 17, 0)], []), (3, [(some 15, 0), (some 17, 0)], []), (2, [(none, 0), (some 3, 0)], [])], (212, [(some 17, 1), (some 24, 0), (some 14, 0), (some 3, 0)], [61, 62]))
set_option maxRecDepth 20000 in
theorem v_drawK_1_4 {PT : PTy} (hp : HP18 PT) : vcOk PT w_drawK_1_4 := vc_iv [(3, 1, 10), (14, (-2147483648), 2147483647), (15, 1, 8), (16, (-2147483648), 2147483647), (17, 0, 7), (18, 0, 8), (19, (-2147483648), 2147483647), (20, (-2147483648), 2147483647), (21, 0, 65535), (22, 0, 23), (23, (-2147483648), 2147483647), (24, (-2147483648), 2147483647), (25, 0, 65535), (26, 0, 9)] [58, 59, 60, 61, 62, 63] (by decide +kernel) (fun ρ α => by
  intro r3 g3 b3 r14 g14 b14 r15 g15 b15 r16 g16 b16 r17 g17 b17 r18 g18 b18 r19 g19 b19 r20 g20 b20 r21 g21 b21 r22 g22 b22 r23 g23 b23 r24 g24 b24 r25 g25 b25 r26 g26 b26 a58 h58 a59 h59 a60 h60 a61 h61 a62 h62 a63 h63 f0 f1 f2 f3 f4 f5 f6 f7 f8 f9 f10 f11 f12 f13 f14 f15 f16 tt
  clear f3 f16
  have e212 : PT 212 = P_drI := pe212_18 hp
  simp only [hF0, hF2, hF3, hF8, hF15, hF16, hF17, hF21, hFp_212, e212, P_drI, den_s, den_c, Int.add_zero, List.map_cons, List.map_nil, g3, g14, g15, g16, g17, g18, g19, g20, g21, g22, g23, g24, g25, g26, h58, h59, h60, h61, h62, h63] at f0 f1 f2 f4 f5 f6 f7 f8 f9 f10 f11 f12 f13 f14 f15 ⊢
  clear g3 g14 g15 g16 g17 g18 g19 g20 g21 g22 g23 g24 g25 g26 h58 h59 h60 h61 h62 h63 e212 tt
  subst f0
  subst f1
  subst f2
  subst f4
  subst f5
  subst f6
  subst f7
  subst f8
  subst f9
  subst f10
  subst f11
  obtain ⟨i1, i2⟩ := f13
  have e : r18 = r17 := by omega
  subst e
  subst i1
  exact ⟨(sdF_s (by omega)).symm, drS_s i2 rfl rfl⟩)
def w_drawK_1_5 : VC := (([(0, 23), (0, 49), (0, 8), (1, 10), (0, 8), (0, 6), (0, 6), (0, 8), (0, 9), (0, 49), (0, 49), ((-2147483648), 2147483647), ((-2147483648), 2147483647), (0, 5), ((-2147483648), 2147483647), (1, 8), ((-2147483648), 2147483647), (0, 7), (0, 8), ((-2147483648), 2147483647), ((-2147483648), 2147483647), (0, 65535), (0, 23), ((-2147483648), 2147483647), ((-2147483648), 2147483647), (0, 65535), (0, 9)]), [(21, [(some 18, 0), (none, 0)], [63, 60]), (21, [(some 18, 0), (some 26, 0)], [62, 59]), (21, [(some 18, 0), (some 22, 0)], [61, 58]), (2, [(some 18, 0), (none, 9)], []), (8, [(some 26, 0), (some 25, 0), (some 3, 0)], []), (15, [(some 25, 0), (some 24, 0), (none, 16)], []), (16, [(some 24, 0), (some 23, 0), (none, 12345)], []), (17, [(some 23, 0), (none, 1103515245), (some 20, 0)], []), (8, [(some 22, 0), (some 21, 0), (none, 24)], []), (15, [(some 21, 0), (some 20, 0), (none, 16)], []), (16, [(some 20, 0), (some 19, 0), (none, 12345)], []), (17, [(some 19, 0), (none, 1103515245), (some 16, 0)], []), (2, [(some 17, 0), (some 15, 0)], []), (212, [(some 17, 0), (some 16, 0), (some 14, 0), (some 3, 0)], [58, 59]), (0, [(some 18, 0), (some 17, 0)], []), (3, [(some 15, 0), (some 17, 0)], []), (2, [(none, 0), (some 3, 0)], [])], (0, [(some 18, 1), (some 17, 1)], []))
set_option maxRecDepth 20000 in
theorem v_drawK_1_5 {PT : PTy} (hp : HP18 PT) : vcOk PT w_drawK_1_5 := vc_iv [(3, 1, 10), (14, (-2147483648), 2147483647), (15, 1, 8), (16, (-2147483648), 2147483647), (17, 0, 7), (18, 0, 8), (19, (-2147483648), 2147483647), (20, (-2147483648), 2147483647), (21, 0, 65535), (22, 0, 23), (23, (-2147483648), 2147483647), (24, (-2147483648), 2147483647), (25, 0, 65535), (26, 0, 9)] [58, 59, 60, 61, 62, 63] (by decide +kernel) (fun ρ α => by
  intro r3 g3 b3 r14 g14 b14 r15 g15 b15 r16 g16 b16 r17 g17 b17 r18 g18 b18 r19 g19 b19 r20 g20 b20 r21 g21 b21 r22 g22 b22 r23 g23 b23 r24 g24 b24 r25 g25 b25 r26 g26 b26 a58 h58 a59 h59 a60 h60 a61 h61 a62 h62 a63 h63 f0 f1 f2 f3 f4 f5 f6 f7 f8 f9 f10 f11 f12 f13 f14 f15 f16 tt
  clear f3 f16
  have e212 : PT 212 = P_drI := pe212_18 hp
  simp only [hF0, hF2, hF3, hF8, hF15, hF16, hF17, hF21, hFp_212, e212, P_drI, den_s, den_c, Int.add_zero, List.map_cons, List.map_nil, g3, g14, g15, g16, g17, g18, g19, g20, g21, g22, g23, g24, g25, g26, h58, h59, h60, h61, h62, h63] at f0 f1 f2 f4 f5 f6 f7 f8 f9 f10 f11 f12 f13 f14 f15 ⊢
  clear g3 g14 g15 g16 g17 g18 g19 g20 g21 g22 g23 g24 g25 g26 h58 h59 h60 h61 h62 h63 e212 tt
  subst f0
  subst f1
  subst f2
  subst f4
  subst f5
  subst f6
  subst f7
  subst f8
  subst f9
  subst f10
  subst f11
  omega)
def w_drawK_1_6 : VC := (([(0, 23), (0, 49), (0, 8), (1, 10), (0, 8), (0, 6), (0, 6), (0, 8), (0, 9), (0, 49), (0, 49), ((-2147483648), 2147483647), ((-2147483648), 2147483647), (0, 5), ((-2147483648), 2147483647), (1, 8), ((-2147483648), 2147483647), (0, 7), (0, 8), ((-2147483648), 2147483647), ((-2147483648), 2147483647), (0, 65535), (0, 23), ((-2147483648), 2147483647), ((-2147483648), 2147483647), (0, 65535), (0, 9)]), [(21, [(some 18, 0), (none, 0)], [63, 60]), (21, [(some 18, 0), (some 26, 0)], [62, 59]), (21, [(some 18, 0), (some 22, 0)], [61, 58]), (2, [(some 18, 0), (none, 9)], []), (8, [(some 26, 0), (some 25, 0), (some 3, 0)], []), (15, [(some 25, 0), (some 24, 0), (none, 16)], []), (16, [(some 24, 0), (some 23, 0), (none, 12345)], []), (17, [(some 23, 0), (none, 1103515245), (some 20, 0)], []), (8, [(some 22, 0), (some 21, 0), (none, 24)], []), (15, [(some 21, 0), (some 20, 0), (none, 16)], []), (16, [(some 20, 0), (some 19, 0), (none, 12345)], []), (17, [(some 19, 0), (none, 1103515245), (some 16, 0)], []), (2, [(some 17, 0), (some 15, 0)], []), (212, [(some 17, 0), (some 16, 0), (some 14, 0), (some 3, 0)], [58, 59]), (0, [(some 18, 0), (some 17, 0)], []), (3, [(some 15, 0), (some 17, 0)], []), (2, [(none, 0), (some 3, 0)], [])], (3, [(some 15, 0), (some 17, 1)], []))
set_option maxRecDepth 20000 in
theorem v_drawK_1_6 {PT : PTy} (hp : HP18 PT) : vcOk PT w_drawK_1_6 := vc_iv [(3, 1, 10), (14, (-2147483648), 2147483647), (15, 1, 8), (16, (-2147483648), 2147483647), (17, 0, 7), (18, 0, 8), (19, (-2147483648), 2147483647), (20, (-2147483648), 2147483647), (21, 0, 65535), (22, 0, 23), (23, (-2147483648), 2147483647), (24, (-2147483648), 2147483647), (25, 0, 65535), (26, 0, 9)] [58, 59, 60, 61, 62, 63] (by decide +kernel) (fun ρ α => by
  intro r3 g3 b3 r14 g14 b14 r15 g15 b15 r16 g16 b16 r17 g17 b17 r18 g18 b18 r19 g19 b19 r20 g20 b20 r21 g21 b21 r22 g22 b22 r23 g23 b23 r24 g24 b24 r25 g25 b25 r26 g26 b26 a58 h58 a59 h59 a60 h60 a61 h61 a62 h62 a63 h63 f0 f1 f2 f3 f4 f5 f6 f7 f8 f9 f10 f11 f12 f13 f14 f15 f16 tt
  clear f3 f16
  have e212 : PT 212 = P_drI := pe212_18 hp
  simp only [hF0, hF2, hF3, hF8, hF15, hF16, hF17, hF21, hFp_212, e212, P_drI, den_s, den_c, Int.add_zero, List.map_cons, List.map_nil, g3, g14, g15, g16, g17, g18, g19, g20, g21, g22, g23, g24, g25, g26, h58, h59, h60, h61, h62, h63] at f0 f1 f2 f4 f5 f6 f7 f8 f9 f10 f11 f12 f13 f14 f15 ⊢
  clear g3 g14 g15 g16 g17 g18 g19 g20 g21 g22 g23 g24 g25 g26 h58 h59 h60 h61 h62 h63 e212 tt
  subst f0
  subst f1
  subst f2
  subst f4
  subst f5
  subst f6
  subst f7
  subst f8
  subst f9
  subst f10
  subst f11
  omega)
set_option maxRecDepth 1000000 in
theorem k_drawK {PT : PTy} (hp : HP18 PT) : wfX c_drawK = true ∧ xcOk PT c_drawK := xctr (xl0) c_drawK 94 mX6_drawKeepings rfl h_drawK (by decide +kernel) (by decide +kernel) (by decide) (vcs_by [w_drawK_0_0, w_drawK_0_1, w_drawK_0_2, w_drawK_0_3, w_drawK_0_4] (by decide +kernel) (vc (v_drawK_0_0 hp) (vc (v_drawK_0_1 hp) (vc (v_drawK_0_2 hp) (vc (v_drawK_0_3 hp) (vc (v_drawK_0_4 hp) vn)))))) (fmc (vcs_by [w_drawK_1_0, w_drawK_1_1, w_drawK_1_2, w_drawK_1_3, w_drawK_1_4, w_drawK_1_5, w_drawK_1_6] (by decide +kernel) (vc (v_drawK_1_0 hp) (vc (v_drawK_1_1 hp) (vc (v_drawK_1_2 hp) (vc (v_drawK_1_3 hp) (vc (v_drawK_1_4 hp) (vc (v_drawK_1_5 hp) (vc (v_drawK_1_6 hp) vn)))))))) fmn)
def c_bitCount35 : XC := (201, 0, (bX ++ [((-2147483648), 2147483647)]), [.inl (some 14, 0)], (gX 35), [], [((bX ++ [((-2147483648), 2147483647), ((-2147483648), 2147483647)]), some (.inl (some 15, 0)), (gX 35), (List.range 58), 58, [(160, [(some 15, 0), (some 14, 0)], [])])])
def h_bitCount35 : List XH := []
def w_bitCount35_0_0 : VC := ((bX ++ List.replicate 13 ((-2147483648), 2147483647) ++ [(0, 65535), ((-2147483648), 2147483647), ((-2147483648), 2147483647)]), [(10, [(some 29, 0), (some 28, 0), (none, 63)], []), (16, [(some 28, 0), (some 26, 0), (some 27, 0)], []), (15, [(some 27, 0), (some 26, 0), (none, 16)], []), (16, [(some 26, 0), (some 24, 0), (some 25, 0)], []), (15, [(some 25, 0), (some 24, 0), (none, 8)], []), (10, [(some 24, 0), (some 23, 0), (none, 252645135)], []), (16, [(some 23, 0), (some 21, 0), (some 22, 0)], []), (15, [(some 22, 0), (some 21, 0), (none, 4)], []), (16, [(some 21, 0), (some 18, 0), (some 20, 0)], []), (10, [(some 20, 0), (some 19, 0), (none, 858993459)], []), (15, [(some 19, 0), (some 17, 0), (none, 2)], []), (10, [(some 18, 0), (some 17, 0), (none, 858993459)], []), (29, [(some 17, 0), (some 14, 0), (some 16, 0)], []), (10, [(some 16, 0), (some 15, 0), (none, 1431655765)], []), (15, [(some 15, 0), (some 14, 0), (none, 1)], [])], (160, [(some 29, 0), (some 14, 0)], []))
theorem pe160_18 {PT : PTy} (hp : HP18 PT) : PT 160 = P_bc := hp.1.1.1.1.1.1.1.2.2.2.2.2.2.2.2.2.2.2.2.2.2.1
set_option maxRecDepth 20000 in
theorem v_bitCount35_0_0 {PT : PTy} (hp : HP18 PT) : vcOk PT w_bitCount35_0_0 := vc_iv [(14, (-2147483648), 2147483647), (15, (-2147483648), 2147483647), (16, (-2147483648), 2147483647), (17, (-2147483648), 2147483647), (18, (-2147483648), 2147483647), (19, (-2147483648), 2147483647), (20, (-2147483648), 2147483647), (21, (-2147483648), 2147483647), (22, (-2147483648), 2147483647), (23, (-2147483648), 2147483647), (24, (-2147483648), 2147483647), (25, (-2147483648), 2147483647), (26, (-2147483648), 2147483647), (27, 0, 65535), (28, (-2147483648), 2147483647), (29, (-2147483648), 2147483647)] [] (by decide +kernel) (fun ρ α => by
  intro r14 g14 b14 r15 g15 b15 r16 g16 b16 r17 g17 b17 r18 g18 b18 r19 g19 b19 r20 g20 b20 r21 g21 b21 r22 g22 b22 r23 g23 b23 r24 g24 b24 r25 g25 b25 r26 g26 b26 r27 g27 b27 r28 g28 b28 r29 g29 b29 f0 f1 f2 f3 f4 f5 f6 f7 f8 f9 f10 f11 f12 f13 f14 tt
  have e160 : PT 160 = P_bc := pe160_18 hp
  simp only [hF10, hF15, hF16, hF29, hFp_160, e160, P_bc, den_s, den_c, Int.add_zero, List.map_cons, List.map_nil, g14, g15, g16, g17, g18, g19, g20, g21, g22, g23, g24, g25, g26, g27, g28, g29] at f0 f1 f2 f3 f4 f5 f6 f7 f8 f9 f10 f11 f12 f13 f14 ⊢
  clear g14 g15 g16 g17 g18 g19 g20 g21 g22 g23 g24 g25 g26 g27 g28 g29 e160 tt
  subst f0
  subst f1
  subst f2
  subst f3
  subst f4
  subst f5
  subst f6
  subst f7
  subst f8
  subst f9
  subst f10
  subst f11
  subst f12
  subst f13
  subst f14
  rfl)
set_option maxRecDepth 1000000 in
theorem k_bitCount35 {PT : PTy} (hp : HP18 PT) : wfX c_bitCount35 = true ∧ xcOk PT c_bitCount35 := xctr (xl0) c_bitCount35 62 mJ6_bitCount_0f7a4 rfl h_bitCount35 (by decide +kernel) (by decide +kernel) (by decide) (vcs_by [w_bitCount35_0_0] (by decide +kernel) (vc (v_bitCount35_0_0 hp) vn)) fmn
def c_xo_year : XC := (71, 3, (bT ++ [((-2147483648), 2147483647), ((-2147483648), 2147483647), ((-2147483648), 2147483647)]), [.inr (.inl 0), .inl (some 14, 0), .inl (some 15, 0), .inl (some 16, 0)], (gX 999), [], [((bT ++ [((-2147483648), 2147483647), ((-2147483648), 2147483647), ((-2147483648), 2147483647), ((-2147483648), 2147483647), (0, 49), (0, 49), ((-2147483648), 2147483647), ((-2147483648), 2147483647), (0, 9)]), some (.inl (some 17, 0)), (hst (gX 999) [(5, .inr (.inr (.inr (0, [.inr (.inl 6), .inr (.inl 9), .inr (.inl 14), .inr (.inl 18), .inr (.inl 22), .inr (.inl 26), .inr (.inl 27), .inr (.inl 28), .inr (.inl 29), .inr (.inl 30), .inl (some 18, 0), .inl (some 19, 0), .inl (some 20, 0), .inl (some 21, 0), .inr (.inl 999)])))), (35, .inr (.inr (.inr (4, [.inr (.inl 36), .inr (.inl 37), .inr (.inl 38), .inl (none, 8), .inl (some 22, 0)]))))]), (ansT 58 [(26, 58), (27, 59), (28, 60), (29, 61), (30, 62), (36, 63), (37, 64), (38, 65)]), 66, [(214, [(some 17, 0), (some 14, 0), (some 15, 0), (some 16, 0), (some 22, 0), (some 2, 0), (some 3, 0), (some 5, 0), (some 6, 0)], [7, 8, 10, 11, 12, 13, 63, 64, 19, 20, 21, 23, 24, 25, 60, 61, 62])])])
def h_xo_year : List XH := []
def w_xo_year_0_0 : VC := ((bT ++ [((-2147483648), 2147483647), ((-2147483648), (-1)), ((-2147483648), 2147483647)]), [(0, [(none, 0), (none, 0)], []), (2, [(some 15, 0), (none, 0)], [])], (214, [(none, (-2)), (some 14, 0), (some 15, 0), (some 16, 0), (some 8, 0), (some 2, 0), (some 3, 0), (some 5, 0), (some 6, 0)], [7, 8, 10, 11, 12, 13, 36, 37, 19, 20, 21, 23, 24, 25, 28, 29, 30]))
theorem pe214_18 {PT : PTy} (hp : HP18 PT) : PT 214 = P_oyX := hp.2.2.2.1
set_option maxRecDepth 20000 in
theorem v_xo_year_0_0 {PT : PTy} (hp : HP18 PT) : vcOk PT w_xo_year_0_0 := vc_iv [(2, 0, 8), (3, 0, 10), (5, 0, 6), (6, 0, 6), (8, 0, 9), (14, (-2147483648), 2147483647), (15, (-2147483648), (-1)), (16, (-2147483648), 2147483647)] [7, 8, 10, 11, 12, 13, 19, 20, 21, 23, 24, 25, 28, 29, 30, 36, 37] (by decide +kernel) (fun ρ α => by
  intro r2 g2 b2 r3 g3 b3 r5 g5 b5 r6 g6 b6 r8 g8 b8 r14 g14 b14 r15 g15 b15 r16 g16 b16 a7 h7 a8 h8 a10 h10 a11 h11 a12 h12 a13 h13 a19 h19 a20 h20 a21 h21 a23 h23 a24 h24 a25 h25 a28 h28 a29 h29 a30 h30 a36 h36 a37 h37 f0 f1 tt
  clear f0 f1
  have e214 : PT 214 = P_oyX := pe214_18 hp
  simp only [hFp_214, e214, P_oyX, den_s, den_c, Int.add_zero, List.map_cons, List.map_nil, g2, g3, g5, g6, g8, g14, g15, g16, h7, h8, h10, h11, h12, h13, h19, h20, h21, h23, h24, h25, h28, h29, h30, h36, h37] at ⊢
  clear g2 g3 g5 g6 g8 g14 g15 g16 h7 h8 h10 h11 h12 h13 h19 h20 h21 h23 h24 h25 h28 h29 h30 h36 h37 e214 tt
  ((repeat' (first | apply And.intro | intro h)) <;> first | omega | rfl | trivial | (exfalso; omega)))
def w_xo_year_0_1 : VC := ((bT ++ [((-2147483648), 2147483647), (9, 2147483647), ((-2147483648), 2147483647)]), [(0, [(none, 0), (none, 0)], []), (2, [(none, 8), (some 15, 0)], []), (3, [(some 15, 0), (none, 0)], [])], (214, [(none, (-2)), (some 14, 0), (some 15, 0), (some 16, 0), (some 8, 0), (some 2, 0), (some 3, 0), (some 5, 0), (some 6, 0)], [7, 8, 10, 11, 12, 13, 36, 37, 19, 20, 21, 23, 24, 25, 28, 29, 30]))
set_option maxRecDepth 20000 in
theorem v_xo_year_0_1 {PT : PTy} (hp : HP18 PT) : vcOk PT w_xo_year_0_1 := vc_iv [(2, 0, 8), (3, 0, 10), (5, 0, 6), (6, 0, 6), (8, 0, 9), (14, (-2147483648), 2147483647), (15, 9, 2147483647), (16, (-2147483648), 2147483647)] [7, 8, 10, 11, 12, 13, 19, 20, 21, 23, 24, 25, 28, 29, 30, 36, 37] (by decide +kernel) (fun ρ α => by
  intro r2 g2 b2 r3 g3 b3 r5 g5 b5 r6 g6 b6 r8 g8 b8 r14 g14 b14 r15 g15 b15 r16 g16 b16 a7 h7 a8 h8 a10 h10 a11 h11 a12 h12 a13 h13 a19 h19 a20 h20 a21 h21 a23 h23 a24 h24 a25 h25 a28 h28 a29 h29 a30 h30 a36 h36 a37 h37 f0 f1 f2 tt
  clear f0 f1 f2
  have e214 : PT 214 = P_oyX := pe214_18 hp
  simp only [hFp_214, e214, P_oyX, den_s, den_c, Int.add_zero, List.map_cons, List.map_nil, g2, g3, g5, g6, g8, g14, g15, g16, h7, h8, h10, h11, h12, h13, h19, h20, h21, h23, h24, h25, h28, h29, h30, h36, h37] at ⊢
  clear g2 g3 g5 g6 g8 g14 g15 g16 h7 h8 h10 h11 h12 h13 h19 h20 h21 h23 h24 h25 h28 h29 h30 h36 h37 e214 tt
  ((repeat' (first | apply And.intro | intro h)) <;> first | omega | rfl | trivial | (exfalso; omega)))
def w_xo_year_0_2 : VC := ((bT ++ [((-2147483648), 2147483647), (0, 8), ((-2147483648), (-1))]), [(0, [(none, 0), (none, 0)], []), (2, [(some 16, 0), (none, 0)], []), (1, [(none, 1), (none, 0)], []), (3, [(none, 8), (some 15, 0)], []), (3, [(some 15, 0), (none, 0)], [])], (214, [(none, (-2)), (some 14, 0), (some 15, 0), (some 16, 0), (some 8, 0), (some 2, 0), (some 3, 0), (some 5, 0), (some 6, 0)], [7, 8, 10, 11, 12, 13, 36, 37, 19, 20, 21, 23, 24, 25, 28, 29, 30]))
set_option maxRecDepth 20000 in
theorem v_xo_year_0_2 {PT : PTy} (hp : HP18 PT) : vcOk PT w_xo_year_0_2 := vc_iv [(2, 0, 8), (3, 0, 10), (5, 0, 6), (6, 0, 6), (8, 0, 9), (14, (-2147483648), 2147483647), (15, 0, 8), (16, (-2147483648), (-1))] [7, 8, 10, 11, 12, 13, 19, 20, 21, 23, 24, 25, 28, 29, 30, 36, 37] (by decide +kernel) (fun ρ α => by
  intro r2 g2 b2 r3 g3 b3 r5 g5 b5 r6 g6 b6 r8 g8 b8 r14 g14 b14 r15 g15 b15 r16 g16 b16 a7 h7 a8 h8 a10 h10 a11 h11 a12 h12 a13 h13 a19 h19 a20 h20 a21 h21 a23 h23 a24 h24 a25 h25 a28 h28 a29 h29 a30 h30 a36 h36 a37 h37 f0 f1 f2 f3 f4 tt
  clear f0 f1 f2 f3 f4
  have e214 : PT 214 = P_oyX := pe214_18 hp
  simp only [hFp_214, e214, P_oyX, den_s, den_c, Int.add_zero, List.map_cons, List.map_nil, g2, g3, g5, g6, g8, g14, g15, g16, h7, h8, h10, h11, h12, h13, h19, h20, h21, h23, h24, h25, h28, h29, h30, h36, h37] at ⊢
  clear g2 g3 g5 g6 g8 g14 g15 g16 h7 h8 h10 h11 h12 h13 h19 h20 h21 h23 h24 h25 h28 h29 h30 h36 h37 e214 tt
  ((repeat' (first | apply And.intro | intro h)) <;> first | omega | rfl | trivial | (exfalso; omega)))
def w_xo_year_0_3 : VC := ((bT ++ [((-2147483648), 2147483647), (0, 8), (2, 2147483647)]), [(0, [(none, 0), (none, 0)], []), (2, [(none, 1), (some 16, 0)], []), (3, [(some 16, 0), (none, 0)], []), (1, [(none, 1), (none, 0)], []), (3, [(none, 8), (some 15, 0)], []), (3, [(some 15, 0), (none, 0)], [])], (214, [(none, (-2)), (some 14, 0), (some 15, 0), (some 16, 0), (some 8, 0), (some 2, 0), (some 3, 0), (some 5, 0), (some 6, 0)], [7, 8, 10, 11, 12, 13, 36, 37, 19, 20, 21, 23, 24, 25, 28, 29, 30]))
set_option maxRecDepth 20000 in
theorem v_xo_year_0_3 {PT : PTy} (hp : HP18 PT) : vcOk PT w_xo_year_0_3 := vc_iv [(2, 0, 8), (3, 0, 10), (5, 0, 6), (6, 0, 6), (8, 0, 9), (14, (-2147483648), 2147483647), (15, 0, 8), (16, 2, 2147483647)] [7, 8, 10, 11, 12, 13, 19, 20, 21, 23, 24, 25, 28, 29, 30, 36, 37] (by decide +kernel) (fun ρ α => by
  intro r2 g2 b2 r3 g3 b3 r5 g5 b5 r6 g6 b6 r8 g8 b8 r14 g14 b14 r15 g15 b15 r16 g16 b16 a7 h7 a8 h8 a10 h10 a11 h11 a12 h12 a13 h13 a19 h19 a20 h20 a21 h21 a23 h23 a24 h24 a25 h25 a28 h28 a29 h29 a30 h30 a36 h36 a37 h37 f0 f1 f2 f3 f4 f5 tt
  clear f0 f1 f2 f3 f4 f5
  have e214 : PT 214 = P_oyX := pe214_18 hp
  simp only [hFp_214, e214, P_oyX, den_s, den_c, Int.add_zero, List.map_cons, List.map_nil, g2, g3, g5, g6, g8, g14, g15, g16, h7, h8, h10, h11, h12, h13, h19, h20, h21, h23, h24, h25, h28, h29, h30, h36, h37] at ⊢
  clear g2 g3 g5 g6 g8 g14 g15 g16 h7 h8 h10 h11 h12 h13 h19 h20 h21 h23 h24 h25 h28 h29 h30 h36 h37 e214 tt
  ((repeat' (first | apply And.intro | intro h)) <;> first | omega | rfl | trivial | (exfalso; omega)))
def w_xo_year_0_4 : VC := ((bT ++ [((-2147483648), 2147483647), (0, 8), (0, 1), (0, 9), (0, 49)]), [(89, [], [8, 63, 64, 65]), (86, [(some 2, 0), (some 3, 0), (some 17, 0), (some 5, 0), (some 6, 0), (some 18, 0)], [61, 62, 10, 12, 13, 58, 59, 19, 20, 23, 24]), (213, [(some 17, 0), (some 14, 0), (some 15, 0), (some 3, 0)], [58, 59]), (1, [(none, 1), (none, 0)], []), (3, [(none, 1), (some 16, 0)], []), (3, [(some 16, 0), (none, 0)], []), (1, [(none, 1), (none, 0)], []), (3, [(none, 8), (some 15, 0)], []), (3, [(some 15, 0), (none, 0)], [])], (87, [(some 18, 0)], [61, 62]))
theorem pe86_18 {PT : PTy} (hp : HP18 PT) : PT 86 = P_arr := hp.1.1.1.1.1.1.1.1.1.1.1.1.1.1.1.2.2.2.2.2.2.2.1
theorem pe87_18 {PT : PTy} (hp : HP18 PT) : PT 87 = P_pr := hp.1.1.1.1.1.1.1.1.1.1.1.1.1.1.1.2.2.2.2.2.2.2.2.1
theorem pe89_18 {PT : PTy} (hp : HP18 PT) : PT 89 = P_bg := hp.1.1.1.1.1.1.1.1.1.1.1.1.1.1.1.2.2.2.2.2.2.2.2.2.2.1
set_option maxRecDepth 20000 in
theorem v_xo_year_0_4 {PT : PTy} (hp : HP18 PT) : vcOk PT w_xo_year_0_4 := vc_in [(2, 0, 8), (3, 0, 10), (5, 0, 6), (6, 0, 6), (14, (-2147483648), 2147483647), (15, 0, 8), (17, 0, 9), (18, 0, 49)] (by decide +kernel) (fun ρ α => by
  intro b2 b3 b5 b6 b14 b15 b17 b18 f0 f1 f2 f3 f4 f5 f6 f7 f8 tt
  clear f3 f4 f5 f6 f7 f8
  have e86 : PT 86 = P_arr := pe86_18 hp
  have e87 : PT 87 = P_pr := pe87_18 hp
  have e89 : PT 89 = P_bg := pe89_18 hp
  have e213 : PT 213 = P_drP := pe213_18 hp
  simp only [hFp_86, hFp_87, hFp_89, hFp_213, e86, e87, e89, e213, P_arr, P_pr, P_bg, P_drP, den_s, den_c, Int.add_zero, List.map_cons, List.map_nil] at f0 f1 f2 ⊢
  clear e86 e87 e89 e213 tt
  exact (f1).1)
def w_xo_year_0_5 : VC := ((bT ++ [((-2147483648), 2147483647), (0, 8), (1, 1), (0, 9), (0, 49), (0, 49), ((-2147483648), 2147483647), ((-2147483648), 2147483647)]), [(160, [(some 21, 0), (some 20, 0)], []), (92, [(some 20, 0), (some 2, 0)], [66, 8]), (1, [(some 16, 0), (none, 0)], []), (91, [(none, 0), (some 19, 0), (some 18, 0), (none, 23), (none, 0), (none, 0)], [61, 62, 7, 8, 10, 11, 59, 20, 21, 24, 25, 63, 64, 65, 66, 67, 68]), (89, [], [8, 63, 64, 65]), (86, [(some 2, 0), (some 3, 0), (some 17, 0), (some 5, 0), (some 6, 0), (some 18, 0)], [61, 62, 10, 12, 13, 58, 59, 19, 20, 23, 24]), (213, [(some 17, 0), (some 14, 0), (some 15, 0), (some 3, 0)], [58, 59]), (1, [(none, 1), (none, 0)], []), (3, [(none, 1), (some 16, 0)], []), (3, [(some 16, 0), (none, 0)], []), (1, [(none, 1), (none, 0)], []), (3, [(none, 8), (some 15, 0)], []), (3, [(some 15, 0), (none, 0)], [])], (214, [(some 21, 0), (some 14, 0), (some 15, 0), (some 16, 0), (some 17, 0), (some 2, 0), (some 3, 0), (some 5, 0), (some 6, 0)], [7, 8, 10, 11, 12, 13, 58, 59, 19, 20, 21, 23, 24, 25, 66, 67, 68]))
theorem pe91_18 {PT : PTy} (hp : HP18 PT) : PT 91 = P_adE := hp.1.1.1.1.1.1.1.1.1.1.1.1.1.1.1.2.2.2.2.2.2.2.2.2.2.2.2.1
theorem pe92_18 {PT : PTy} (hp : HP18 PT) : PT 92 = P_bits := hp.1.1.1.1.1.1.1.1.1.1.1.1.1.1.2.1
set_option maxRecDepth 20000 in
theorem v_xo_year_0_5 {PT : PTy} (hp : HP18 PT) : vcOk PT w_xo_year_0_5 := vc_iv [(2, 0, 8), (3, 0, 10), (5, 0, 6), (6, 0, 6), (14, (-2147483648), 2147483647), (15, 0, 8), (16, 1, 1), (17, 0, 9), (18, 0, 49), (19, 0, 49), (20, (-2147483648), 2147483647), (21, (-2147483648), 2147483647)] [7, 8, 10, 11, 12, 13, 19, 20, 21, 23, 24, 25, 58, 59, 61, 62, 63, 64, 65, 66, 67, 68] (by decide +kernel) (fun ρ α => by
  intro r2 g2 b2 r3 g3 b3 r5 g5 b5 r6 g6 b6 r14 g14 b14 r15 g15 b15 r16 g16 b16 r17 g17 b17 r18 g18 b18 r19 g19 b19 r20 g20 b20 r21 g21 b21 a7 h7 a8 h8 a10 h10 a11 h11 a12 h12 a13 h13 a19 h19 a20 h20 a21 h21 a23 h23 a24 h24 a25 h25 a58 h58 a59 h59 a61 h61 a62 h62 a63 h63 a64 h64 a65 h65 a66 h66 a67 h67 a68 h68 f0 f1 f2 f3 f4 f5 f6 f7 f8 f9 f10 f11 f12 tt
  clear f2 f7 f8 f9 f10 f11 f12
  have e86 : PT 86 = P_arr := pe86_18 hp
  have e89 : PT 89 = P_bg := pe89_18 hp
  have e91 : PT 91 = P_adE := pe91_18 hp
  have e92 : PT 92 = P_bits := pe92_18 hp
  have e160 : PT 160 = P_bc := pe160_18 hp
  have e213 : PT 213 = P_drP := pe213_18 hp
  have e214 : PT 214 = P_oyX := pe214_18 hp
  simp only [hFp_86, hFp_89, hFp_91, hFp_92, hFp_160, hFp_213, hFp_214, e86, e89, e91, e92, e160, e213, e214, P_arr, P_bg, P_adE, P_bits, P_bc, P_drP, P_oyX, den_s, den_c, Int.add_zero, List.map_cons, List.map_nil, g2, g3, g5, g6, g14, g15, g16, g17, g18, g19, g20, g21, h7, h8, h10, h11, h12, h13, h19, h20, h21, h23, h24, h25, h58, h59, h61, h62, h63, h64, h65, h66, h67, h68] at f0 f1 f3 f4 f5 f6 ⊢
  clear g2 g3 g5 g6 g14 g15 g16 g17 g18 g19 g20 g21 h7 h8 h10 h11 h12 h13 h19 h20 h21 h23 h24 h25 h58 h59 h61 h62 h63 h64 h65 h66 h67 h68 e86 e89 e91 e92 e160 e213 e214 tt
  have hd := f6
  have hy := yX_by (f5).2 f4 f3
  exact ⟨fun h => by exfalso; omega, fun h => ⟨hd.1, hd.2, hy, fun q => by exfalso; omega, fun q => by rw [f0, f1]; rfl⟩⟩)
def w_xo_year_0_6 : VC := ((bT ++ [((-2147483648), 2147483647), (0, 8), (0, 0), (0, 9), (0, 49), (0, 49), ((-2147483648), 2147483647)]), [(94, [(some 20, 0), (some 2, 0)], [67]), (0, [(some 16, 0), (none, 0)], []), (91, [(none, 0), (some 19, 0), (some 18, 0), (none, 23), (none, 0), (none, 0)], [61, 62, 7, 8, 10, 11, 59, 20, 21, 24, 25, 63, 64, 65, 66, 67, 68]), (89, [], [8, 63, 64, 65]), (86, [(some 2, 0), (some 3, 0), (some 17, 0), (some 5, 0), (some 6, 0), (some 18, 0)], [61, 62, 10, 12, 13, 58, 59, 19, 20, 23, 24]), (213, [(some 17, 0), (some 14, 0), (some 15, 0), (some 3, 0)], [58, 59]), (1, [(none, 1), (none, 0)], []), (3, [(none, 1), (some 16, 0)], []), (3, [(some 16, 0), (none, 0)], []), (1, [(none, 1), (none, 0)], []), (3, [(none, 8), (some 15, 0)], []), (3, [(some 15, 0), (none, 0)], [])], (214, [(some 20, 0), (some 14, 0), (some 15, 0), (some 16, 0), (some 17, 0), (some 2, 0), (some 3, 0), (some 5, 0), (some 6, 0)], [7, 8, 10, 11, 12, 13, 58, 59, 19, 20, 21, 23, 24, 25, 66, 67, 68]))
theorem pe94_18 {PT : PTy} (hp : HP18 PT) : PT 94 = P_rps := hp.1.1.1.1.1.1.1.1.1.1.1.1.1.1.2.2.2.1
set_option maxRecDepth 20000 in
theorem v_xo_year_0_6 {PT : PTy} (hp : HP18 PT) : vcOk PT w_xo_year_0_6 := vc_iv [(2, 0, 8), (3, 0, 10), (5, 0, 6), (6, 0, 6), (14, (-2147483648), 2147483647), (15, 0, 8), (16, 0, 0), (17, 0, 9), (18, 0, 49), (19, 0, 49), (20, (-2147483648), 2147483647)] [7, 8, 10, 11, 12, 13, 19, 20, 21, 23, 24, 25, 58, 59, 61, 62, 63, 64, 65, 66, 67, 68] (by decide +kernel) (fun ρ α => by
  intro r2 g2 b2 r3 g3 b3 r5 g5 b5 r6 g6 b6 r14 g14 b14 r15 g15 b15 r16 g16 b16 r17 g17 b17 r18 g18 b18 r19 g19 b19 r20 g20 b20 a7 h7 a8 h8 a10 h10 a11 h11 a12 h12 a13 h13 a19 h19 a20 h20 a21 h21 a23 h23 a24 h24 a25 h25 a58 h58 a59 h59 a61 h61 a62 h62 a63 h63 a64 h64 a65 h65 a66 h66 a67 h67 a68 h68 f0 f1 f2 f3 f4 f5 f6 f7 f8 f9 f10 f11 tt
  clear f6 f7 f8 f9 f10 f11
  have e86 : PT 86 = P_arr := pe86_18 hp
  have e89 : PT 89 = P_bg := pe89_18 hp
  have e91 : PT 91 = P_adE := pe91_18 hp
  have e94 : PT 94 = P_rps := pe94_18 hp
  have e213 : PT 213 = P_drP := pe213_18 hp
  have e214 : PT 214 = P_oyX := pe214_18 hp
  simp only [hF0, hFp_86, hFp_89, hFp_91, hFp_94, hFp_213, hFp_214, e86, e89, e91, e94, e213, e214, P_arr, P_bg, P_adE, P_rps, P_drP, P_oyX, den_s, den_c, Int.add_zero, List.map_cons, List.map_nil, g2, g3, g5, g6, g14, g15, g16, g17, g18, g19, g20, h7, h8, h10, h11, h12, h13, h19, h20, h21, h23, h24, h25, h58, h59, h61, h62, h63, h64, h65, h66, h67, h68] at f0 f1 f2 f3 f4 f5 ⊢
  clear g2 g3 g5 g6 g14 g15 g16 g17 g18 g19 g20 h7 h8 h10 h11 h12 h13 h19 h20 h21 h23 h24 h25 h58 h59 h61 h62 h63 h64 h65 h66 h67 h68 e86 e89 e91 e94 e213 e214 tt
  have hd := f5
  have hy := yX_by (f4).2 f3 f2
  exact ⟨fun h => by exfalso; omega, fun h => ⟨hd.1, hd.2, hy, fun q => (f0), fun q => by exfalso; omega⟩⟩)
set_option maxRecDepth 1000000 in
theorem k_xo_year {PT : PTy} (hp : HP18 PT) : wfX c_xo_year = true ∧ xcOk PT c_xo_year := xctr (xl (k_arrange35 hp.1.1.1.1.1.1.1.1.1.1.1.1.1.1.1) (xl (k_begin35 hp.1.1.1.1.1.1.1.1.1.1.1.1.1.1) (xl (k_advance35 hp.1.1.1.1.1.1.1.1.1.1.1.1.1.1) (xl (k_fittingBits35 hp.1.1.1.1.1.1.1.1.1.1.1.1.1.1) (xl (k_allRips35 hp.1.1.1.1.1.1.1.1.1.1.1.1.1.1) (xl (k_drawK hp) (xl (k_bitCount35 hp) (xl0)))))))) c_xo_year 67 mX6_year rfl h_xo_year (by decide +kernel) (by decide +kernel) (by decide) (vcs_by [w_xo_year_0_0, w_xo_year_0_1, w_xo_year_0_2, w_xo_year_0_3, w_xo_year_0_4, w_xo_year_0_5, w_xo_year_0_6] (by decide +kernel) (vc (v_xo_year_0_0 hp) (vc (v_xo_year_0_1 hp) (vc (v_xo_year_0_2 hp) (vc (v_xo_year_0_3 hp) (vc (v_xo_year_0_4 hp) (vc (v_xo_year_0_5 hp) (vc (v_xo_year_0_6 hp) vn)))))))) fmn
def c_yearOf : XC := (182, 6, (bY ++ [((-2147483648), 2147483647), (0, 8), (0, 1)]), [.inr (.inl 0), .inl (some 13, 0), .inl (some 14, 0), .inl (some 15, 0)], gY2, [(78, [], [1])], [((bY ++ [((-2147483648), 2147483647), (0, 8), (0, 1), (0, 10), (0, 8), (0, 10), (0, 11), (0, 8), ((-2147483648), 2147483647), ((-2147483648), 2147483647)]), some (.inl (some 16, 0)), (hst gY2 [(0, .inr (.inr (.inr (7, [.inr (.inl 1), .inr (.inl 2), .inl (some 17, 0), .inr (.inl 3), .inr (.inl 4), .inl (some 18, 0), .inr (.inl 5), .inr (.inl 6), .inr (.inl 7), .inr (.inl 8), .inl (some 4, 0), .inr (.inl 9), .inr (.inl 10), .inl (some 5, 0), .inr (.inl 11), .inr (.inl 12), .inr (.inl 13), .inl (some 6, 0), .inr (.inl 14), .inr (.inl 15), .inr (.inl 16), .inl (some 19, 0), .inl (some 20, 0), .inr (.inl 17), .inr (.inl 18), .inl (some 21, 0), .inl (some 22, 0), .inr (.inl 19), .inr (.inl 20), .inr (.inl 21), .inr (.inl 22), .inr (.inl 23), .inr (.inl 24), .inr (.inl 25), .inl (some 7, 0), .inr (.inl 26), .inr (.inl 27), .inr (.inl 28), .inr (.inl 29), .inr (.inl 30), .inr (.inl 31), .inr (.inl 32), .inr (.inl 33), .inr (.inl 34), .inl (some 12, 0)]))))]), [0, 1, 2, 35, 36, 37, 38, 39, 40, 9, 10, 11, 12, 13, 14, 15, 16, 41, 42, 43, 44, 45, 46, 47, 48, 25, 26, 27, 28, 29, 30, 31, 32, 33, 34], 49, [(217, [(some 16, 0), (some 15, 0), (some 20, 0), (some 13, 0), (some 14, 0), (some 17, 0), (some 18, 0), (some 5, 0), (some 6, 0)], [1, 2, 35, 36, 37, 38, 39, 40, 41, 42, 11, 12, 13, 14, 15, 16, 46, 43, 44, 45])])])
def h_yearOf : List XH := [(107, (bY ++ [((-2147483648), 2147483647), (0, 8), (0, 1), ((-2147483648), 2147483647), (0, 10), (0, 10), (0, 8), (0, 10), (0, 11), (0, 8), ((-2147483648), 2147483647), ((-2147483648), 2147483647)]), [some (.inr (.inl 0)), some (.inl (some 13, 0)), some (.inl (some 14, 0)), some (.inl (some 15, 0)), some (.inl (some 16, 0)), some (.inl (some 17, 0)), some (.inl (some 18, 0))], (hst gY2 [(0, .inr (.inr (.inr (7, [.inr (.inl 1), .inr (.inl 2), .inl (some 19, 0), .inr (.inl 3), .inr (.inl 4), .inl (some 20, 0), .inr (.inl 5), .inr (.inl 6), .inr (.inl 7), .inr (.inl 8), .inl (some 4, 0), .inr (.inl 9), .inr (.inl 10), .inl (some 5, 0), .inr (.inl 11), .inr (.inl 12), .inr (.inl 13), .inl (some 6, 0), .inr (.inl 14), .inr (.inl 15), .inr (.inl 16), .inl (some 21, 0), .inl (some 22, 0), .inr (.inl 17), .inr (.inl 18), .inl (some 23, 0), .inl (some 24, 0), .inr (.inl 19), .inr (.inl 20), .inr (.inl 21), .inr (.inl 22), .inr (.inl 23), .inr (.inl 24), .inr (.inl 25), .inl (some 7, 0), .inr (.inl 26), .inr (.inl 27), .inr (.inl 28), .inr (.inl 29), .inr (.inl 30), .inr (.inl 31), .inr (.inl 32), .inr (.inl 33), .inr (.inl 34), .inl (some 12, 0)]))))]), [0, 1, 2, 35, 36, 37, 38, 39, 40, 9, 10, 11, 12, 13, 14, 15, 16, 41, 42, 43, 44, 45, 46, 47, 48, 25, 26, 27, 28, 29, 30, 31, 32, 33, 34], 49, [(216, [(some 18, 0), (some 17, 0), (some 22, 0), (some 13, 0), (some 14, 0), (some 19, 0), (some 20, 0), (some 5, 0), (some 6, 0)], [1, 2, 35, 36, 37, 38, 39, 40, 41, 42, 11, 12, 13, 14, 15, 16, 46, 43, 44, 45]), (3, [(some 20, 0), (some 18, 0)], [])], [(true, (none, 2)), (true, (some 18, 0))]),
  (26, (bY ++ [((-2147483648), 2147483647), (0, 8), (0, 1), ((-2147483648), 2147483647), (0, 8), (0, 8), (1, 10), (0, 11), ((-2147483648), 2147483647), ((-2147483648), 2147483647)]), [some (.inr (.inl 0)), some (.inl (some 13, 0)), some (.inl (some 14, 0)), some (.inl (some 15, 0)), some (.inl (some 16, 0)), some (.inl (some 17, 0)), none], (hst gY2 [(0, .inr (.inr (.inr (7, [.inr (.inl 1), .inr (.inl 2), .inl (some 18, 0), .inr (.inl 3), .inr (.inl 4), .inl (some 19, 0), .inr (.inl 5), .inr (.inl 6), .inr (.inl 7), .inr (.inl 8), .inl (some 4, 0), .inr (.inl 9), .inr (.inl 10), .inl (some 5, 0), .inr (.inl 11), .inr (.inl 12), .inr (.inl 13), .inl (some 6, 0), .inr (.inl 14), .inr (.inl 15), .inr (.inl 16), .inl (some 20, 0), .inl (some 14, 0), .inr (.inl 17), .inr (.inl 18), .inl (some 21, 0), .inl (some 22, 0), .inr (.inl 19), .inr (.inl 20), .inr (.inl 21), .inr (.inl 22), .inr (.inl 23), .inr (.inl 24), .inr (.inl 25), .inl (some 7, 0), .inr (.inl 26), .inr (.inl 27), .inr (.inl 28), .inr (.inl 29), .inr (.inl 30), .inr (.inl 31), .inr (.inl 32), .inr (.inl 33), .inr (.inl 34), .inl (some 12, 0)]))))]), (ansT 35 [(3, 35), (4, 36), (5, 37), (6, 38), (7, 39), (8, 40), (17, 41), (18, 42)]), 43, [(106, [(some 18, 0), (some 19, 0)], [1, 2, 35, 36, 37, 38, 39, 40]), (212, [(some 17, 0), (some 16, 0), (some 13, 0), (some 19, 0)], [41, 42]), (0, [(some 20, 0), (some 19, 0)], []), (0, [(some 21, 0), (none, 0)], []), (0, [(some 22, 0), (none, 0)], []), (3, [(some 14, 0), (some 17, 0)], []), (215, [(some 14, 0), (some 19, 0), (some 14, 0)], [])], [(true, (none, 1)), (true, (some 17, 0))]),
  (26, (bY ++ [((-2147483648), 2147483647), (0, 8), (0, 1), (0, 8), (0, 11), ((-2147483648), 2147483647), ((-2147483648), 2147483647)]), [some (.inr (.inl 0)), some (.inl (some 13, 0)), some (.inl (some 14, 0)), some (.inl (some 15, 0)), some (.inl (some 13, 0)), some (.inl (none, 0)), none], (hst gY2 [(0, .inr (.inr (.inr (7, [.inr (.inl 1), .inr (.inl 2), .inl (some 16, 0), .inr (.inl 3), .inr (.inl 4), .inl (none, 0), .inr (.inl 5), .inr (.inl 6), .inr (.inl 7), .inr (.inl 8), .inl (some 4, 0), .inr (.inl 9), .inr (.inl 10), .inl (some 5, 0), .inr (.inl 11), .inr (.inl 12), .inr (.inl 13), .inl (some 6, 0), .inr (.inl 14), .inr (.inl 15), .inr (.inl 16), .inl (some 17, 0), .inl (none, 0), .inr (.inl 17), .inr (.inl 18), .inl (some 18, 0), .inl (some 19, 0), .inr (.inl 19), .inr (.inl 20), .inr (.inl 21), .inr (.inl 22), .inr (.inl 23), .inr (.inl 24), .inr (.inl 25), .inl (some 7, 0), .inr (.inl 26), .inr (.inl 27), .inr (.inl 28), .inr (.inl 29), .inr (.inl 30), .inr (.inl 31), .inr (.inl 32), .inr (.inl 33), .inr (.inl 34), .inl (some 12, 0)]))))]), (ansT 35 [(3, 35), (4, 36), (5, 37), (6, 38), (7, 39), (8, 40), (17, 41), (18, 42)]), 43, [(106, [(some 16, 0), (none, 0)], [1, 2, 35, 36, 37, 38, 39, 40]), (212, [(none, 0), (some 13, 0), (some 13, 0), (none, 0)], [41, 42]), (0, [(some 17, 0), (none, 0)], []), (0, [(some 18, 0), (none, 0)], []), (0, [(some 19, 0), (none, 0)], []), (3, [(none, 0), (none, 0)], []), (215, [(none, 0), (none, 0), (some 14, 0)], [])], [(true, (none, 1)), (true, (none, 0))])]
def w_yearOf_0_0 : VC := ((bY ++ [((-2147483648), 2147483647), (0, 8), (0, 1), (0, 8), (1, 10), (0, 11), ((-2147483648), 2147483647), ((-2147483648), 2147483647)]), [(1, [(some 17, 0), (none, 0)], []), (106, [(some 16, 0), (some 17, 0)], [1, 2, 35, 36, 37, 38, 39, 40]), (105, [(some 4, 0)], [9, 10, 41, 42]), (0, [(some 18, 0), (some 17, 0)], []), (0, [(some 4, 0), (some 4, 0)], []), (0, [(some 19, 0), (none, 0)], []), (0, [(some 20, 0), (none, 0)], []), (78, [], [1])], (212, [(none, 0), (some 13, 0), (some 13, 0), (some 17, 0)], [41, 42]))
theorem pe78_18 {PT : PTy} (hp : HP18 PT) : PT 78 = P_ly := hp.1.1.1.1.1.1.1.1.1.1.1.1.1.1.1.1.2.2.2.2.2.2.2.1
theorem pe105_18 {PT : PTy} (hp : HP18 PT) : PT 105 = P_cp2 := hp.1.1.1.1.1.1.1.1.1.1.1.1.1.2.2.2.2.2.2.2.2.2.2.2.1
theorem pe106_18 {PT : PTy} (hp : HP18 PT) : PT 106 = P_rd := hp.1.1.1.1.1.1.1.1.1.1.1.1.1.2.2.2.2.2.2.2.2.2.2.2.2.1
set_option maxRecDepth 20000 in
theorem v_yearOf_0_0 {PT : PTy} (hp : HP18 PT) : vcOk PT w_yearOf_0_0 := vc_iv [(4, 0, 8), (13, (-2147483648), 2147483647), (16, 0, 8), (17, 1, 10), (18, 0, 11), (19, (-2147483648), 2147483647), (20, (-2147483648), 2147483647)] [1, 2, 9, 10, 35, 36, 37, 38, 39, 40, 41, 42] (by decide +kernel) (fun ρ α => by
  intro r4 g4 b4 r13 g13 b13 r16 g16 b16 r17 g17 b17 r18 g18 b18 r19 g19 b19 r20 g20 b20 a1 h1 a2 h2 a9 h9 a10 h10 a35 h35 a36 h36 a37 h37 a38 h38 a39 h39 a40 h40 a41 h41 a42 h42 f0 f1 f2 f3 f4 f5 f6 f7 tt
  clear f0
  have e78 : PT 78 = P_ly := pe78_18 hp
  have e105 : PT 105 = P_cp2 := pe105_18 hp
  have e106 : PT 106 = P_rd := pe106_18 hp
  have e212 : PT 212 = P_drI := pe212_18 hp
  simp only [hF0, hFp_78, hFp_105, hFp_106, hFp_212, e78, e105, e106, e212, P_ly, P_cp2, P_rd, P_drI, den_s, den_c, Int.add_zero, List.map_cons, List.map_nil, g4, g13, g16, g17, g18, g19, g20, h1, h2, h9, h10, h35, h36, h37, h38, h39, h40, h41, h42] at f1 f2 f3 f4 f5 f6 f7 ⊢
  clear g4 g13 g16 g17 g18 g19 g20 h1 h2 h9 h10 h35 h36 h37 h38 h39 h40 h41 h42 e78 e105 e106 e212 tt
  exact ⟨rfl, drS_z⟩)
def w_yearOf_0_1 : VC := ((bY ++ [((-2147483648), 2147483647), (0, 8), (0, 1), (0, 8), (1, 10), (0, 11), ((-2147483648), 2147483647), ((-2147483648), 2147483647)]), [(1, [(some 17, 0), (none, 0)], []), (106, [(some 16, 0), (some 17, 0)], [1, 2, 35, 36, 37, 38, 39, 40]), (105, [(some 4, 0)], [9, 10, 41, 42]), (0, [(some 18, 0), (some 17, 0)], []), (0, [(some 4, 0), (some 4, 0)], []), (0, [(some 19, 0), (none, 0)], []), (0, [(some 20, 0), (none, 0)], []), (78, [], [1])], (3, [(some 14, 0), (none, 0)], []))
set_option maxRecDepth 20000 in
theorem v_yearOf_0_1 {PT : PTy} (hp : HP18 PT) : vcOk PT w_yearOf_0_1 := vc_iv [(4, 0, 8), (14, 0, 8), (16, 0, 8), (17, 1, 10), (18, 0, 11), (19, (-2147483648), 2147483647), (20, (-2147483648), 2147483647)] [1, 2, 9, 10, 35, 36, 37, 38, 39, 40, 41, 42] (by decide +kernel) (fun ρ α => by
  intro r4 g4 b4 r14 g14 b14 r16 g16 b16 r17 g17 b17 r18 g18 b18 r19 g19 b19 r20 g20 b20 a1 h1 a2 h2 a9 h9 a10 h10 a35 h35 a36 h36 a37 h37 a38 h38 a39 h39 a40 h40 a41 h41 a42 h42 f0 f1 f2 f3 f4 f5 f6 f7 tt
  clear f0
  have e78 : PT 78 = P_ly := pe78_18 hp
  have e105 : PT 105 = P_cp2 := pe105_18 hp
  have e106 : PT 106 = P_rd := pe106_18 hp
  simp only [hF0, hF3, hFp_78, hFp_105, hFp_106, e78, e105, e106, P_ly, P_cp2, P_rd, den_s, den_c, Int.add_zero, List.map_cons, List.map_nil, g4, g14, g16, g17, g18, g19, g20, h1, h2, h9, h10, h35, h36, h37, h38, h39, h40, h41, h42] at f1 f2 f3 f4 f5 f6 f7 ⊢
  clear g4 g14 g16 g17 g18 g19 g20 h1 h2 h9 h10 h35 h36 h37 h38 h39 h40 h41 h42 e78 e105 e106 tt
  first
    | omega
    | (obtain ⟨j1, j2, j3, j4, j5, j6⟩ := MISSING; omega))
def w_yearOf_0_2 : VC := ((bY ++ [((-2147483648), 2147483647), (0, 8), (0, 1), (0, 8), (1, 10), (0, 11), ((-2147483648), 2147483647), ((-2147483648), 2147483647)]), [(1, [(some 17, 0), (none, 0)], []), (106, [(some 16, 0), (some 17, 0)], [1, 2, 35, 36, 37, 38, 39, 40]), (105, [(some 4, 0)], [9, 10, 41, 42]), (0, [(some 18, 0), (some 17, 0)], []), (0, [(some 4, 0), (some 4, 0)], []), (0, [(some 19, 0), (none, 0)], []), (0, [(some 20, 0), (none, 0)], []), (78, [], [1])], (215, [(some 14, 0), (some 17, 0), (some 14, 0)], []))
theorem pe215_18 {PT : PTy} (hp : HP18 PT) : PT 215 = P_nkY2 := hp.2.2.2.2.1
set_option maxRecDepth 20000 in
theorem v_yearOf_0_2 {PT : PTy} (hp : HP18 PT) : vcOk PT w_yearOf_0_2 := vc_iv [(4, 0, 8), (14, 0, 8), (16, 0, 8), (17, 1, 10), (18, 0, 11), (19, (-2147483648), 2147483647), (20, (-2147483648), 2147483647)] [1, 2, 9, 10, 35, 36, 37, 38, 39, 40, 41, 42] (by decide +kernel) (fun ρ α => by
  intro r4 g4 b4 r14 g14 b14 r16 g16 b16 r17 g17 b17 r18 g18 b18 r19 g19 b19 r20 g20 b20 a1 h1 a2 h2 a9 h9 a10 h10 a35 h35 a36 h36 a37 h37 a38 h38 a39 h39 a40 h40 a41 h41 a42 h42 f0 f1 f2 f3 f4 f5 f6 f7 tt
  clear f0
  have e78 : PT 78 = P_ly := pe78_18 hp
  have e105 : PT 105 = P_cp2 := pe105_18 hp
  have e106 : PT 106 = P_rd := pe106_18 hp
  have e215 : PT 215 = P_nkY2 := pe215_18 hp
  simp only [hF0, hFp_78, hFp_105, hFp_106, hFp_215, e78, e105, e106, e215, P_ly, P_cp2, P_rd, P_nkY2, den_s, den_c, Int.add_zero, List.map_cons, List.map_nil, g4, g14, g16, g17, g18, g19, g20, h1, h2, h9, h10, h35, h36, h37, h38, h39, h40, h41, h42] at f1 f2 f3 f4 f5 f6 f7 ⊢
  clear g4 g14 g16 g17 g18 g19 g20 h1 h2 h9 h10 h35 h36 h37 h38 h39 h40 h41 h42 e78 e105 e106 e215 tt
  first | exact MISSING | exact ⟨fun _ => by omega, fun _ => by omega⟩)
def w_yearOf_0_3 : VC := ((bY ++ [((-2147483648), 2147483647), (0, 8), (0, 1), (0, 8), (0, 0), (0, 11), ((-2147483648), 2147483647), ((-2147483648), 2147483647)]), [(0, [(some 17, 0), (none, 0)], []), (106, [(some 16, 0), (some 17, 0)], [1, 2, 35, 36, 37, 38, 39, 40]), (105, [(some 4, 0)], [9, 10, 41, 42]), (0, [(some 18, 0), (some 17, 0)], []), (0, [(some 4, 0), (some 4, 0)], []), (0, [(some 19, 0), (none, 0)], []), (0, [(some 20, 0), (none, 0)], []), (78, [], [1])], (106, [(some 16, 0), (none, 0)], [1, 2, 35, 36, 37, 38, 39, 40]))
set_option maxRecDepth 20000 in
theorem v_yearOf_0_3 {PT : PTy} (hp : HP18 PT) : vcOk PT w_yearOf_0_3 := vc_iv [(4, 0, 8), (16, 0, 8), (17, 0, 0), (18, 0, 11), (19, (-2147483648), 2147483647), (20, (-2147483648), 2147483647)] [1, 2, 9, 10, 35, 36, 37, 38, 39, 40, 41, 42] (by decide +kernel) (fun ρ α => by
  intro r4 g4 b4 r16 g16 b16 r17 g17 b17 r18 g18 b18 r19 g19 b19 r20 g20 b20 a1 h1 a2 h2 a9 h9 a10 h10 a35 h35 a36 h36 a37 h37 a38 h38 a39 h39 a40 h40 a41 h41 a42 h42 f0 f1 f2 f3 f4 f5 f6 f7 tt
  have e78 : PT 78 = P_ly := pe78_18 hp
  have e105 : PT 105 = P_cp2 := pe105_18 hp
  have e106 : PT 106 = P_rd := pe106_18 hp
  simp only [hF0, hFp_78, hFp_105, hFp_106, e78, e105, e106, P_ly, P_cp2, P_rd, den_s, den_c, Int.add_zero, List.map_cons, List.map_nil, g4, g16, g17, g18, g19, g20, h1, h2, h9, h10, h35, h36, h37, h38, h39, h40, h41, h42] at f0 f1 f2 f3 f4 f5 f6 f7 ⊢
  clear g4 g16 g17 g18 g19 g20 h1 h2 h9 h10 h35 h36 h37 h38 h39 h40 h41 h42 e78 e105 e106 tt
  have h := f1
  rw [show r17 = 0 by omega] at h
  exact h)
def w_yearOf_0_4 : VC := ((bY ++ [((-2147483648), 2147483647), (0, 8), (0, 1), (0, 8), (0, 0), (0, 11), ((-2147483648), 2147483647), ((-2147483648), 2147483647)]), [(0, [(some 17, 0), (none, 0)], []), (106, [(some 16, 0), (some 17, 0)], [1, 2, 35, 36, 37, 38, 39, 40]), (105, [(some 4, 0)], [9, 10, 41, 42]), (0, [(some 18, 0), (some 17, 0)], []), (0, [(some 4, 0), (some 4, 0)], []), (0, [(some 19, 0), (none, 0)], []), (0, [(some 20, 0), (none, 0)], []), (78, [], [1])], (212, [(none, 0), (some 13, 0), (some 13, 0), (none, 0)], [41, 42]))
set_option maxRecDepth 20000 in
theorem v_yearOf_0_4 {PT : PTy} (hp : HP18 PT) : vcOk PT w_yearOf_0_4 := vc_iv [(4, 0, 8), (13, (-2147483648), 2147483647), (16, 0, 8), (17, 0, 0), (18, 0, 11), (19, (-2147483648), 2147483647), (20, (-2147483648), 2147483647)] [1, 2, 9, 10, 35, 36, 37, 38, 39, 40, 41, 42] (by decide +kernel) (fun ρ α => by
  intro r4 g4 b4 r13 g13 b13 r16 g16 b16 r17 g17 b17 r18 g18 b18 r19 g19 b19 r20 g20 b20 a1 h1 a2 h2 a9 h9 a10 h10 a35 h35 a36 h36 a37 h37 a38 h38 a39 h39 a40 h40 a41 h41 a42 h42 f0 f1 f2 f3 f4 f5 f6 f7 tt
  have e78 : PT 78 = P_ly := pe78_18 hp
  have e105 : PT 105 = P_cp2 := pe105_18 hp
  have e106 : PT 106 = P_rd := pe106_18 hp
  have e212 : PT 212 = P_drI := pe212_18 hp
  simp only [hF0, hFp_78, hFp_105, hFp_106, hFp_212, e78, e105, e106, e212, P_ly, P_cp2, P_rd, P_drI, den_s, den_c, Int.add_zero, List.map_cons, List.map_nil, g4, g13, g16, g17, g18, g19, g20, h1, h2, h9, h10, h35, h36, h37, h38, h39, h40, h41, h42] at f0 f1 f2 f3 f4 f5 f6 f7 ⊢
  clear g4 g13 g16 g17 g18 g19 g20 h1 h2 h9 h10 h35 h36 h37 h38 h39 h40 h41 h42 e78 e105 e106 e212 tt
  exact ⟨rfl, drS_z⟩)
def w_yearOf_0_5 : VC := ((bY ++ [((-2147483648), 2147483647), (0, 8), (0, 1), (0, 8), (0, 0), (0, 11), ((-2147483648), 2147483647), ((-2147483648), 2147483647)]), [(0, [(some 17, 0), (none, 0)], []), (106, [(some 16, 0), (some 17, 0)], [1, 2, 35, 36, 37, 38, 39, 40]), (105, [(some 4, 0)], [9, 10, 41, 42]), (0, [(some 18, 0), (some 17, 0)], []), (0, [(some 4, 0), (some 4, 0)], []), (0, [(some 19, 0), (none, 0)], []), (0, [(some 20, 0), (none, 0)], []), (78, [], [1])], (0, [(some 18, 0), (none, 0)], []))
set_option maxRecDepth 20000 in
theorem v_yearOf_0_5 {PT : PTy} (hp : HP18 PT) : vcOk PT w_yearOf_0_5 := vc_iv [(4, 0, 8), (16, 0, 8), (17, 0, 0), (18, 0, 11), (19, (-2147483648), 2147483647), (20, (-2147483648), 2147483647)] [1, 2, 9, 10, 35, 36, 37, 38, 39, 40, 41, 42] (by decide +kernel) (fun ρ α => by
  intro r4 g4 b4 r16 g16 b16 r17 g17 b17 r18 g18 b18 r19 g19 b19 r20 g20 b20 a1 h1 a2 h2 a9 h9 a10 h10 a35 h35 a36 h36 a37 h37 a38 h38 a39 h39 a40 h40 a41 h41 a42 h42 f0 f1 f2 f3 f4 f5 f6 f7 tt
  have e78 : PT 78 = P_ly := pe78_18 hp
  have e105 : PT 105 = P_cp2 := pe105_18 hp
  have e106 : PT 106 = P_rd := pe106_18 hp
  simp only [hF0, hFp_78, hFp_105, hFp_106, e78, e105, e106, P_ly, P_cp2, P_rd, den_s, den_c, Int.add_zero, List.map_cons, List.map_nil, g4, g16, g17, g18, g19, g20, h1, h2, h9, h10, h35, h36, h37, h38, h39, h40, h41, h42] at f0 f1 f2 f3 f4 f5 f6 f7 ⊢
  clear g4 g16 g17 g18 g19 g20 h1 h2 h9 h10 h35 h36 h37 h38 h39 h40 h41 h42 e78 e105 e106 tt
  first
    | omega
    | (obtain ⟨j1, j2, j3, j4, j5, j6⟩ := MISSING; omega))
def w_yearOf_0_6 : VC := ((bY ++ [((-2147483648), 2147483647), (0, 8), (0, 1), (0, 8), (0, 0), (0, 11), ((-2147483648), 2147483647), ((-2147483648), 2147483647)]), [(0, [(some 17, 0), (none, 0)], []), (106, [(some 16, 0), (some 17, 0)], [1, 2, 35, 36, 37, 38, 39, 40]), (105, [(some 4, 0)], [9, 10, 41, 42]), (0, [(some 18, 0), (some 17, 0)], []), (0, [(some 4, 0), (some 4, 0)], []), (0, [(some 19, 0), (none, 0)], []), (0, [(some 20, 0), (none, 0)], []), (78, [], [1])], (3, [(none, 0), (none, 0)], []))
theorem v_yearOf_0_6 {PT : PTy} (_ : HP18 PT) : vcOk PT w_yearOf_0_6 := vc_of (fun ρ α _ _ => by simp only [hF3, den_c] <;> omega)
def w_yearOf_0_7 : VC := ((bY ++ [((-2147483648), 2147483647), (0, 8), (0, 1), (0, 8), (0, 0), (0, 11), ((-2147483648), 2147483647), ((-2147483648), 2147483647)]), [(0, [(some 17, 0), (none, 0)], []), (106, [(some 16, 0), (some 17, 0)], [1, 2, 35, 36, 37, 38, 39, 40]), (105, [(some 4, 0)], [9, 10, 41, 42]), (0, [(some 18, 0), (some 17, 0)], []), (0, [(some 4, 0), (some 4, 0)], []), (0, [(some 19, 0), (none, 0)], []), (0, [(some 20, 0), (none, 0)], []), (78, [], [1])], (215, [(none, 0), (none, 0), (some 14, 0)], []))
set_option maxRecDepth 20000 in
theorem v_yearOf_0_7 {PT : PTy} (hp : HP18 PT) : vcOk PT w_yearOf_0_7 := vc_iv [(4, 0, 8), (14, 0, 8), (16, 0, 8), (17, 0, 0), (18, 0, 11), (19, (-2147483648), 2147483647), (20, (-2147483648), 2147483647)] [1, 2, 9, 10, 35, 36, 37, 38, 39, 40, 41, 42] (by decide +kernel) (fun ρ α => by
  intro r4 g4 b4 r14 g14 b14 r16 g16 b16 r17 g17 b17 r18 g18 b18 r19 g19 b19 r20 g20 b20 a1 h1 a2 h2 a9 h9 a10 h10 a35 h35 a36 h36 a37 h37 a38 h38 a39 h39 a40 h40 a41 h41 a42 h42 f0 f1 f2 f3 f4 f5 f6 f7 tt
  have e78 : PT 78 = P_ly := pe78_18 hp
  have e105 : PT 105 = P_cp2 := pe105_18 hp
  have e106 : PT 106 = P_rd := pe106_18 hp
  have e215 : PT 215 = P_nkY2 := pe215_18 hp
  simp only [hF0, hFp_78, hFp_105, hFp_106, hFp_215, e78, e105, e106, e215, P_ly, P_cp2, P_rd, P_nkY2, den_s, den_c, Int.add_zero, List.map_cons, List.map_nil, g4, g14, g16, g17, g18, g19, g20, h1, h2, h9, h10, h35, h36, h37, h38, h39, h40, h41, h42] at f0 f1 f2 f3 f4 f5 f6 f7 ⊢
  clear g4 g14 g16 g17 g18 g19 g20 h1 h2 h9 h10 h35 h36 h37 h38 h39 h40 h41 h42 e78 e105 e106 e215 tt
  first | exact MISSING | exact ⟨fun _ => by omega, fun _ => by omega⟩)
def w_yearOf_1_0 : VC := ((bY ++ [((-2147483648), 2147483647), (0, 8), (1, 1), ((-2147483648), 2147483647), (0, 10), (0, 10), (0, 8), (0, 10), (0, 11), (0, 8), ((-2147483648), 2147483647), ((-2147483648), 2147483647), (0, 8)]), [(174, [(some 25, 0), (some 19, 0), (none, 23)], [46, 36]), (1, [(some 15, 0), (none, 0)], []), (3, [(some 18, 0), (some 20, 0)], []), (216, [(some 18, 0), (some 17, 0), (some 22, 0), (some 13, 0), (some 14, 0), (some 19, 0), (some 20, 0), (some 5, 0), (some 6, 0)], [1, 2, 35, 36, 37, 38, 39, 40, 41, 42, 11, 12, 13, 14, 15, 16, 46, 43, 44, 45]), (3, [(some 20, 0), (some 18, 0)], []), (78, [], [1])], (217, [(some 25, 0), (some 15, 0), (some 22, 0), (some 13, 0), (some 14, 0), (some 19, 0), (some 20, 0), (some 5, 0), (some 6, 0)], [1, 2, 35, 36, 37, 38, 39, 40, 41, 42, 11, 12, 13, 14, 15, 16, 46, 43, 44, 45]))
theorem pe174_18 {PT : PTy} (hp : HP18 PT) : PT 174 = P_cnY := hp.1.1.1.1.1.1.2.2.2.2.2.2.2.2.2.2.2.2.1
theorem pe216_18 {PT : PTy} (hp : HP18 PT) : PT 216 = P_yrJ := hp.2.2.2.2.2.1
theorem pe217_18 {PT : PTy} (hp : HP18 PT) : PT 217 = P_yrP := hp.2.2.2.2.2.2.1
set_option maxRecDepth 20000 in
theorem v_yearOf_1_0 {PT : PTy} (hp : HP18 PT) : vcOk PT w_yearOf_1_0 := vc_iv [(5, 0, 6), (6, 0, 6), (13, (-2147483648), 2147483647), (14, 0, 8), (15, 1, 1), (17, 0, 10), (18, 0, 10), (19, 0, 8), (20, 0, 10), (22, 0, 8), (25, 0, 8)] [1, 2, 11, 12, 13, 14, 15, 16, 35, 36, 37, 38, 39, 40, 41, 42, 43, 44, 45, 46] (by decide +kernel) (fun ρ α => by
  intro r5 g5 b5 r6 g6 b6 r13 g13 b13 r14 g14 b14 r15 g15 b15 r17 g17 b17 r18 g18 b18 r19 g19 b19 r20 g20 b20 r22 g22 b22 r25 g25 b25 a1 h1 a2 h2 a11 h11 a12 h12 a13 h13 a14 h14 a15 h15 a16 h16 a35 h35 a36 h36 a37 h37 a38 h38 a39 h39 a40 h40 a41 h41 a42 h42 a43 h43 a44 h44 a45 h45 a46 h46 f0 f1 f2 f3 f4 f5 tt
  clear f1
  have e78 : PT 78 = P_ly := pe78_18 hp
  have e174 : PT 174 = P_cnY := pe174_18 hp
  have e216 : PT 216 = P_yrJ := pe216_18 hp
  have e217 : PT 217 = P_yrP := pe217_18 hp
  simp only [hF3, hFp_78, hFp_174, hFp_216, hFp_217, e78, e174, e216, e217, P_ly, P_cnY, P_yrJ, P_yrP, den_s, den_c, Int.add_zero, List.map_cons, List.map_nil, g5, g6, g13, g14, g15, g17, g18, g19, g20, g22, g25, h1, h2, h11, h12, h13, h14, h15, h16, h35, h36, h37, h38, h39, h40, h41, h42, h43, h44, h45, h46] at f0 f2 f3 f4 f5 ⊢
  clear g5 g6 g13 g14 g15 g17 g18 g19 g20 g22 g25 h1 h2 h11 h12 h13 h14 h15 h16 h35 h36 h37 h38 h39 h40 h41 h42 h43 h44 h45 h46 e78 e174 e216 e217 tt
  obtain ⟨j1, j2, j3, j4, j5, j6⟩ := f3
  rw [show r18 = r20 by omega] at j5
  first
    | exact ⟨j1, j2, j3, j4, fun q => j5, fun q => by exfalso; omega⟩
    | exact ⟨j1, j2, j3, j4, fun q => by exfalso; omega, fun q => (f0).1⟩)
def w_yearOf_1_1 : VC := ((bY ++ [((-2147483648), 2147483647), (0, 8), (0, 0), ((-2147483648), 2147483647), (0, 10), (0, 10), (0, 8), (0, 10), (0, 11), (0, 8), ((-2147483648), 2147483647), ((-2147483648), 2147483647)]), [(0, [(some 15, 0), (none, 0)], []), (3, [(some 18, 0), (some 20, 0)], []), (216, [(some 18, 0), (some 17, 0), (some 22, 0), (some 13, 0), (some 14, 0), (some 19, 0), (some 20, 0), (some 5, 0), (some 6, 0)], [1, 2, 35, 36, 37, 38, 39, 40, 41, 42, 11, 12, 13, 14, 15, 16, 46, 43, 44, 45]), (3, [(some 20, 0), (some 18, 0)], []), (78, [], [1])], (217, [(some 17, 0), (some 15, 0), (some 22, 0), (some 13, 0), (some 14, 0), (some 19, 0), (some 20, 0), (some 5, 0), (some 6, 0)], [1, 2, 35, 36, 37, 38, 39, 40, 41, 42, 11, 12, 13, 14, 15, 16, 46, 43, 44, 45]))
set_option maxRecDepth 20000 in
theorem v_yearOf_1_1 {PT : PTy} (hp : HP18 PT) : vcOk PT w_yearOf_1_1 := vc_iv [(5, 0, 6), (6, 0, 6), (13, (-2147483648), 2147483647), (14, 0, 8), (15, 0, 0), (17, 0, 10), (18, 0, 10), (19, 0, 8), (20, 0, 10), (22, 0, 8)] [1, 2, 11, 12, 13, 14, 15, 16, 35, 36, 37, 38, 39, 40, 41, 42, 43, 44, 45, 46] (by decide +kernel) (fun ρ α => by
  intro r5 g5 b5 r6 g6 b6 r13 g13 b13 r14 g14 b14 r15 g15 b15 r17 g17 b17 r18 g18 b18 r19 g19 b19 r20 g20 b20 r22 g22 b22 a1 h1 a2 h2 a11 h11 a12 h12 a13 h13 a14 h14 a15 h15 a16 h16 a35 h35 a36 h36 a37 h37 a38 h38 a39 h39 a40 h40 a41 h41 a42 h42 a43 h43 a44 h44 a45 h45 a46 h46 f0 f1 f2 f3 f4 tt
  have e78 : PT 78 = P_ly := pe78_18 hp
  have e216 : PT 216 = P_yrJ := pe216_18 hp
  have e217 : PT 217 = P_yrP := pe217_18 hp
  simp only [hF0, hF3, hFp_78, hFp_216, hFp_217, e78, e216, e217, P_ly, P_yrJ, P_yrP, den_s, den_c, Int.add_zero, List.map_cons, List.map_nil, g5, g6, g13, g14, g15, g17, g18, g19, g20, g22, h1, h2, h11, h12, h13, h14, h15, h16, h35, h36, h37, h38, h39, h40, h41, h42, h43, h44, h45, h46] at f0 f1 f2 f3 f4 ⊢
  clear g5 g6 g13 g14 g15 g17 g18 g19 g20 g22 h1 h2 h11 h12 h13 h14 h15 h16 h35 h36 h37 h38 h39 h40 h41 h42 h43 h44 h45 h46 e78 e216 e217 tt
  obtain ⟨j1, j2, j3, j4, j5, j6⟩ := f2
  rw [show r18 = r20 by omega] at j5
  first
    | exact ⟨j1, j2, j3, j4, fun q => j5, fun q => by exfalso; omega⟩
    | exact ⟨j1, j2, j3, j4, fun q => by exfalso; omega, fun q => (MISSING).1⟩)
def w_yearOf_1_2 : VC := ((bY ++ [((-2147483648), 2147483647), (0, 8), (0, 1), ((-2147483648), 2147483647), (0, 10), (0, 9), (0, 8), (1, 10), (0, 11), (0, 8), ((-2147483648), 2147483647), ((-2147483648), 2147483647), (0, 2)]), [(1, [(some 25, 0), (none, 3)], []), (20, [(some 25, 0), (some 18, 0)], [45]), (2, [(some 18, 0), (some 20, 0)], []), (216, [(some 18, 0), (some 17, 0), (some 22, 0), (some 13, 0), (some 14, 0), (some 19, 0), (some 20, 0), (some 5, 0), (some 6, 0)], [1, 2, 35, 36, 37, 38, 39, 40, 41, 42, 11, 12, 13, 14, 15, 16, 46, 43, 44, 45]), (3, [(some 20, 0), (some 18, 0)], []), (78, [], [1])], (216, [(some 18, 1), (some 17, 0), (some 22, 0), (some 13, 0), (some 14, 0), (some 19, 0), (some 20, 0), (some 5, 0), (some 6, 0)], [1, 2, 35, 36, 37, 38, 39, 40, 41, 42, 11, 12, 13, 14, 15, 16, 46, 43, 44, 45]))
set_option maxRecDepth 20000 in
theorem v_yearOf_1_2 {PT : PTy} (hp : HP18 PT) : vcOk PT w_yearOf_1_2 := vc_iv [(5, 0, 6), (6, 0, 6), (13, (-2147483648), 2147483647), (14, 0, 8), (17, 0, 10), (18, 0, 9), (19, 0, 8), (20, 1, 10), (22, 0, 8), (25, 0, 2)] [1, 2, 11, 12, 13, 14, 15, 16, 35, 36, 37, 38, 39, 40, 41, 42, 43, 44, 45, 46] (by decide +kernel) (fun ρ α => by
  intro r5 g5 b5 r6 g6 b6 r13 g13 b13 r14 g14 b14 r17 g17 b17 r18 g18 b18 r19 g19 b19 r20 g20 b20 r22 g22 b22 r25 g25 b25 a1 h1 a2 h2 a11 h11 a12 h12 a13 h13 a14 h14 a15 h15 a16 h16 a35 h35 a36 h36 a37 h37 a38 h38 a39 h39 a40 h40 a41 h41 a42 h42 a43 h43 a44 h44 a45 h45 a46 h46 f0 f1 f2 f3 f4 f5 tt
  clear f0
  have e78 : PT 78 = P_ly := pe78_18 hp
  have e216 : PT 216 = P_yrJ := pe216_18 hp
  simp only [hF2, hF3, hF20, hFp_78, hFp_216, e78, e216, P_ly, P_yrJ, den_s, den_c, Int.add_zero, List.map_cons, List.map_nil, g5, g6, g13, g14, g17, g18, g19, g20, g22, g25, h1, h2, h11, h12, h13, h14, h15, h16, h35, h36, h37, h38, h39, h40, h41, h42, h43, h44, h45, h46] at f1 f2 f3 f4 f5 ⊢
  clear g5 g6 g13 g14 g17 g18 g19 g20 g22 g25 h1 h2 h11 h12 h13 h14 h15 h16 h35 h36 h37 h38 h39 h40 h41 h42 h43 h44 h45 h46 e78 e216 tt
  subst f1
  obtain ⟨j1, j2, j3, j4, j5, j6⟩ := f3
  refine ⟨j1, j2, j3, j4, ?_, by omega⟩
  unfold rpT3 at j5 ⊢
  rw [foldI_s (by omega), ← j5]
  first | (rw [if_pos (by omega)]) | (rw [if_neg (by omega)] <;> first | rfl | omega))
def w_yearOf_1_3 : VC := ((bY ++ [((-2147483648), 2147483647), (0, 8), (0, 1), ((-2147483648), 2147483647), (0, 10), (0, 9), (0, 8), (1, 10), (0, 11), (0, 8), ((-2147483648), 2147483647), ((-2147483648), 2147483647), (0, 2)]), [(1, [(some 25, 0), (none, 3)], []), (20, [(some 25, 0), (some 18, 0)], [45]), (2, [(some 18, 0), (some 20, 0)], []), (216, [(some 18, 0), (some 17, 0), (some 22, 0), (some 13, 0), (some 14, 0), (some 19, 0), (some 20, 0), (some 5, 0), (some 6, 0)], [1, 2, 35, 36, 37, 38, 39, 40, 41, 42, 11, 12, 13, 14, 15, 16, 46, 43, 44, 45]), (3, [(some 20, 0), (some 18, 0)], []), (78, [], [1])], (3, [(some 20, 0), (some 18, 1)], []))
set_option maxRecDepth 20000 in
theorem v_yearOf_1_3 {PT : PTy} (hp : HP18 PT) : vcOk PT w_yearOf_1_3 := vc_iv [(5, 0, 6), (6, 0, 6), (13, (-2147483648), 2147483647), (14, 0, 8), (17, 0, 10), (18, 0, 9), (19, 0, 8), (20, 1, 10), (22, 0, 8), (25, 0, 2)] [1, 2, 11, 12, 13, 14, 15, 16, 35, 36, 37, 38, 39, 40, 41, 42, 43, 44, 45, 46] (by decide +kernel) (fun ρ α => by
  intro r5 g5 b5 r6 g6 b6 r13 g13 b13 r14 g14 b14 r17 g17 b17 r18 g18 b18 r19 g19 b19 r20 g20 b20 r22 g22 b22 r25 g25 b25 a1 h1 a2 h2 a11 h11 a12 h12 a13 h13 a14 h14 a15 h15 a16 h16 a35 h35 a36 h36 a37 h37 a38 h38 a39 h39 a40 h40 a41 h41 a42 h42 a43 h43 a44 h44 a45 h45 a46 h46 f0 f1 f2 f3 f4 f5 tt
  clear f0
  have e78 : PT 78 = P_ly := pe78_18 hp
  have e216 : PT 216 = P_yrJ := pe216_18 hp
  simp only [hF2, hF3, hF20, hFp_78, hFp_216, e78, e216, P_ly, P_yrJ, den_s, den_c, Int.add_zero, List.map_cons, List.map_nil, g5, g6, g13, g14, g17, g18, g19, g20, g22, g25, h1, h2, h11, h12, h13, h14, h15, h16, h35, h36, h37, h38, h39, h40, h41, h42, h43, h44, h45, h46] at f1 f2 f3 f4 f5 ⊢
  clear g5 g6 g13 g14 g17 g18 g19 g20 g22 g25 h1 h2 h11 h12 h13 h14 h15 h16 h35 h36 h37 h38 h39 h40 h41 h42 h43 h44 h45 h46 e78 e216 tt
  subst f1
  first
    | omega
    | (obtain ⟨j1, j2, j3, j4, j5, j6⟩ := f3; omega))
def w_yearOf_1_4 : VC := ((bY ++ [((-2147483648), 2147483647), (0, 8), (0, 1), ((-2147483648), 2147483647), (0, 10), (0, 9), (0, 8), (1, 10), (0, 11), (0, 8), ((-2147483648), 2147483647), ((-2147483648), 2147483647), (3, 3)]), [(0, [(some 25, 0), (none, 3)], []), (20, [(some 25, 0), (some 18, 0)], [45]), (2, [(some 18, 0), (some 20, 0)], []), (216, [(some 18, 0), (some 17, 0), (some 22, 0), (some 13, 0), (some 14, 0), (some 19, 0), (some 20, 0), (some 5, 0), (some 6, 0)], [1, 2, 35, 36, 37, 38, 39, 40, 41, 42, 11, 12, 13, 14, 15, 16, 46, 43, 44, 45]), (3, [(some 20, 0), (some 18, 0)], []), (78, [], [1])], (3, [(some 17, 1), (none, 0)], []))
set_option maxRecDepth 20000 in
theorem v_yearOf_1_4 {PT : PTy} (hp : HP18 PT) : vcOk PT w_yearOf_1_4 := vc_iv [(5, 0, 6), (6, 0, 6), (13, (-2147483648), 2147483647), (14, 0, 8), (17, 0, 10), (18, 0, 9), (19, 0, 8), (20, 1, 10), (22, 0, 8), (25, 3, 3)] [1, 2, 11, 12, 13, 14, 15, 16, 35, 36, 37, 38, 39, 40, 41, 42, 43, 44, 45, 46] (by decide +kernel) (fun ρ α => by
  intro r5 g5 b5 r6 g6 b6 r13 g13 b13 r14 g14 b14 r17 g17 b17 r18 g18 b18 r19 g19 b19 r20 g20 b20 r22 g22 b22 r25 g25 b25 a1 h1 a2 h2 a11 h11 a12 h12 a13 h13 a14 h14 a15 h15 a16 h16 a35 h35 a36 h36 a37 h37 a38 h38 a39 h39 a40 h40 a41 h41 a42 h42 a43 h43 a44 h44 a45 h45 a46 h46 f0 f1 f2 f3 f4 f5 tt
  have e78 : PT 78 = P_ly := pe78_18 hp
  have e216 : PT 216 = P_yrJ := pe216_18 hp
  simp only [hF0, hF2, hF3, hF20, hFp_78, hFp_216, e78, e216, P_ly, P_yrJ, den_s, den_c, Int.add_zero, List.map_cons, List.map_nil, g5, g6, g13, g14, g17, g18, g19, g20, g22, g25, h1, h2, h11, h12, h13, h14, h15, h16, h35, h36, h37, h38, h39, h40, h41, h42, h43, h44, h45, h46] at f0 f1 f2 f3 f4 f5 ⊢
  clear g5 g6 g13 g14 g17 g18 g19 g20 g22 g25 h1 h2 h11 h12 h13 h14 h15 h16 h35 h36 h37 h38 h39 h40 h41 h42 h43 h44 h45 h46 e78 e216 tt
  subst f1
  first
    | omega
    | (obtain ⟨j1, j2, j3, j4, j5, j6⟩ := f3; omega))
def w_yearOf_1_5 : VC := ((bY ++ [((-2147483648), 2147483647), (0, 8), (0, 1), ((-2147483648), 2147483647), (0, 10), (0, 9), (0, 8), (1, 10), (0, 11), (0, 8), ((-2147483648), 2147483647), ((-2147483648), 2147483647), (3, 3)]), [(0, [(some 25, 0), (none, 3)], []), (20, [(some 25, 0), (some 18, 0)], [45]), (2, [(some 18, 0), (some 20, 0)], []), (216, [(some 18, 0), (some 17, 0), (some 22, 0), (some 13, 0), (some 14, 0), (some 19, 0), (some 20, 0), (some 5, 0), (some 6, 0)], [1, 2, 35, 36, 37, 38, 39, 40, 41, 42, 11, 12, 13, 14, 15, 16, 46, 43, 44, 45]), (3, [(some 20, 0), (some 18, 0)], []), (78, [], [1])], (3, [(none, 10), (some 17, 1)], []))
set_option maxRecDepth 20000 in
theorem v_yearOf_1_5 {PT : PTy} (hp : HP18 PT) : vcOk PT w_yearOf_1_5 := vc_iv [(5, 0, 6), (6, 0, 6), (13, (-2147483648), 2147483647), (14, 0, 8), (17, 0, 10), (18, 0, 9), (19, 0, 8), (20, 1, 10), (22, 0, 8), (25, 3, 3)] [1, 2, 11, 12, 13, 14, 15, 16, 35, 36, 37, 38, 39, 40, 41, 42, 43, 44, 45, 46] (by decide +kernel) (fun ρ α => by
  intro r5 g5 b5 r6 g6 b6 r13 g13 b13 r14 g14 b14 r17 g17 b17 r18 g18 b18 r19 g19 b19 r20 g20 b20 r22 g22 b22 r25 g25 b25 a1 h1 a2 h2 a11 h11 a12 h12 a13 h13 a14 h14 a15 h15 a16 h16 a35 h35 a36 h36 a37 h37 a38 h38 a39 h39 a40 h40 a41 h41 a42 h42 a43 h43 a44 h44 a45 h45 a46 h46 f0 f1 f2 f3 f4 f5 tt
  have e78 : PT 78 = P_ly := pe78_18 hp
  have e216 : PT 216 = P_yrJ := pe216_18 hp
  simp only [hF0, hF2, hF3, hF20, hFp_78, hFp_216, e78, e216, P_ly, P_yrJ, den_s, den_c, Int.add_zero, List.map_cons, List.map_nil, g5, g6, g13, g14, g17, g18, g19, g20, g22, g25, h1, h2, h11, h12, h13, h14, h15, h16, h35, h36, h37, h38, h39, h40, h41, h42, h43, h44, h45, h46] at f0 f1 f2 f3 f4 f5 ⊢
  clear g5 g6 g13 g14 g17 g18 g19 g20 g22 g25 h1 h2 h11 h12 h13 h14 h15 h16 h35 h36 h37 h38 h39 h40 h41 h42 h43 h44 h45 h46 e78 e216 tt
  subst f1
  first
    | omega
    | (obtain ⟨j1, j2, j3, j4, j5, j6⟩ := f3; omega))
def w_yearOf_1_6 : VC := ((bY ++ [((-2147483648), 2147483647), (0, 8), (0, 1), ((-2147483648), 2147483647), (0, 10), (0, 9), (0, 8), (1, 10), (0, 11), (0, 8), ((-2147483648), 2147483647), ((-2147483648), 2147483647), (3, 3)]), [(0, [(some 25, 0), (none, 3)], []), (20, [(some 25, 0), (some 18, 0)], [45]), (2, [(some 18, 0), (some 20, 0)], []), (216, [(some 18, 0), (some 17, 0), (some 22, 0), (some 13, 0), (some 14, 0), (some 19, 0), (some 20, 0), (some 5, 0), (some 6, 0)], [1, 2, 35, 36, 37, 38, 39, 40, 41, 42, 11, 12, 13, 14, 15, 16, 46, 43, 44, 45]), (3, [(some 20, 0), (some 18, 0)], []), (78, [], [1])], (216, [(some 18, 1), (some 17, 1), (some 22, 0), (some 13, 0), (some 14, 0), (some 19, 0), (some 20, 0), (some 5, 0), (some 6, 0)], [1, 2, 35, 36, 37, 38, 39, 40, 41, 42, 11, 12, 13, 14, 15, 16, 46, 43, 44, 45]))
set_option maxRecDepth 20000 in
theorem v_yearOf_1_6 {PT : PTy} (hp : HP18 PT) : vcOk PT w_yearOf_1_6 := vc_iv [(5, 0, 6), (6, 0, 6), (13, (-2147483648), 2147483647), (14, 0, 8), (17, 0, 10), (18, 0, 9), (19, 0, 8), (20, 1, 10), (22, 0, 8), (25, 3, 3)] [1, 2, 11, 12, 13, 14, 15, 16, 35, 36, 37, 38, 39, 40, 41, 42, 43, 44, 45, 46] (by decide +kernel) (fun ρ α => by
  intro r5 g5 b5 r6 g6 b6 r13 g13 b13 r14 g14 b14 r17 g17 b17 r18 g18 b18 r19 g19 b19 r20 g20 b20 r22 g22 b22 r25 g25 b25 a1 h1 a2 h2 a11 h11 a12 h12 a13 h13 a14 h14 a15 h15 a16 h16 a35 h35 a36 h36 a37 h37 a38 h38 a39 h39 a40 h40 a41 h41 a42 h42 a43 h43 a44 h44 a45 h45 a46 h46 f0 f1 f2 f3 f4 f5 tt
  have e78 : PT 78 = P_ly := pe78_18 hp
  have e216 : PT 216 = P_yrJ := pe216_18 hp
  simp only [hF0, hF2, hF3, hF20, hFp_78, hFp_216, e78, e216, P_ly, P_yrJ, den_s, den_c, Int.add_zero, List.map_cons, List.map_nil, g5, g6, g13, g14, g17, g18, g19, g20, g22, g25, h1, h2, h11, h12, h13, h14, h15, h16, h35, h36, h37, h38, h39, h40, h41, h42, h43, h44, h45, h46] at f0 f1 f2 f3 f4 f5 ⊢
  clear g5 g6 g13 g14 g17 g18 g19 g20 g22 g25 h1 h2 h11 h12 h13 h14 h15 h16 h35 h36 h37 h38 h39 h40 h41 h42 h43 h44 h45 h46 e78 e216 tt
  subst f1
  obtain ⟨j1, j2, j3, j4, j5, j6⟩ := f3
  refine ⟨j1, j2, j3, j4, ?_, by omega⟩
  unfold rpT3 at j5 ⊢
  rw [foldI_s (by omega), ← j5]
  first | (rw [if_pos (by omega)]) | (rw [if_neg (by omega)] <;> first | rfl | omega))
def w_yearOf_1_7 : VC := ((bY ++ [((-2147483648), 2147483647), (0, 8), (0, 1), ((-2147483648), 2147483647), (0, 10), (0, 9), (0, 8), (1, 10), (0, 11), (0, 8), ((-2147483648), 2147483647), ((-2147483648), 2147483647), (3, 3)]), [(0, [(some 25, 0), (none, 3)], []), (20, [(some 25, 0), (some 18, 0)], [45]), (2, [(some 18, 0), (some 20, 0)], []), (216, [(some 18, 0), (some 17, 0), (some 22, 0), (some 13, 0), (some 14, 0), (some 19, 0), (some 20, 0), (some 5, 0), (some 6, 0)], [1, 2, 35, 36, 37, 38, 39, 40, 41, 42, 11, 12, 13, 14, 15, 16, 46, 43, 44, 45]), (3, [(some 20, 0), (some 18, 0)], []), (78, [], [1])], (3, [(some 20, 0), (some 18, 1)], []))
set_option maxRecDepth 20000 in
theorem v_yearOf_1_7 {PT : PTy} (hp : HP18 PT) : vcOk PT w_yearOf_1_7 := vc_iv [(5, 0, 6), (6, 0, 6), (13, (-2147483648), 2147483647), (14, 0, 8), (17, 0, 10), (18, 0, 9), (19, 0, 8), (20, 1, 10), (22, 0, 8), (25, 3, 3)] [1, 2, 11, 12, 13, 14, 15, 16, 35, 36, 37, 38, 39, 40, 41, 42, 43, 44, 45, 46] (by decide +kernel) (fun ρ α => by
  intro r5 g5 b5 r6 g6 b6 r13 g13 b13 r14 g14 b14 r17 g17 b17 r18 g18 b18 r19 g19 b19 r20 g20 b20 r22 g22 b22 r25 g25 b25 a1 h1 a2 h2 a11 h11 a12 h12 a13 h13 a14 h14 a15 h15 a16 h16 a35 h35 a36 h36 a37 h37 a38 h38 a39 h39 a40 h40 a41 h41 a42 h42 a43 h43 a44 h44 a45 h45 a46 h46 f0 f1 f2 f3 f4 f5 tt
  have e78 : PT 78 = P_ly := pe78_18 hp
  have e216 : PT 216 = P_yrJ := pe216_18 hp
  simp only [hF0, hF2, hF3, hF20, hFp_78, hFp_216, e78, e216, P_ly, P_yrJ, den_s, den_c, Int.add_zero, List.map_cons, List.map_nil, g5, g6, g13, g14, g17, g18, g19, g20, g22, g25, h1, h2, h11, h12, h13, h14, h15, h16, h35, h36, h37, h38, h39, h40, h41, h42, h43, h44, h45, h46] at f0 f1 f2 f3 f4 f5 ⊢
  clear g5 g6 g13 g14 g17 g18 g19 g20 g22 g25 h1 h2 h11 h12 h13 h14 h15 h16 h35 h36 h37 h38 h39 h40 h41 h42 h43 h44 h45 h46 e78 e216 tt
  subst f1
  first
    | omega
    | (obtain ⟨j1, j2, j3, j4, j5, j6⟩ := f3; omega))
def w_yearOf_2_0 : VC := ((bY ++ [((-2147483648), 2147483647), (0, 8), (0, 1), ((-2147483648), 2147483647), (0, 8), (0, 8), (1, 10), (0, 11), ((-2147483648), 2147483647), ((-2147483648), 2147483647)]), [(104, [(none, 24), (some 18, 0), (some 20, 0), (some 19, 0), (some 14, 0), (some 5, 0), (some 6, 0), (some 21, 0), (some 22, 0)], [35, 36, 37, 38, 39, 40, 41, 42, 11, 12, 13, 14, 15, 16, 19, 20, 21, 43, 44, 45, 46, 47, 48]), (3, [(some 17, 0), (some 14, 0)], []), (106, [(some 18, 0), (some 19, 0)], [1, 2, 35, 36, 37, 38, 39, 40]), (212, [(some 17, 0), (some 16, 0), (some 13, 0), (some 19, 0)], [41, 42]), (0, [(some 20, 0), (some 19, 0)], []), (0, [(some 21, 0), (none, 0)], []), (0, [(some 22, 0), (none, 0)], []), (3, [(some 14, 0), (some 17, 0)], []), (215, [(some 14, 0), (some 19, 0), (some 14, 0)], []), (78, [], [1])], (216, [(none, 0), (none, 0), (some 14, 0), (some 13, 0), (some 14, 0), (some 18, 0), (some 19, 0), (some 5, 0), (some 6, 0)], [1, 2, 35, 36, 37, 38, 39, 40, 41, 42, 11, 12, 13, 14, 15, 16, 46, 43, 44, 45]))
theorem pe104_18 {PT : PTy} (hp : HP18 PT) : PT 104 = P_ru := hp.1.1.1.1.1.1.1.1.1.1.1.1.1.2.2.2.2.2.2.2.2.2.2.1
set_option maxRecDepth 20000 in
theorem v_yearOf_2_0 {PT : PTy} (hp : HP18 PT) : vcOk PT w_yearOf_2_0 := vc_iv [(5, 0, 6), (6, 0, 6), (13, (-2147483648), 2147483647), (14, 0, 8), (16, (-2147483648), 2147483647), (17, 0, 8), (18, 0, 8), (19, 1, 10), (20, 0, 11), (21, (-2147483648), 2147483647), (22, (-2147483648), 2147483647)] [1, 2, 11, 12, 13, 14, 15, 16, 19, 20, 21, 35, 36, 37, 38, 39, 40, 41, 42, 43, 44, 45, 46, 47, 48] (by decide +kernel) (fun ρ α => by
  intro r5 g5 b5 r6 g6 b6 r13 g13 b13 r14 g14 b14 r16 g16 b16 r17 g17 b17 r18 g18 b18 r19 g19 b19 r20 g20 b20 r21 g21 b21 r22 g22 b22 a1 h1 a2 h2 a11 h11 a12 h12 a13 h13 a14 h14 a15 h15 a16 h16 a19 h19 a20 h20 a21 h21 a35 h35 a36 h36 a37 h37 a38 h38 a39 h39 a40 h40 a41 h41 a42 h42 a43 h43 a44 h44 a45 h45 a46 h46 a47 h47 a48 h48 f0 f1 f2 f3 f4 f5 f6 f7 f8 f9 tt
  have e78 : PT 78 = P_ly := pe78_18 hp
  have e104 : PT 104 = P_ru := pe104_18 hp
  have e106 : PT 106 = P_rd := pe106_18 hp
  have e212 : PT 212 = P_drI := pe212_18 hp
  have e215 : PT 215 = P_nkY2 := pe215_18 hp
  have e216 : PT 216 = P_yrJ := pe216_18 hp
  simp only [hF0, hF3, hFp_78, hFp_104, hFp_106, hFp_212, hFp_215, hFp_216, e78, e104, e106, e212, e215, e216, P_ly, P_ru, P_rd, P_drI, P_nkY2, P_yrJ, den_s, den_c, Int.add_zero, List.map_cons, List.map_nil, g5, g6, g13, g14, g16, g17, g18, g19, g20, g21, g22, h1, h2, h11, h12, h13, h14, h15, h16, h19, h20, h21, h35, h36, h37, h38, h39, h40, h41, h42, h43, h44, h45, h46, h47, h48] at f0 f1 f2 f3 f4 f5 f6 f7 f8 f9 ⊢
  clear g5 g6 g13 g14 g16 g17 g18 g19 g20 g21 g22 h1 h2 h11 h12 h13 h14 h15 h16 h19 h20 h21 h35 h36 h37 h38 h39 h40 h41 h42 h43 h44 h45 h46 h47 h48 e78 e104 e106 e212 e215 e216 tt
  obtain ⟨h1, h2⟩ := f0
  obtain ⟨i1, i2⟩ := f3
  have e1 : r20 = r19 := by omega
  have e2 : r21 = 0 := by omega
  have e3 : r22 = 0 := by omega
  rw [e1, e2, e3] at h1 h2
  refine ⟨f2, fun q => by omega, fun q => by first | (exfalso; omega) | exact ⟨by first | trivial | omega, by rw [show r17 = r14 by omega] at i2; exact i2⟩, ⟨_, _, _, _, _, h1, h2⟩, rfl, by omega⟩)
def w_yearOf_2_1 : VC := ((bY ++ [((-2147483648), 2147483647), (0, 8), (0, 1), ((-2147483648), 2147483647), (0, 8), (0, 8), (1, 10), (0, 11), ((-2147483648), 2147483647), ((-2147483648), 2147483647)]), [(104, [(none, 24), (some 18, 0), (some 20, 0), (some 19, 0), (some 14, 0), (some 5, 0), (some 6, 0), (some 21, 0), (some 22, 0)], [35, 36, 37, 38, 39, 40, 41, 42, 11, 12, 13, 14, 15, 16, 19, 20, 21, 43, 44, 45, 46, 47, 48]), (3, [(some 17, 0), (some 14, 0)], []), (106, [(some 18, 0), (some 19, 0)], [1, 2, 35, 36, 37, 38, 39, 40]), (212, [(some 17, 0), (some 16, 0), (some 13, 0), (some 19, 0)], [41, 42]), (0, [(some 20, 0), (some 19, 0)], []), (0, [(some 21, 0), (none, 0)], []), (0, [(some 22, 0), (none, 0)], []), (3, [(some 14, 0), (some 17, 0)], []), (215, [(some 14, 0), (some 19, 0), (some 14, 0)], []), (78, [], [1])], (3, [(some 19, 0), (none, 0)], []))
set_option maxRecDepth 20000 in
theorem v_yearOf_2_1 {PT : PTy} (hp : HP18 PT) : vcOk PT w_yearOf_2_1 := vc_iv [(5, 0, 6), (6, 0, 6), (13, (-2147483648), 2147483647), (14, 0, 8), (16, (-2147483648), 2147483647), (17, 0, 8), (18, 0, 8), (19, 1, 10), (20, 0, 11), (21, (-2147483648), 2147483647), (22, (-2147483648), 2147483647)] [1, 2, 11, 12, 13, 14, 15, 16, 19, 20, 21, 35, 36, 37, 38, 39, 40, 41, 42, 43, 44, 45, 46, 47, 48] (by decide +kernel) (fun ρ α => by
  intro r5 g5 b5 r6 g6 b6 r13 g13 b13 r14 g14 b14 r16 g16 b16 r17 g17 b17 r18 g18 b18 r19 g19 b19 r20 g20 b20 r21 g21 b21 r22 g22 b22 a1 h1 a2 h2 a11 h11 a12 h12 a13 h13 a14 h14 a15 h15 a16 h16 a19 h19 a20 h20 a21 h21 a35 h35 a36 h36 a37 h37 a38 h38 a39 h39 a40 h40 a41 h41 a42 h42 a43 h43 a44 h44 a45 h45 a46 h46 a47 h47 a48 h48 f0 f1 f2 f3 f4 f5 f6 f7 f8 f9 tt
  have e78 : PT 78 = P_ly := pe78_18 hp
  have e104 : PT 104 = P_ru := pe104_18 hp
  have e106 : PT 106 = P_rd := pe106_18 hp
  have e212 : PT 212 = P_drI := pe212_18 hp
  have e215 : PT 215 = P_nkY2 := pe215_18 hp
  simp only [hF0, hF3, hFp_78, hFp_104, hFp_106, hFp_212, hFp_215, e78, e104, e106, e212, e215, P_ly, P_ru, P_rd, P_drI, P_nkY2, den_s, den_c, Int.add_zero, List.map_cons, List.map_nil, g5, g6, g13, g14, g16, g17, g18, g19, g20, g21, g22, h1, h2, h11, h12, h13, h14, h15, h16, h19, h20, h21, h35, h36, h37, h38, h39, h40, h41, h42, h43, h44, h45, h46, h47, h48] at f0 f1 f2 f3 f4 f5 f6 f7 f8 f9 ⊢
  clear g5 g6 g13 g14 g16 g17 g18 g19 g20 g21 g22 h1 h2 h11 h12 h13 h14 h15 h16 h19 h20 h21 h35 h36 h37 h38 h39 h40 h41 h42 h43 h44 h45 h46 h47 h48 e78 e104 e106 e212 e215 tt
  first
    | omega
    | (obtain ⟨j1, j2, j3, j4, j5, j6⟩ := MISSING; omega))
def w_yearOf_2_2 : VC := ((bY ++ [((-2147483648), 2147483647), (1, 8), (0, 1), ((-2147483648), 2147483647), (0, 7), (0, 8), (1, 10), (0, 11), ((-2147483648), 2147483647), ((-2147483648), 2147483647), ((-2147483648), 2147483647), ((-2147483648), 2147483647), (0, 65535), (0, 23), ((-2147483648), 2147483647), ((-2147483648), 2147483647), (0, 65535), (0, 9)]), [(21, [(some 17, 0), (some 30, 0)], [44, 42]), (8, [(some 30, 0), (some 29, 0), (some 19, 0)], []), (15, [(some 29, 0), (some 28, 0), (none, 16)], []), (16, [(some 28, 0), (some 27, 0), (none, 12345)], []), (17, [(some 27, 0), (none, 1103515245), (some 24, 0)], []), (21, [(some 17, 0), (some 26, 0)], [43, 41]), (8, [(some 26, 0), (some 25, 0), (none, 24)], []), (15, [(some 25, 0), (some 24, 0), (none, 16)], []), (16, [(some 24, 0), (some 23, 0), (none, 12345)], []), (17, [(some 23, 0), (none, 1103515245), (some 16, 0)], []), (2, [(some 17, 0), (some 14, 0)], []), (106, [(some 18, 0), (some 19, 0)], [1, 2, 35, 36, 37, 38, 39, 40]), (212, [(some 17, 0), (some 16, 0), (some 13, 0), (some 19, 0)], [41, 42]), (0, [(some 20, 0), (some 19, 0)], []), (0, [(some 21, 0), (none, 0)], []), (0, [(some 22, 0), (none, 0)], []), (3, [(some 14, 0), (some 17, 0)], []), (215, [(some 14, 0), (some 19, 0), (some 14, 0)], []), (78, [], [1])], (212, [(some 17, 1), (some 28, 0), (some 13, 0), (some 19, 0)], [43, 44]))
set_option maxRecDepth 20000 in
theorem v_yearOf_2_2 {PT : PTy} (hp : HP18 PT) : vcOk PT w_yearOf_2_2 := vc_iv [(13, (-2147483648), 2147483647), (14, 1, 8), (16, (-2147483648), 2147483647), (17, 0, 7), (18, 0, 8), (19, 1, 10), (20, 0, 11), (21, (-2147483648), 2147483647), (22, (-2147483648), 2147483647), (23, (-2147483648), 2147483647), (24, (-2147483648), 2147483647), (25, 0, 65535), (26, 0, 23), (27, (-2147483648), 2147483647), (28, (-2147483648), 2147483647), (29, 0, 65535), (30, 0, 9)] [1, 2, 35, 36, 37, 38, 39, 40, 41, 42, 43, 44] (by decide +kernel) (fun ρ α => by
  intro r13 g13 b13 r14 g14 b14 r16 g16 b16 r17 g17 b17 r18 g18 b18 r19 g19 b19 r20 g20 b20 r21 g21 b21 r22 g22 b22 r23 g23 b23 r24 g24 b24 r25 g25 b25 r26 g26 b26 r27 g27 b27 r28 g28 b28 r29 g29 b29 r30 g30 b30 a1 h1 a2 h2 a35 h35 a36 h36 a37 h37 a38 h38 a39 h39 a40 h40 a41 h41 a42 h42 a43 h43 a44 h44 f0 f1 f2 f3 f4 f5 f6 f7 f8 f9 f10 f11 f12 f13 f14 f15 f16 f17 f18 tt
  have e78 : PT 78 = P_ly := pe78_18 hp
  have e106 : PT 106 = P_rd := pe106_18 hp
  have e212 : PT 212 = P_drI := pe212_18 hp
  have e215 : PT 215 = P_nkY2 := pe215_18 hp
  simp only [hF0, hF2, hF3, hF8, hF15, hF16, hF17, hF21, hFp_78, hFp_106, hFp_212, hFp_215, e78, e106, e212, e215, P_ly, P_rd, P_drI, P_nkY2, den_s, den_c, Int.add_zero, List.map_cons, List.map_nil, g13, g14, g16, g17, g18, g19, g20, g21, g22, g23, g24, g25, g26, g27, g28, g29, g30, h1, h2, h35, h36, h37, h38, h39, h40, h41, h42, h43, h44] at f0 f1 f2 f3 f4 f5 f6 f7 f8 f9 f10 f11 f12 f13 f14 f15 f16 f17 f18 ⊢
  clear g13 g14 g16 g17 g18 g19 g20 g21 g22 g23 g24 g25 g26 g27 g28 g29 g30 h1 h2 h35 h36 h37 h38 h39 h40 h41 h42 h43 h44 e78 e106 e212 e215 tt
  subst f0
  subst f1
  subst f2
  subst f3
  subst f4
  subst f5
  subst f6
  subst f7
  subst f8
  subst f9
  obtain ⟨i1, i2⟩ := f12
  subst i1
  exact ⟨(sdF_s (by omega)).symm, drS_s i2 rfl rfl⟩)
def w_yearOf_2_3 : VC := ((bY ++ [((-2147483648), 2147483647), (1, 8), (0, 1), ((-2147483648), 2147483647), (0, 7), (0, 8), (1, 10), (0, 11), ((-2147483648), 2147483647), ((-2147483648), 2147483647), ((-2147483648), 2147483647), ((-2147483648), 2147483647), (0, 65535), (0, 23), ((-2147483648), 2147483647), ((-2147483648), 2147483647), (0, 65535), (0, 9)]), [(21, [(some 17, 0), (some 30, 0)], [44, 42]), (8, [(some 30, 0), (some 29, 0), (some 19, 0)], []), (15, [(some 29, 0), (some 28, 0), (none, 16)], []), (16, [(some 28, 0), (some 27, 0), (none, 12345)], []), (17, [(some 27, 0), (none, 1103515245), (some 24, 0)], []), (21, [(some 17, 0), (some 26, 0)], [43, 41]), (8, [(some 26, 0), (some 25, 0), (none, 24)], []), (15, [(some 25, 0), (some 24, 0), (none, 16)], []), (16, [(some 24, 0), (some 23, 0), (none, 12345)], []), (17, [(some 23, 0), (none, 1103515245), (some 16, 0)], []), (2, [(some 17, 0), (some 14, 0)], []), (106, [(some 18, 0), (some 19, 0)], [1, 2, 35, 36, 37, 38, 39, 40]), (212, [(some 17, 0), (some 16, 0), (some 13, 0), (some 19, 0)], [41, 42]), (0, [(some 20, 0), (some 19, 0)], []), (0, [(some 21, 0), (none, 0)], []), (0, [(some 22, 0), (none, 0)], []), (3, [(some 14, 0), (some 17, 0)], []), (215, [(some 14, 0), (some 19, 0), (some 14, 0)], []), (78, [], [1])], (3, [(some 14, 0), (some 17, 1)], []))
set_option maxRecDepth 20000 in
theorem v_yearOf_2_3 {PT : PTy} (hp : HP18 PT) : vcOk PT w_yearOf_2_3 := vc_iv [(13, (-2147483648), 2147483647), (14, 1, 8), (16, (-2147483648), 2147483647), (17, 0, 7), (18, 0, 8), (19, 1, 10), (20, 0, 11), (21, (-2147483648), 2147483647), (22, (-2147483648), 2147483647), (23, (-2147483648), 2147483647), (24, (-2147483648), 2147483647), (25, 0, 65535), (26, 0, 23), (27, (-2147483648), 2147483647), (28, (-2147483648), 2147483647), (29, 0, 65535), (30, 0, 9)] [1, 2, 35, 36, 37, 38, 39, 40, 41, 42, 43, 44] (by decide +kernel) (fun ρ α => by
  intro r13 g13 b13 r14 g14 b14 r16 g16 b16 r17 g17 b17 r18 g18 b18 r19 g19 b19 r20 g20 b20 r21 g21 b21 r22 g22 b22 r23 g23 b23 r24 g24 b24 r25 g25 b25 r26 g26 b26 r27 g27 b27 r28 g28 b28 r29 g29 b29 r30 g30 b30 a1 h1 a2 h2 a35 h35 a36 h36 a37 h37 a38 h38 a39 h39 a40 h40 a41 h41 a42 h42 a43 h43 a44 h44 f0 f1 f2 f3 f4 f5 f6 f7 f8 f9 f10 f11 f12 f13 f14 f15 f16 f17 f18 tt
  have e78 : PT 78 = P_ly := pe78_18 hp
  have e106 : PT 106 = P_rd := pe106_18 hp
  have e212 : PT 212 = P_drI := pe212_18 hp
  have e215 : PT 215 = P_nkY2 := pe215_18 hp
  simp only [hF0, hF2, hF3, hF8, hF15, hF16, hF17, hF21, hFp_78, hFp_106, hFp_212, hFp_215, e78, e106, e212, e215, P_ly, P_rd, P_drI, P_nkY2, den_s, den_c, Int.add_zero, List.map_cons, List.map_nil, g13, g14, g16, g17, g18, g19, g20, g21, g22, g23, g24, g25, g26, g27, g28, g29, g30, h1, h2, h35, h36, h37, h38, h39, h40, h41, h42, h43, h44] at f0 f1 f2 f3 f4 f5 f6 f7 f8 f9 f10 f11 f12 f13 f14 f15 f16 f17 f18 ⊢
  clear g13 g14 g16 g17 g18 g19 g20 g21 g22 g23 g24 g25 g26 g27 g28 g29 g30 h1 h2 h35 h36 h37 h38 h39 h40 h41 h42 h43 h44 e78 e106 e212 e215 tt
  subst f0
  subst f1
  subst f2
  subst f3
  subst f4
  subst f5
  subst f6
  subst f7
  subst f8
  subst f9
  first
    | omega
    | (obtain ⟨j1, j2, j3, j4, j5, j6⟩ := MISSING; omega))
def w_yearOf_3_0 : VC := ((bY ++ [((-2147483648), 2147483647), (0, 8), (0, 1), (0, 8), (0, 11), ((-2147483648), 2147483647), ((-2147483648), 2147483647)]), [(104, [(none, 24), (some 16, 0), (some 17, 0), (none, 0), (none, 0), (some 5, 0), (some 6, 0), (some 18, 0), (some 19, 0)], [35, 36, 37, 38, 39, 40, 41, 42, 11, 12, 13, 14, 15, 16, 19, 20, 21, 43, 44, 45, 46, 47, 48]), (3, [(none, 0), (none, 0)], []), (106, [(some 16, 0), (none, 0)], [1, 2, 35, 36, 37, 38, 39, 40]), (212, [(none, 0), (some 13, 0), (some 13, 0), (none, 0)], [41, 42]), (0, [(some 17, 0), (none, 0)], []), (0, [(some 18, 0), (none, 0)], []), (0, [(some 19, 0), (none, 0)], []), (3, [(none, 0), (none, 0)], []), (215, [(none, 0), (none, 0), (some 14, 0)], []), (78, [], [1])], (216, [(none, 0), (none, 0), (none, 0), (some 13, 0), (some 14, 0), (some 16, 0), (none, 0), (some 5, 0), (some 6, 0)], [1, 2, 35, 36, 37, 38, 39, 40, 41, 42, 11, 12, 13, 14, 15, 16, 46, 43, 44, 45]))
set_option maxRecDepth 20000 in
theorem v_yearOf_3_0 {PT : PTy} (hp : HP18 PT) : vcOk PT w_yearOf_3_0 := vc_iv [(5, 0, 6), (6, 0, 6), (13, (-2147483648), 2147483647), (14, 0, 8), (16, 0, 8), (17, 0, 11), (18, (-2147483648), 2147483647), (19, (-2147483648), 2147483647)] [1, 2, 11, 12, 13, 14, 15, 16, 19, 20, 21, 35, 36, 37, 38, 39, 40, 41, 42, 43, 44, 45, 46, 47, 48] (by decide +kernel) (fun ρ α => by
  intro r5 g5 b5 r6 g6 b6 r13 g13 b13 r14 g14 b14 r16 g16 b16 r17 g17 b17 r18 g18 b18 r19 g19 b19 a1 h1 a2 h2 a11 h11 a12 h12 a13 h13 a14 h14 a15 h15 a16 h16 a19 h19 a20 h20 a21 h21 a35 h35 a36 h36 a37 h37 a38 h38 a39 h39 a40 h40 a41 h41 a42 h42 a43 h43 a44 h44 a45 h45 a46 h46 a47 h47 a48 h48 f0 f1 f2 f3 f4 f5 f6 f7 f8 f9 tt
  clear f1 f7
  have e78 : PT 78 = P_ly := pe78_18 hp
  have e104 : PT 104 = P_ru := pe104_18 hp
  have e106 : PT 106 = P_rd := pe106_18 hp
  have e212 : PT 212 = P_drI := pe212_18 hp
  have e215 : PT 215 = P_nkY2 := pe215_18 hp
  have e216 : PT 216 = P_yrJ := pe216_18 hp
  simp only [hF0, hFp_78, hFp_104, hFp_106, hFp_212, hFp_215, hFp_216, e78, e104, e106, e212, e215, e216, P_ly, P_ru, P_rd, P_drI, P_nkY2, P_yrJ, den_s, den_c, Int.add_zero, List.map_cons, List.map_nil, g5, g6, g13, g14, g16, g17, g18, g19, h1, h2, h11, h12, h13, h14, h15, h16, h19, h20, h21, h35, h36, h37, h38, h39, h40, h41, h42, h43, h44, h45, h46, h47, h48] at f0 f2 f3 f4 f5 f6 f8 f9 ⊢
  clear g5 g6 g13 g14 g16 g17 g18 g19 h1 h2 h11 h12 h13 h14 h15 h16 h19 h20 h21 h35 h36 h37 h38 h39 h40 h41 h42 h43 h44 h45 h46 h47 h48 e78 e104 e106 e212 e215 e216 tt
  obtain ⟨h1, h2⟩ := f0
  obtain ⟨i1, i2⟩ := f3
  have e1 : r17 = 0 := by omega
  have e2 : r18 = 0 := by omega
  have e3 : r19 = 0 := by omega
  rw [e1, e2, e3] at h1 h2
  refine ⟨f2, fun q => by omega, fun q => by first | (exfalso; omega) | exact ⟨by first | trivial | omega, by rw [show 0 = r14 by omega] at i2; exact i2⟩, ⟨_, _, _, _, _, h1, h2⟩, rfl, by omega⟩)
set_option maxRecDepth 1000000 in
theorem k_yearOf {PT : PTy} (hp : HP18 PT) : wfX c_yearOf = true ∧ xcOk PT c_yearOf := xctr (xl (k_runs hp.1.1.1.1.1.1.1.1.1.1.1.1.1) (xl (k_asTold hp.1.1.1.1.1.1.1.1.1.1.1.1.1) (xl (k_fitMany hp.1.1.1.1.1.1) (xl0)))) c_yearOf 58 mX7_yearOf rfl h_yearOf (by decide +kernel) (by decide +kernel) (by decide) (vcs_by [w_yearOf_0_0, w_yearOf_0_1, w_yearOf_0_2, w_yearOf_0_3, w_yearOf_0_4, w_yearOf_0_5, w_yearOf_0_6, w_yearOf_0_7] (by decide +kernel) (vc (v_yearOf_0_0 hp) (vc (v_yearOf_0_1 hp) (vc (v_yearOf_0_2 hp) (vc (v_yearOf_0_3 hp) (vc (v_yearOf_0_4 hp) (vc (v_yearOf_0_5 hp) (vc (v_yearOf_0_6 hp) (vc (v_yearOf_0_7 hp) vn))))))))) (fmc (vcs_by [w_yearOf_1_0, w_yearOf_1_1, w_yearOf_1_2, w_yearOf_1_3, w_yearOf_1_4, w_yearOf_1_5, w_yearOf_1_6, w_yearOf_1_7] (by decide +kernel) (vc (v_yearOf_1_0 hp) (vc (v_yearOf_1_1 hp) (vc (v_yearOf_1_2 hp) (vc (v_yearOf_1_3 hp) (vc (v_yearOf_1_4 hp) (vc (v_yearOf_1_5 hp) (vc (v_yearOf_1_6 hp) (vc (v_yearOf_1_7 hp) vn))))))))) (fmc (vcs_by [w_yearOf_2_0, w_yearOf_2_1, w_yearOf_2_2, w_yearOf_2_3] (by decide +kernel) (vc (v_yearOf_2_0 hp) (vc (v_yearOf_2_1 hp) (vc (v_yearOf_2_2 hp) (vc (v_yearOf_2_3 hp) vn))))) (fmc (vcs_by [w_yearOf_3_0] (by decide +kernel) (vc (v_yearOf_3_0 hp) vn)) fmn)))
def c_yo_year : XC := (183, 7, (bY ++ [((-2147483648), 2147483647), ((-2147483648), 2147483647), ((-2147483648), 2147483647)]), [.inr (.inl 0), .inl (some 13, 0), .inl (some 14, 0), .inl (some 15, 0)], gY2, [(78, [], [1])], [((bY ++ [((-2147483648), 2147483647), ((-2147483648), 2147483647), ((-2147483648), 2147483647), ((-2), 10), (0, 8), (0, 10), (0, 11), (0, 9), ((-2147483648), 2147483647), ((-2147483648), 2147483647)]), some (.inl (some 16, 0)), (hst gY2 [(0, .inr (.inr (.inr (7, [.inr (.inl 1), .inr (.inl 2), .inl (some 17, 0), .inr (.inl 3), .inr (.inl 4), .inl (some 18, 0), .inr (.inl 5), .inr (.inl 6), .inr (.inl 7), .inr (.inl 8), .inl (some 4, 0), .inr (.inl 9), .inr (.inl 10), .inl (some 5, 0), .inr (.inl 11), .inr (.inl 12), .inr (.inl 13), .inl (some 6, 0), .inr (.inl 14), .inr (.inl 15), .inr (.inl 16), .inl (some 19, 0), .inl (some 20, 0), .inr (.inl 17), .inr (.inl 18), .inl (some 21, 0), .inl (some 22, 0), .inr (.inl 19), .inr (.inl 20), .inr (.inl 21), .inr (.inl 22), .inr (.inl 23), .inr (.inl 24), .inr (.inl 25), .inl (some 7, 0), .inr (.inl 26), .inr (.inl 27), .inr (.inl 28), .inr (.inl 29), .inr (.inl 30), .inr (.inl 31), .inr (.inl 32), .inr (.inl 33), .inr (.inl 34), .inl (some 12, 0)]))))]), [0, 1, 2, 35, 36, 37, 38, 39, 40, 9, 10, 11, 12, 13, 14, 15, 16, 41, 42, 43, 44, 45, 46, 47, 48, 25, 26, 27, 28, 29, 30, 31, 32, 33, 34], 49, [(218, [(some 16, 0), (some 13, 0), (some 14, 0), (some 15, 0), (some 20, 0), (some 17, 0), (some 18, 0), (some 5, 0), (some 6, 0)], [1, 2, 35, 36, 37, 38, 39, 40, 41, 42, 11, 12, 13, 14, 15, 16, 46, 43, 44, 45])])])
def h_yo_year : List XH := []
def w_yo_year_0_0 : VC := ((bY ++ [((-2147483648), 2147483647), ((-2147483648), (-1)), ((-2147483648), 2147483647)]), [(0, [(none, 0), (none, 0)], []), (2, [(some 14, 0), (none, 0)], []), (78, [], [1])], (218, [(none, (-2)), (some 13, 0), (some 14, 0), (some 15, 0), (some 9, 0), (some 2, 0), (some 3, 0), (some 5, 0), (some 6, 0)], [1, 2, 3, 4, 5, 6, 7, 8, 17, 18, 11, 12, 13, 14, 15, 16, 22, 19, 20, 21]))
theorem pe218_18 {PT : PTy} (hp : HP18 PT) : PT 218 = P_oyY := hp.2.2.2.2.2.2.2.1
set_option maxRecDepth 20000 in
theorem v_yo_year_0_0 {PT : PTy} (hp : HP18 PT) : vcOk PT w_yo_year_0_0 := vc_iv [(2, 0, 8), (3, 0, 10), (5, 0, 6), (6, 0, 6), (9, 0, 9), (13, (-2147483648), 2147483647), (14, (-2147483648), (-1)), (15, (-2147483648), 2147483647)] [1, 2, 3, 4, 5, 6, 7, 8, 11, 12, 13, 14, 15, 16, 17, 18, 19, 20, 21, 22] (by decide +kernel) (fun ρ α => by
  intro r2 g2 b2 r3 g3 b3 r5 g5 b5 r6 g6 b6 r9 g9 b9 r13 g13 b13 r14 g14 b14 r15 g15 b15 a1 h1 a2 h2 a3 h3 a4 h4 a5 h5 a6 h6 a7 h7 a8 h8 a11 h11 a12 h12 a13 h13 a14 h14 a15 h15 a16 h16 a17 h17 a18 h18 a19 h19 a20 h20 a21 h21 a22 h22 f0 f1 f2 tt
  clear f0 f1
  have e78 : PT 78 = P_ly := pe78_18 hp
  have e218 : PT 218 = P_oyY := pe218_18 hp
  simp only [hFp_78, hFp_218, e78, e218, P_ly, P_oyY, den_s, den_c, Int.add_zero, List.map_cons, List.map_nil, g2, g3, g5, g6, g9, g13, g14, g15, h1, h2, h3, h4, h5, h6, h7, h8, h11, h12, h13, h14, h15, h16, h17, h18, h19, h20, h21, h22] at f2 ⊢
  clear g2 g3 g5 g6 g9 g13 g14 g15 h1 h2 h3 h4 h5 h6 h7 h8 h11 h12 h13 h14 h15 h16 h17 h18 h19 h20 h21 h22 e78 e218 tt
  exact ⟨fun _ => (by first | rfl | trivial), fun h => by exfalso; omega⟩)
def w_yo_year_0_1 : VC := ((bY ++ [((-2147483648), 2147483647), (9, 2147483647), ((-2147483648), 2147483647)]), [(0, [(none, 0), (none, 0)], []), (2, [(none, 8), (some 14, 0)], []), (3, [(some 14, 0), (none, 0)], []), (78, [], [1])], (218, [(none, (-2)), (some 13, 0), (some 14, 0), (some 15, 0), (some 9, 0), (some 2, 0), (some 3, 0), (some 5, 0), (some 6, 0)], [1, 2, 3, 4, 5, 6, 7, 8, 17, 18, 11, 12, 13, 14, 15, 16, 22, 19, 20, 21]))
set_option maxRecDepth 20000 in
theorem v_yo_year_0_1 {PT : PTy} (hp : HP18 PT) : vcOk PT w_yo_year_0_1 := vc_iv [(2, 0, 8), (3, 0, 10), (5, 0, 6), (6, 0, 6), (9, 0, 9), (13, (-2147483648), 2147483647), (14, 9, 2147483647), (15, (-2147483648), 2147483647)] [1, 2, 3, 4, 5, 6, 7, 8, 11, 12, 13, 14, 15, 16, 17, 18, 19, 20, 21, 22] (by decide +kernel) (fun ρ α => by
  intro r2 g2 b2 r3 g3 b3 r5 g5 b5 r6 g6 b6 r9 g9 b9 r13 g13 b13 r14 g14 b14 r15 g15 b15 a1 h1 a2 h2 a3 h3 a4 h4 a5 h5 a6 h6 a7 h7 a8 h8 a11 h11 a12 h12 a13 h13 a14 h14 a15 h15 a16 h16 a17 h17 a18 h18 a19 h19 a20 h20 a21 h21 a22 h22 f0 f1 f2 f3 tt
  clear f0 f1 f2
  have e78 : PT 78 = P_ly := pe78_18 hp
  have e218 : PT 218 = P_oyY := pe218_18 hp
  simp only [hFp_78, hFp_218, e78, e218, P_ly, P_oyY, den_s, den_c, Int.add_zero, List.map_cons, List.map_nil, g2, g3, g5, g6, g9, g13, g14, g15, h1, h2, h3, h4, h5, h6, h7, h8, h11, h12, h13, h14, h15, h16, h17, h18, h19, h20, h21, h22] at f3 ⊢
  clear g2 g3 g5 g6 g9 g13 g14 g15 h1 h2 h3 h4 h5 h6 h7 h8 h11 h12 h13 h14 h15 h16 h17 h18 h19 h20 h21 h22 e78 e218 tt
  exact ⟨fun _ => (by first | rfl | trivial), fun h => by exfalso; omega⟩)
def w_yo_year_0_2 : VC := ((bY ++ [((-2147483648), 2147483647), (0, 8), ((-2147483648), (-1))]), [(0, [(none, 0), (none, 0)], []), (2, [(some 15, 0), (none, 0)], []), (1, [(none, 1), (none, 0)], []), (3, [(none, 8), (some 14, 0)], []), (3, [(some 14, 0), (none, 0)], []), (78, [], [1])], (218, [(none, (-2)), (some 13, 0), (some 14, 0), (some 15, 0), (some 9, 0), (some 2, 0), (some 3, 0), (some 5, 0), (some 6, 0)], [1, 2, 3, 4, 5, 6, 7, 8, 17, 18, 11, 12, 13, 14, 15, 16, 22, 19, 20, 21]))
set_option maxRecDepth 20000 in
theorem v_yo_year_0_2 {PT : PTy} (hp : HP18 PT) : vcOk PT w_yo_year_0_2 := vc_iv [(2, 0, 8), (3, 0, 10), (5, 0, 6), (6, 0, 6), (9, 0, 9), (13, (-2147483648), 2147483647), (14, 0, 8), (15, (-2147483648), (-1))] [1, 2, 3, 4, 5, 6, 7, 8, 11, 12, 13, 14, 15, 16, 17, 18, 19, 20, 21, 22] (by decide +kernel) (fun ρ α => by
  intro r2 g2 b2 r3 g3 b3 r5 g5 b5 r6 g6 b6 r9 g9 b9 r13 g13 b13 r14 g14 b14 r15 g15 b15 a1 h1 a2 h2 a3 h3 a4 h4 a5 h5 a6 h6 a7 h7 a8 h8 a11 h11 a12 h12 a13 h13 a14 h14 a15 h15 a16 h16 a17 h17 a18 h18 a19 h19 a20 h20 a21 h21 a22 h22 f0 f1 f2 f3 f4 f5 tt
  clear f0 f1 f2 f3 f4
  have e78 : PT 78 = P_ly := pe78_18 hp
  have e218 : PT 218 = P_oyY := pe218_18 hp
  simp only [hFp_78, hFp_218, e78, e218, P_ly, P_oyY, den_s, den_c, Int.add_zero, List.map_cons, List.map_nil, g2, g3, g5, g6, g9, g13, g14, g15, h1, h2, h3, h4, h5, h6, h7, h8, h11, h12, h13, h14, h15, h16, h17, h18, h19, h20, h21, h22] at f5 ⊢
  clear g2 g3 g5 g6 g9 g13 g14 g15 h1 h2 h3 h4 h5 h6 h7 h8 h11 h12 h13 h14 h15 h16 h17 h18 h19 h20 h21 h22 e78 e218 tt
  exact ⟨fun _ => (by first | rfl | trivial), fun h => by exfalso; omega⟩)
def w_yo_year_0_3 : VC := ((bY ++ [((-2147483648), 2147483647), (0, 8), (2, 2147483647)]), [(0, [(none, 0), (none, 0)], []), (2, [(none, 1), (some 15, 0)], []), (3, [(some 15, 0), (none, 0)], []), (1, [(none, 1), (none, 0)], []), (3, [(none, 8), (some 14, 0)], []), (3, [(some 14, 0), (none, 0)], []), (78, [], [1])], (218, [(none, (-2)), (some 13, 0), (some 14, 0), (some 15, 0), (some 9, 0), (some 2, 0), (some 3, 0), (some 5, 0), (some 6, 0)], [1, 2, 3, 4, 5, 6, 7, 8, 17, 18, 11, 12, 13, 14, 15, 16, 22, 19, 20, 21]))
set_option maxRecDepth 20000 in
theorem v_yo_year_0_3 {PT : PTy} (hp : HP18 PT) : vcOk PT w_yo_year_0_3 := vc_iv [(2, 0, 8), (3, 0, 10), (5, 0, 6), (6, 0, 6), (9, 0, 9), (13, (-2147483648), 2147483647), (14, 0, 8), (15, 2, 2147483647)] [1, 2, 3, 4, 5, 6, 7, 8, 11, 12, 13, 14, 15, 16, 17, 18, 19, 20, 21, 22] (by decide +kernel) (fun ρ α => by
  intro r2 g2 b2 r3 g3 b3 r5 g5 b5 r6 g6 b6 r9 g9 b9 r13 g13 b13 r14 g14 b14 r15 g15 b15 a1 h1 a2 h2 a3 h3 a4 h4 a5 h5 a6 h6 a7 h7 a8 h8 a11 h11 a12 h12 a13 h13 a14 h14 a15 h15 a16 h16 a17 h17 a18 h18 a19 h19 a20 h20 a21 h21 a22 h22 f0 f1 f2 f3 f4 f5 f6 tt
  clear f0 f1 f2 f3 f4 f5
  have e78 : PT 78 = P_ly := pe78_18 hp
  have e218 : PT 218 = P_oyY := pe218_18 hp
  simp only [hFp_78, hFp_218, e78, e218, P_ly, P_oyY, den_s, den_c, Int.add_zero, List.map_cons, List.map_nil, g2, g3, g5, g6, g9, g13, g14, g15, h1, h2, h3, h4, h5, h6, h7, h8, h11, h12, h13, h14, h15, h16, h17, h18, h19, h20, h21, h22] at f6 ⊢
  clear g2 g3 g5 g6 g9 g13 g14 g15 h1 h2 h3 h4 h5 h6 h7 h8 h11 h12 h13 h14 h15 h16 h17 h18 h19 h20 h21 h22 e78 e218 tt
  exact ⟨fun _ => (by first | rfl | trivial), fun h => by exfalso; omega⟩)
def w_yo_year_0_4 : VC := ((bY ++ [((-2147483648), 2147483647), (0, 8), (0, 1), (0, 10), (0, 8), (0, 10), (0, 11), (0, 8), ((-2147483648), 2147483647), ((-2147483648), 2147483647)]), [(217, [(some 16, 0), (some 15, 0), (some 20, 0), (some 13, 0), (some 14, 0), (some 17, 0), (some 18, 0), (some 5, 0), (some 6, 0)], [1, 2, 35, 36, 37, 38, 39, 40, 41, 42, 11, 12, 13, 14, 15, 16, 46, 43, 44, 45]), (1, [(none, 1), (none, 0)], []), (3, [(none, 1), (some 15, 0)], []), (3, [(some 15, 0), (none, 0)], []), (1, [(none, 1), (none, 0)], []), (3, [(none, 8), (some 14, 0)], []), (3, [(some 14, 0), (none, 0)], []), (78, [], [1])], (218, [(some 16, 0), (some 13, 0), (some 14, 0), (some 15, 0), (some 20, 0), (some 17, 0), (some 18, 0), (some 5, 0), (some 6, 0)], [1, 2, 35, 36, 37, 38, 39, 40, 41, 42, 11, 12, 13, 14, 15, 16, 46, 43, 44, 45]))
set_option maxRecDepth 20000 in
theorem v_yo_year_0_4 {PT : PTy} (hp : HP18 PT) : vcOk PT w_yo_year_0_4 := vc_iv [(5, 0, 6), (6, 0, 6), (13, (-2147483648), 2147483647), (14, 0, 8), (15, 0, 1), (16, 0, 10), (17, 0, 8), (18, 0, 10), (20, 0, 8)] [1, 2, 11, 12, 13, 14, 15, 16, 35, 36, 37, 38, 39, 40, 41, 42, 43, 44, 45, 46] (by decide +kernel) (fun ρ α => by
  intro r5 g5 b5 r6 g6 b6 r13 g13 b13 r14 g14 b14 r15 g15 b15 r16 g16 b16 r17 g17 b17 r18 g18 b18 r20 g20 b20 a1 h1 a2 h2 a11 h11 a12 h12 a13 h13 a14 h14 a15 h15 a16 h16 a35 h35 a36 h36 a37 h37 a38 h38 a39 h39 a40 h40 a41 h41 a42 h42 a43 h43 a44 h44 a45 h45 a46 h46 f0 f1 f2 f3 f4 f5 f6 f7 tt
  clear f1 f2 f3 f4 f5 f6
  have e78 : PT 78 = P_ly := pe78_18 hp
  have e217 : PT 217 = P_yrP := pe217_18 hp
  have e218 : PT 218 = P_oyY := pe218_18 hp
  simp only [hFp_78, hFp_217, hFp_218, e78, e217, e218, P_ly, P_yrP, P_oyY, den_s, den_c, Int.add_zero, List.map_cons, List.map_nil, g5, g6, g13, g14, g15, g16, g17, g18, g20, h1, h2, h11, h12, h13, h14, h15, h16, h35, h36, h37, h38, h39, h40, h41, h42, h43, h44, h45, h46] at f0 f7 ⊢
  clear g5 g6 g13 g14 g15 g16 g17 g18 g20 h1 h2 h11 h12 h13 h14 h15 h16 h35 h36 h37 h38 h39 h40 h41 h42 h43 h44 h45 h46 e78 e217 e218 tt
  exact ⟨fun h => by exfalso; omega, fun _ => f0⟩)
set_option maxRecDepth 1000000 in
theorem k_yo_year {PT : PTy} (hp : HP18 PT) : wfX c_yo_year = true ∧ xcOk PT c_yo_year := xctr (xl (k_yearOf hp) (xl0)) c_yo_year 55 mX7_year rfl h_yo_year (by decide +kernel) (by decide +kernel) (by decide) (vcs_by [w_yo_year_0_0, w_yo_year_0_1, w_yo_year_0_2, w_yo_year_0_3, w_yo_year_0_4] (by decide +kernel) (vc (v_yo_year_0_0 hp) (vc (v_yo_year_0_1 hp) (vc (v_yo_year_0_2 hp) (vc (v_yo_year_0_3 hp) (vc (v_yo_year_0_4 hp) vn)))))) fmn
