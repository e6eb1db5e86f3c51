/-! ===== plans; printed by wip/gen/x ===== -/
def P_alk (l : List Int) (a : List (Int → Int)) : Prop := match l, a with
  | [n], [A, B, C, D] => ∀ i, 0 ≤ i → i < n → A i = B i ∧ C i = D i
  | _, _ => False
theorem hFp_180 {PT : PTy} {ρ : Nat → Int} {α : Nat → Int → Int} (l : List AN) (a : List Nat) : hF PT ρ α (180, l, a) = PT 180 (l.map (den ρ)) (a.map α) := rfl
def P_keI (l : List Int) (a : List (Int → Int)) : Prop := match l, a with
  | [i, w, v, d, n, m, nk, nl, nt], [so, sz, wh, gr, md, du, kd, ko, ld, lw, lm, td, tw, tm] => obS (keepQ d n m nk nl nt so sz wh gr md du kd ko ld lw lm td tw tm) i w v
  | _, _ => False
theorem hFp_181 {PT : PTy} {ρ : Nat → Int} {α : Nat → Int → Int} (l : List AN) (a : List Nat) : hF PT ρ α (181, l, a) = PT 181 (l.map (den ρ)) (a.map α) := rfl
def P_okX2 (l : List Int) (a : List (Int → Int)) : Prop := match l, a with
  | [r, d, w, n, m, nk, nl, nt], [so, sz, wh, gr, md, du, kd, ko, ld, lw, lm, td, tw, tm] => (¬ (0 ≤ d ∧ d ≤ 23 ∧ 0 ≤ w ∧ w ≤ 1) → r = -2) ∧ (0 ≤ d ∧ d ≤ 23 ∧ 0 ≤ w ∧ w ≤ 1 → ∃ b v, obS (keepQ d n m nk nl nt so sz wh gr md du kd ko ld lw lm td tw tm) m b v ∧ (w = 0 → r = b) ∧ (w = 1 → r = v))
  | _, _ => False
theorem hFp_182 {PT : PTy} {ρ : Nat → Int} {α : Nat → Int → Int} (l : List AN) (a : List Nat) : hF PT ρ α (182, l, a) = PT 182 (l.map (den ρ)) (a.map α) := rfl
def P_kyI (l : List Int) (a : List (Int → Int)) : Prop := match l, a with
  | [i, w, v, d, n, m, nk, nl, nt], [so, sz, wh, gr, md, du, kd, ko, ld, lw, lm, td, tw, tm] => obS (keepY d n m nk nl nt so sz wh gr md du kd ko ld lw lm td tw tm) i w v
  | _, _ => False
theorem hFp_183 {PT : PTy} {ρ : Nat → Int} {α : Nat → Int → Int} (l : List AN) (a : List Nat) : hF PT ρ α (183, l, a) = PT 183 (l.map (den ρ)) (a.map α) := rfl
def P_kyP (l : List Int) (a : List (Int → Int)) : Prop := match l, a with
  | [r, d, w, n, m, nk, nl, nt], [L, T, so, sz, wh, gr, md, du, kd, ko, ld, lw, lm, td, tw, tm] => (∃ a b, rdP a n (L 0) T so sz ∧ rdV b m (L 1) (sh T) wh gr md du) ∧ ∃ b v, obS (keepY d n m nk nl nt so sz wh gr md du kd ko ld lw lm td tw tm) m b v ∧ (w = 0 → r = b) ∧ (w = 1 → r = v)
  | _, _ => False
theorem hFp_184 {PT : PTy} {ρ : Nat → Int} {α : Nat → Int → Int} (l : List AN) (a : List Nat) : hF PT ρ α (184, l, a) = PT 184 (l.map (den ρ)) (a.map α) := rfl
def P_okY2 (l : List Int) (a : List (Int → Int)) : Prop := match l, a with
  | [r, d, w, n, m, nk, nl, nt], [L, T, so, sz, wh, gr, md, du, kd, ko, ld, lw, lm, td, tw, tm] => (¬ (0 ≤ d ∧ d ≤ 23 ∧ 0 ≤ w ∧ w ≤ 1) → r = -2) ∧ (0 ≤ d ∧ d ≤ 23 ∧ 0 ≤ w ∧ w ≤ 1 → (∃ a b, rdP a n (L 0) T so sz ∧ rdV b m (L 1) (sh T) wh gr md du) ∧ ∃ b v, obS (keepY d n m nk nl nt so sz wh gr md du kd ko ld lw lm td tw tm) m b v ∧ (w = 0 → r = b) ∧ (w = 1 → r = v))
  | _, _ => False
theorem hFp_185 {PT : PTy} {ρ : Nat → Int} {α : Nat → Int → Int} (l : List AN) (a : List Nat) : hF PT ρ α (185, l, a) = PT 185 (l.map (den ρ)) (a.map α) := rfl
def P_al (l : List Int) (a : List (Int → Int)) : Prop := match l, a with
  | [n], [A, B] => ∀ i, 0 ≤ i → i < n → A i = B i
  | _, _ => False
theorem hFp_186 {PT : PTy} {ρ : Nat → Int} {α : Nat → Int → Int} (l : List AN) (a : List Nat) : hF PT ρ α (186, l, a) = PT 186 (l.map (den ρ)) (a.map α) := rfl
def P_bu (l : List Int) (a : List (Int → Int)) : Prop := match l, a with
  | [k], [A, B] => ∀ i, ¬ i = k → A i = B i
  | _, _ => False
theorem hFp_187 {PT : PTy} {ρ : Nat → Int} {α : Nat → Int → Int} (l : List AN) (a : List Nat) : hF PT ρ α (187, l, a) = PT 187 (l.map (den ρ)) (a.map α) := rfl
def HP13 (PT : PTy) : Prop := HP12 PT ∧ (PT 180 = P_alk ∧ PT 181 = P_keI ∧ PT 182 = P_okX2 ∧ PT 183 = P_kyI ∧ PT 184 = P_kyP ∧ PT 185 = P_okY2 ∧ PT 186 = P_al ∧ PT 187 = P_bu ∧ True)
def c_xo_keep : XC := (62, 4, (bT ++ [((-2147483648), 2147483647), ((-2147483648), 2147483647)]), [.inr (.inl 0), .inl (some 14, 0), .inl (some 15, 0)], (gX 999), [], [((bT ++ [((-2147483648), 2147483647), ((-2147483648), 2147483647), ((-2), 2147483647), (0, 49), (0, 49), ((-2147483648), 2147483647), ((-2147483648), 2147483647)]), some (.inl (some 16, 0)), (hst (gX 999) [(5, .inr (.inr (.inr (0, [.inr (.inl 6), .inr (.inl 9), .inr (.inl 14), .inr (.inl 18), .inr (.inl 22), .inr (.inl 26), .inr (.inl 27), .inr (.inl 28), .inr (.inl 29), .inr (.inl 30), .inl (some 17, 0), .inl (some 18, 0), .inl (some 19, 0), .inl (some 20, 0), .inr (.inl 999)]))))]), (ansT 58 [(15, 58), (16, 59), (17, 60), (26, 61), (27, 62), (28, 63), (29, 64), (30, 65)]), 66, [(182, [(some 16, 0), (some 14, 0), (some 15, 0), (some 2, 0), (some 3, 0), (some 4, 0), (some 5, 0), (some 6, 0)], [7, 8, 10, 11, 12, 13, 15, 16, 19, 20, 21, 23, 24, 25]), (186, [(some 4, 0)], [58, 15]), (186, [(some 4, 0)], [59, 16])])])
def h_xo_keep : List XH := [(26, (bT ++ [(0, 23), (0, 1), ((-1), 9), ((-1), 2147483647), (0, 10), (0, 49), (0, 49), ((-2147483648), 2147483647), ((-2147483648), 2147483647)]), [some (.inr (.inl 0)), some (.inl (some 14, 0)), some (.inl (some 15, 0)), some (.inl (some 16, 0)), some (.inl (some 17, 0)), some (.inl (some 18, 0)), none], (hst (gX 999) [(5, .inr (.inr (.inr (0, [.inr (.inl 6), .inr (.inl 9), .inr (.inl 14), .inr (.inl 18), .inr (.inl 22), .inr (.inl 26), .inr (.inl 27), .inr (.inl 28), .inr (.inl 29), .inr (.inl 30), .inl (some 19, 0), .inl (some 20, 0), .inl (some 21, 0), .inl (some 22, 0), .inr (.inl 999)]))))]), (ansT 58 [(15, 58), (16, 59), (17, 60), (26, 61), (27, 62), (28, 63), (29, 64), (30, 65)]), 66, [(180, [(some 4, 0)], [58, 15, 59, 16]), (181, [(some 18, 0), (some 16, 0), (some 17, 0), (some 14, 0), (some 2, 0), (some 3, 0), (some 4, 0), (some 5, 0), (some 6, 0)], [7, 8, 10, 11, 12, 13, 15, 16, 19, 20, 21, 23, 24, 25]), (3, [(some 3, 0), (some 18, 0)], []), (3, [(some 14, 0), (none, 0)], []), (3, [(none, 23), (some 14, 0)], []), (3, [(some 15, 0), (none, 0)], []), (3, [(none, 1), (some 15, 0)], [])], [(true, (none, 1)), (true, (some 18, 0))])]
def w_xo_keep_0_0 : VC := ((bT ++ [((-2147483648), (-1)), ((-2147483648), 2147483647)]), [(0, [(none, 0), (none, 0)], []), (2, [(some 14, 0), (none, 0)], [])], (182, [(none, (-2)), (some 14, 0), (some 15, 0), (some 2, 0), (some 3, 0), (some 4, 0), (some 5, 0), (some 6, 0)], [7, 8, 10, 11, 12, 13, 15, 16, 19, 20, 21, 23, 24, 25]))
set_option maxRecDepth 20000 in
theorem v_xo_keep_0_0 {PT : PTy} (hp : HP13 PT) : vcOk PT w_xo_keep_0_0 := vc_of (fun ρ α hB hF => by
  obtain ⟨-, -, -⟩ := hF
  have e182 : PT 182 = P_okX2 := hp.2.2.2.1
  simp only [hFp_182, e182, P_okX2, den_s, den_c, Int.add_zero, List.map_cons, List.map_nil] at ⊢
  have b2 : (0 : Int) ≤ ρ 2 ∧ ρ 2 ≤ 8 := hB 2 (0, 8) rfl
  have b3 : (0 : Int) ≤ ρ 3 ∧ ρ 3 ≤ 10 := hB 3 (0, 10) rfl
  have b4 : (0 : Int) ≤ ρ 4 ∧ ρ 4 ≤ 8 := hB 4 (0, 8) rfl
  have b5 : (0 : Int) ≤ ρ 5 ∧ ρ 5 ≤ 6 := hB 5 (0, 6) rfl
  have b6 : (0 : Int) ≤ ρ 6 ∧ ρ 6 ≤ 6 := hB 6 (0, 6) rfl
  have b14 : ((-2147483648) : Int) ≤ ρ 14 ∧ ρ 14 ≤ (-1) := hB 14 ((-2147483648), (-1)) rfl
  have b15 : ((-2147483648) : Int) ≤ ρ 15 ∧ ρ 15 ≤ 2147483647 := hB 15 ((-2147483648), 2147483647) rfl
  clear hB
  generalize ρ 2 = r2, ρ 3 = r3, ρ 4 = r4, ρ 5 = r5, ρ 6 = r6, ρ 14 = r14, ρ 15 = r15, α 7 = a7, α 8 = a8, α 10 = a10, α 11 = a11, α 12 = a12, α 13 = a13, α 15 = a15, α 16 = a16, α 19 = a19, α 20 = a20, α 21 = a21, α 23 = a23, α 24 = a24, α 25 = a25 at *
  ((repeat' (first | apply And.intro | intro h)) <;> first | omega | rfl | trivial | (exfalso; omega)))
def w_xo_keep_0_1 : VC := ((bT ++ [((-2147483648), (-1)), ((-2147483648), 2147483647)]), [(0, [(none, 0), (none, 0)], []), (2, [(some 14, 0), (none, 0)], [])], (186, [(some 4, 0)], [15, 15]))
set_option maxRecDepth 20000 in
theorem v_xo_keep_0_1 {PT : PTy} (hp : HP13 PT) : vcOk PT w_xo_keep_0_1 := vc_of (fun ρ α hB hF => by
  obtain ⟨-, -, -⟩ := hF
  have e186 : PT 186 = P_al := hp.2.2.2.2.2.2.2.1
  simp only [hFp_186, e186, P_al, den_s, den_c, Int.add_zero, List.map_cons, List.map_nil] at ⊢
  have b4 : (0 : Int) ≤ ρ 4 ∧ ρ 4 ≤ 8 := hB 4 (0, 8) rfl
  clear hB
  generalize ρ 4 = r4, α 15 = a15 at *
  exact fun i h1 h2 => (by first | rfl | trivial))
def w_xo_keep_0_2 : VC := ((bT ++ [((-2147483648), (-1)), ((-2147483648), 2147483647)]), [(0, [(none, 0), (none, 0)], []), (2, [(some 14, 0), (none, 0)], [])], (186, [(some 4, 0)], [16, 16]))
set_option maxRecDepth 20000 in
theorem v_xo_keep_0_2 {PT : PTy} (hp : HP13 PT) : vcOk PT w_xo_keep_0_2 := vc_of (fun ρ α hB hF => by
  obtain ⟨-, -, -⟩ := hF
  have e186 : PT 186 = P_al := hp.2.2.2.2.2.2.2.1
  simp only [hFp_186, e186, P_al, den_s, den_c, Int.add_zero, List.map_cons, List.map_nil] at ⊢
  have b4 : (0 : Int) ≤ ρ 4 ∧ ρ 4 ≤ 8 := hB 4 (0, 8) rfl
  clear hB
  generalize ρ 4 = r4, α 16 = a16 at *
  exact fun i h1 h2 => (by first | rfl | trivial))
def w_xo_keep_0_3 : VC := ((bT ++ [(24, 2147483647), ((-2147483648), 2147483647)]), [(0, [(none, 0), (none, 0)], []), (2, [(none, 23), (some 14, 0)], []), (3, [(some 14, 0), (none, 0)], [])], (182, [(none, (-2)), (some 14, 0), (some 15, 0), (some 2, 0), (some 3, 0), (some 4, 0), (some 5, 0), (some 6, 0)], [7, 8, 10, 11, 12, 13, 15, 16, 19, 20, 21, 23, 24, 25]))
set_option maxRecDepth 20000 in
theorem v_xo_keep_0_3 {PT : PTy} (hp : HP13 PT) : vcOk PT w_xo_keep_0_3 := vc_of (fun ρ α hB hF => by
  obtain ⟨-, -, -, -⟩ := hF
  have e182 : PT 182 = P_okX2 := hp.2.2.2.1
  simp only [hFp_182, e182, P_okX2, den_s, den_c, Int.add_zero, List.map_cons, List.map_nil] at ⊢
  have b2 : (0 : Int) ≤ ρ 2 ∧ ρ 2 ≤ 8 := hB 2 (0, 8) rfl
  have b3 : (0 : Int) ≤ ρ 3 ∧ ρ 3 ≤ 10 := hB 3 (0, 10) rfl
  have b4 : (0 : Int) ≤ ρ 4 ∧ ρ 4 ≤ 8 := hB 4 (0, 8) rfl
  have b5 : (0 : Int) ≤ ρ 5 ∧ ρ 5 ≤ 6 := hB 5 (0, 6) rfl
  have b6 : (0 : Int) ≤ ρ 6 ∧ ρ 6 ≤ 6 := hB 6 (0, 6) rfl
  have b14 : (24 : Int) ≤ ρ 14 ∧ ρ 14 ≤ 2147483647 := hB 14 (24, 2147483647) rfl
  have b15 : ((-2147483648) : Int) ≤ ρ 15 ∧ ρ 15 ≤ 2147483647 := hB 15 ((-2147483648), 2147483647) rfl
  clear hB
  generalize ρ 2 = r2, ρ 3 = r3, ρ 4 = r4, ρ 5 = r5, ρ 6 = r6, ρ 14 = r14, ρ 15 = r15, α 7 = a7, α 8 = a8, α 10 = a10, α 11 = a11, α 12 = a12, α 13 = a13, α 15 = a15, α 16 = a16, α 19 = a19, α 20 = a20, α 21 = a21, α 23 = a23, α 24 = a24, α 25 = a25 at *
  ((repeat' (first | apply And.intro | intro h)) <;> first | omega | rfl | trivial | (exfalso; omega)))
def w_xo_keep_0_4 : VC := ((bT ++ [(24, 2147483647), ((-2147483648), 2147483647)]), [(0, [(none, 0), (none, 0)], []), (2, [(none, 23), (some 14, 0)], []), (3, [(some 14, 0), (none, 0)], [])], (186, [(some 4, 0)], [15, 15]))
set_option maxRecDepth 20000 in
theorem v_xo_keep_0_4 {PT : PTy} (hp : HP13 PT) : vcOk PT w_xo_keep_0_4 := vc_of (fun ρ α hB hF => by
  obtain ⟨-, -, -, -⟩ := hF
  have e186 : PT 186 = P_al := hp.2.2.2.2.2.2.2.1
  simp only [hFp_186, e186, P_al, den_s, den_c, Int.add_zero, List.map_cons, List.map_nil] at ⊢
  have b4 : (0 : Int) ≤ ρ 4 ∧ ρ 4 ≤ 8 := hB 4 (0, 8) rfl
  clear hB
  generalize ρ 4 = r4, α 15 = a15 at *
  exact fun i h1 h2 => (by first | rfl | trivial))
def w_xo_keep_0_5 : VC := ((bT ++ [(24, 2147483647), ((-2147483648), 2147483647)]), [(0, [(none, 0), (none, 0)], []), (2, [(none, 23), (some 14, 0)], []), (3, [(some 14, 0), (none, 0)], [])], (186, [(some 4, 0)], [16, 16]))
set_option maxRecDepth 20000 in
theorem v_xo_keep_0_5 {PT : PTy} (hp : HP13 PT) : vcOk PT w_xo_keep_0_5 := vc_of (fun ρ α hB hF => by
  obtain ⟨-, -, -, -⟩ := hF
  have e186 : PT 186 = P_al := hp.2.2.2.2.2.2.2.1
  simp only [hFp_186, e186, P_al, den_s, den_c, Int.add_zero, List.map_cons, List.map_nil] at ⊢
  have b4 : (0 : Int) ≤ ρ 4 ∧ ρ 4 ≤ 8 := hB 4 (0, 8) rfl
  clear hB
  generalize ρ 4 = r4, α 16 = a16 at *
  exact fun i h1 h2 => (by first | rfl | trivial))
def w_xo_keep_0_6 : VC := ((bT ++ [(0, 23), ((-2147483648), (-1))]), [(0, [(none, 0), (none, 0)], []), (2, [(some 15, 0), (none, 0)], []), (1, [(none, 1), (none, 0)], []), (3, [(none, 23), (some 14, 0)], []), (3, [(some 14, 0), (none, 0)], [])], (182, [(none, (-2)), (some 14, 0), (some 15, 0), (some 2, 0), (some 3, 0), (some 4, 0), (some 5, 0), (some 6, 0)], [7, 8, 10, 11, 12, 13, 15, 16, 19, 20, 21, 23, 24, 25]))
set_option maxRecDepth 20000 in
theorem v_xo_keep_0_6 {PT : PTy} (hp : HP13 PT) : vcOk PT w_xo_keep_0_6 := vc_of (fun ρ α hB hF => by
  obtain ⟨-, -, -, -, -, -⟩ := hF
  have e182 : PT 182 = P_okX2 := hp.2.2.2.1
  simp only [hFp_182, e182, P_okX2, den_s, den_c, Int.add_zero, List.map_cons, List.map_nil] at ⊢
  have b2 : (0 : Int) ≤ ρ 2 ∧ ρ 2 ≤ 8 := hB 2 (0, 8) rfl
  have b3 : (0 : Int) ≤ ρ 3 ∧ ρ 3 ≤ 10 := hB 3 (0, 10) rfl
  have b4 : (0 : Int) ≤ ρ 4 ∧ ρ 4 ≤ 8 := hB 4 (0, 8) rfl
  have b5 : (0 : Int) ≤ ρ 5 ∧ ρ 5 ≤ 6 := hB 5 (0, 6) rfl
  have b6 : (0 : Int) ≤ ρ 6 ∧ ρ 6 ≤ 6 := hB 6 (0, 6) rfl
  have b14 : (0 : Int) ≤ ρ 14 ∧ ρ 14 ≤ 23 := hB 14 (0, 23) rfl
  have b15 : ((-2147483648) : Int) ≤ ρ 15 ∧ ρ 15 ≤ (-1) := hB 15 ((-2147483648), (-1)) rfl
  clear hB
  generalize ρ 2 = r2, ρ 3 = r3, ρ 4 = r4, ρ 5 = r5, ρ 6 = r6, ρ 14 = r14, ρ 15 = r15, α 7 = a7, α 8 = a8, α 10 = a10, α 11 = a11, α 12 = a12, α 13 = a13, α 15 = a15, α 16 = a16, α 19 = a19, α 20 = a20, α 21 = a21, α 23 = a23, α 24 = a24, α 25 = a25 at *
  ((repeat' (first | apply And.intro | intro h)) <;> first | omega | rfl | trivial | (exfalso; omega)))
def w_xo_keep_0_7 : VC := ((bT ++ [(0, 23), ((-2147483648), (-1))]), [(0, [(none, 0), (none, 0)], []), (2, [(some 15, 0), (none, 0)], []), (1, [(none, 1), (none, 0)], []), (3, [(none, 23), (some 14, 0)], []), (3, [(some 14, 0), (none, 0)], [])], (186, [(some 4, 0)], [15, 15]))
set_option maxRecDepth 20000 in
theorem v_xo_keep_0_7 {PT : PTy} (hp : HP13 PT) : vcOk PT w_xo_keep_0_7 := vc_of (fun ρ α hB hF => by
  obtain ⟨-, -, -, -, -, -⟩ := hF
  have e186 : PT 186 = P_al := hp.2.2.2.2.2.2.2.1
  simp only [hFp_186, e186, P_al, den_s, den_c, Int.add_zero, List.map_cons, List.map_nil] at ⊢
  have b4 : (0 : Int) ≤ ρ 4 ∧ ρ 4 ≤ 8 := hB 4 (0, 8) rfl
  clear hB
  generalize ρ 4 = r4, α 15 = a15 at *
  exact fun i h1 h2 => (by first | rfl | trivial))
def w_xo_keep_0_8 : VC := ((bT ++ [(0, 23), ((-2147483648), (-1))]), [(0, [(none, 0), (none, 0)], []), (2, [(some 15, 0), (none, 0)], []), (1, [(none, 1), (none, 0)], []), (3, [(none, 23), (some 14, 0)], []), (3, [(some 14, 0), (none, 0)], [])], (186, [(some 4, 0)], [16, 16]))
set_option maxRecDepth 20000 in
theorem v_xo_keep_0_8 {PT : PTy} (hp : HP13 PT) : vcOk PT w_xo_keep_0_8 := vc_of (fun ρ α hB hF => by
  obtain ⟨-, -, -, -, -, -⟩ := hF
  have e186 : PT 186 = P_al := hp.2.2.2.2.2.2.2.1
  simp only [hFp_186, e186, P_al, den_s, den_c, Int.add_zero, List.map_cons, List.map_nil] at ⊢
  have b4 : (0 : Int) ≤ ρ 4 ∧ ρ 4 ≤ 8 := hB 4 (0, 8) rfl
  clear hB
  generalize ρ 4 = r4, α 16 = a16 at *
  exact fun i h1 h2 => (by first | rfl | trivial))
def w_xo_keep_0_9 : VC := ((bT ++ [(0, 23), (2, 2147483647)]), [(0, [(none, 0), (none, 0)], []), (2, [(none, 1), (some 15, 0)], []), (3, [(some 15, 0), (none, 0)], []), (1, [(none, 1), (none, 0)], []), (3, [(none, 23), (some 14, 0)], []), (3, [(some 14, 0), (none, 0)], [])], (182, [(none, (-2)), (some 14, 0), (some 15, 0), (some 2, 0), (some 3, 0), (some 4, 0), (some 5, 0), (some 6, 0)], [7, 8, 10, 11, 12, 13, 15, 16, 19, 20, 21, 23, 24, 25]))
set_option maxRecDepth 20000 in
theorem v_xo_keep_0_9 {PT : PTy} (hp : HP13 PT) : vcOk PT w_xo_keep_0_9 := vc_of (fun ρ α hB hF => by
  obtain ⟨-, -, -, -, -, -, -⟩ := hF
  have e182 : PT 182 = P_okX2 := hp.2.2.2.1
  simp only [hFp_182, e182, P_okX2, den_s, den_c, Int.add_zero, List.map_cons, List.map_nil] at ⊢
  have b2 : (0 : Int) ≤ ρ 2 ∧ ρ 2 ≤ 8 := hB 2 (0, 8) rfl
  have b3 : (0 : Int) ≤ ρ 3 ∧ ρ 3 ≤ 10 := hB 3 (0, 10) rfl
  have b4 : (0 : Int) ≤ ρ 4 ∧ ρ 4 ≤ 8 := hB 4 (0, 8) rfl
  have b5 : (0 : Int) ≤ ρ 5 ∧ ρ 5 ≤ 6 := hB 5 (0, 6) rfl
  have b6 : (0 : Int) ≤ ρ 6 ∧ ρ 6 ≤ 6 := hB 6 (0, 6) rfl
  have b14 : (0 : Int) ≤ ρ 14 ∧ ρ 14 ≤ 23 := hB 14 (0, 23) rfl
  have b15 : (2 : Int) ≤ ρ 15 ∧ ρ 15 ≤ 2147483647 := hB 15 (2, 2147483647) rfl
  clear hB
  generalize ρ 2 = r2, ρ 3 = r3, ρ 4 = r4, ρ 5 = r5, ρ 6 = r6, ρ 14 = r14, ρ 15 = r15, α 7 = a7, α 8 = a8, α 10 = a10, α 11 = a11, α 12 = a12, α 13 = a13, α 15 = a15, α 16 = a16, α 19 = a19, α 20 = a20, α 21 = a21, α 23 = a23, α 24 = a24, α 25 = a25 at *
  ((repeat' (first | apply And.intro | intro h)) <;> first | omega | rfl | trivial | (exfalso; omega)))
def w_xo_keep_0_10 : VC := ((bT ++ [(0, 23), (2, 2147483647)]), [(0, [(none, 0), (none, 0)], []), (2, [(none, 1), (some 15, 0)], []), (3, [(some 15, 0), (none, 0)], []), (1, [(none, 1), (none, 0)], []), (3, [(none, 23), (some 14, 0)], []), (3, [(some 14, 0), (none, 0)], [])], (186, [(some 4, 0)], [15, 15]))
set_option maxRecDepth 20000 in
theorem v_xo_keep_0_10 {PT : PTy} (hp : HP13 PT) : vcOk PT w_xo_keep_0_10 := vc_of (fun ρ α hB hF => by
  obtain ⟨-, -, -, -, -, -, -⟩ := hF
  have e186 : PT 186 = P_al := hp.2.2.2.2.2.2.2.1
  simp only [hFp_186, e186, P_al, den_s, den_c, Int.add_zero, List.map_cons, List.map_nil] at ⊢
  have b4 : (0 : Int) ≤ ρ 4 ∧ ρ 4 ≤ 8 := hB 4 (0, 8) rfl
  clear hB
  generalize ρ 4 = r4, α 15 = a15 at *
  exact fun i h1 h2 => (by first | rfl | trivial))
def w_xo_keep_0_11 : VC := ((bT ++ [(0, 23), (2, 2147483647)]), [(0, [(none, 0), (none, 0)], []), (2, [(none, 1), (some 15, 0)], []), (3, [(some 15, 0), (none, 0)], []), (1, [(none, 1), (none, 0)], []), (3, [(none, 23), (some 14, 0)], []), (3, [(some 14, 0), (none, 0)], [])], (186, [(some 4, 0)], [16, 16]))
set_option maxRecDepth 20000 in
theorem v_xo_keep_0_11 {PT : PTy} (hp : HP13 PT) : vcOk PT w_xo_keep_0_11 := vc_of (fun ρ α hB hF => by
  obtain ⟨-, -, -, -, -, -, -⟩ := hF
  have e186 : PT 186 = P_al := hp.2.2.2.2.2.2.2.1
  simp only [hFp_186, e186, P_al, den_s, den_c, Int.add_zero, List.map_cons, List.map_nil] at ⊢
  have b4 : (0 : Int) ≤ ρ 4 ∧ ρ 4 ≤ 8 := hB 4 (0, 8) rfl
  clear hB
  generalize ρ 4 = r4, α 16 = a16 at *
  exact fun i h1 h2 => (by first | rfl | trivial))
def w_xo_keep_0_12 : VC := ((bT ++ [(0, 23), (0, 1)]), [(1, [(none, 1), (none, 0)], []), (3, [(none, 1), (some 15, 0)], []), (3, [(some 15, 0), (none, 0)], []), (1, [(none, 1), (none, 0)], []), (3, [(none, 23), (some 14, 0)], []), (3, [(some 14, 0), (none, 0)], [])], (180, [(some 4, 0)], [15, 15, 16, 16]))
set_option maxRecDepth 20000 in
theorem v_xo_keep_0_12 {PT : PTy} (hp : HP13 PT) : vcOk PT w_xo_keep_0_12 := vc_of (fun ρ α hB hF => by
  obtain ⟨-, -, -, -, -, -, -⟩ := hF
  have e180 : PT 180 = P_alk := hp.2.1
  simp only [hFp_180, e180, P_alk, den_s, den_c, Int.add_zero, List.map_cons, List.map_nil] at ⊢
  have b4 : (0 : Int) ≤ ρ 4 ∧ ρ 4 ≤ 8 := hB 4 (0, 8) rfl
  exact fun i h1 h2 => (by first | exact ⟨rfl, rfl⟩ | exact ⟨trivial, trivial⟩ | trivial))
def w_xo_keep_0_13 : VC := ((bT ++ [(0, 23), (0, 1)]), [(1, [(none, 1), (none, 0)], []), (3, [(none, 1), (some 15, 0)], []), (3, [(some 15, 0), (none, 0)], []), (1, [(none, 1), (none, 0)], []), (3, [(none, 23), (some 14, 0)], []), (3, [(some 14, 0), (none, 0)], [])], (181, [(none, 0), (none, (-1)), (none, (-1)), (some 14, 0), (some 2, 0), (some 3, 0), (some 4, 0), (some 5, 0), (some 6, 0)], [7, 8, 10, 11, 12, 13, 15, 16, 19, 20, 21, 23, 24, 25]))
set_option maxRecDepth 20000 in
theorem v_xo_keep_0_13 {PT : PTy} (hp : HP13 PT) : vcOk PT w_xo_keep_0_13 := vc_of (fun ρ α hB hF => by
  obtain ⟨-, -, -, -, -, -, -⟩ := hF
  have e181 : PT 181 = P_keI := hp.2.2.1
  simp only [hFp_181, e181, P_keI, den_s, den_c, Int.add_zero, List.map_cons, List.map_nil] at ⊢
  have b2 : (0 : Int) ≤ ρ 2 ∧ ρ 2 ≤ 8 := hB 2 (0, 8) rfl
  have b3 : (0 : Int) ≤ ρ 3 ∧ ρ 3 ≤ 10 := hB 3 (0, 10) rfl
  have b4 : (0 : Int) ≤ ρ 4 ∧ ρ 4 ≤ 8 := hB 4 (0, 8) rfl
  have b5 : (0 : Int) ≤ ρ 5 ∧ ρ 5 ≤ 6 := hB 5 (0, 6) rfl
  have b6 : (0 : Int) ≤ ρ 6 ∧ ρ 6 ≤ 6 := hB 6 (0, 6) rfl
  have b14 : (0 : Int) ≤ ρ 14 ∧ ρ 14 ≤ 23 := hB 14 (0, 23) rfl
  exact obS_z)
def w_xo_keep_0_14 : VC := ((bT ++ [(0, 23), (0, 1)]), [(1, [(none, 1), (none, 0)], []), (3, [(none, 1), (some 15, 0)], []), (3, [(some 15, 0), (none, 0)], []), (1, [(none, 1), (none, 0)], []), (3, [(none, 23), (some 14, 0)], []), (3, [(some 14, 0), (none, 0)], [])], (3, [(some 3, 0), (none, 0)], []))
set_option maxRecDepth 20000 in
theorem v_xo_keep_0_14 {PT : PTy} (hp : HP13 PT) : vcOk PT w_xo_keep_0_14 := vc_of (fun ρ α hB hF => by
  obtain ⟨-, -, -, -, -, -, -⟩ := hF
  simp only [hF3, den_s, den_c, Int.add_zero, List.map_cons, List.map_nil] at ⊢
  have b3 : (0 : Int) ≤ ρ 3 ∧ ρ 3 ≤ 10 := hB 3 (0, 10) rfl
  clear hB
  generalize ρ 3 = r3 at *
  omega)
def w_xo_keep_1_0 : VC := ((bT ++ [(0, 23), (1, 1), ((-1), 9), ((-1), 2147483647), (0, 10), (0, 49), (0, 49), ((-2147483648), 2147483647), ((-2147483648), 2147483647)]), [(1, [(some 15, 0), (none, 0)], []), (3, [(some 18, 0), (some 3, 0)], []), (180, [(some 4, 0)], [58, 15, 59, 16]), (181, [(some 18, 0), (some 16, 0), (some 17, 0), (some 14, 0), (some 2, 0), (some 3, 0), (some 4, 0), (some 5, 0), (some 6, 0)], [7, 8, 10, 11, 12, 13, 15, 16, 19, 20, 21, 23, 24, 25]), (3, [(some 3, 0), (some 18, 0)], []), (3, [(some 14, 0), (none, 0)], []), (3, [(none, 23), (some 14, 0)], []), (3, [(some 15, 0), (none, 0)], []), (3, [(none, 1), (some 15, 0)], [])], (182, [(some 17, 0), (some 14, 0), (some 15, 0), (some 2, 0), (some 3, 0), (some 4, 0), (some 5, 0), (some 6, 0)], [7, 8, 10, 11, 12, 13, 15, 16, 19, 20, 21, 23, 24, 25]))
set_option maxRecDepth 20000 in
theorem v_xo_keep_1_0 {PT : PTy} (hp : HP13 PT) : vcOk PT w_xo_keep_1_0 := vc_of (fun ρ α hB hF => by
  obtain ⟨-, f1, f2, f3, f4, -, -, -, -, -⟩ := hF
  have e180 : PT 180 = P_alk := hp.2.1
  have e181 : PT 181 = P_keI := hp.2.2.1
  have e182 : PT 182 = P_okX2 := hp.2.2.2.1
  simp only [hF3, hFp_180, hFp_181, hFp_182, e180, e181, e182, P_alk, P_keI, P_okX2, den_s, den_c, Int.add_zero, List.map_cons, List.map_nil] at f1 f2 f3 f4 ⊢
  have b2 : (0 : Int) ≤ ρ 2 ∧ ρ 2 ≤ 8 := hB 2 (0, 8) rfl
  have b3 : (0 : Int) ≤ ρ 3 ∧ ρ 3 ≤ 10 := hB 3 (0, 10) rfl
  have b4 : (0 : Int) ≤ ρ 4 ∧ ρ 4 ≤ 8 := hB 4 (0, 8) rfl
  have b5 : (0 : Int) ≤ ρ 5 ∧ ρ 5 ≤ 6 := hB 5 (0, 6) rfl
  have b6 : (0 : Int) ≤ ρ 6 ∧ ρ 6 ≤ 6 := hB 6 (0, 6) rfl
  have b14 : (0 : Int) ≤ ρ 14 ∧ ρ 14 ≤ 23 := hB 14 (0, 23) rfl
  have b15 : (1 : Int) ≤ ρ 15 ∧ ρ 15 ≤ 1 := hB 15 (1, 1) rfl
  have b16 : ((-1) : Int) ≤ ρ 16 ∧ ρ 16 ≤ 9 := hB 16 ((-1), 9) rfl
  have b17 : ((-1) : Int) ≤ ρ 17 ∧ ρ 17 ≤ 2147483647 := hB 17 ((-1), 2147483647) rfl
  have b18 : (0 : Int) ≤ ρ 18 ∧ ρ 18 ≤ 10 := hB 18 (0, 10) rfl
  clear hB
  generalize ρ 2 = r2, ρ 3 = r3, ρ 4 = r4, ρ 5 = r5, ρ 6 = r6, ρ 14 = r14, ρ 15 = r15, ρ 16 = r16, ρ 17 = r17, ρ 18 = r18, α 7 = a7, α 8 = a8, α 10 = a10, α 11 = a11, α 12 = a12, α 13 = a13, α 15 = a15, α 16 = a16, α 19 = a19, α 20 = a20, α 21 = a21, α 23 = a23, α 24 = a24, α 25 = a25, α 58 = a58, α 59 = a59 at *
  have hh := f3
  rw [show r18 = r3 by omega] at hh
  refine ⟨fun h => by exfalso; omega, fun h => ⟨_, _, hh, ?_, ?_⟩⟩
  all_goals (intro q; first | rfl | (exfalso; omega)))
def w_xo_keep_1_1 : VC := ((bT ++ [(0, 23), (1, 1), ((-1), 9), ((-1), 2147483647), (0, 10), (0, 49), (0, 49), ((-2147483648), 2147483647), ((-2147483648), 2147483647)]), [(1, [(some 15, 0), (none, 0)], []), (3, [(some 18, 0), (some 3, 0)], []), (180, [(some 4, 0)], [58, 15, 59, 16]), (181, [(some 18, 0), (some 16, 0), (some 17, 0), (some 14, 0), (some 2, 0), (some 3, 0), (some 4, 0), (some 5, 0), (some 6, 0)], [7, 8, 10, 11, 12, 13, 15, 16, 19, 20, 21, 23, 24, 25]), (3, [(some 3, 0), (some 18, 0)], []), (3, [(some 14, 0), (none, 0)], []), (3, [(none, 23), (some 14, 0)], []), (3, [(some 15, 0), (none, 0)], []), (3, [(none, 1), (some 15, 0)], [])], (186, [(some 4, 0)], [58, 15]))
set_option maxRecDepth 20000 in
theorem v_xo_keep_1_1 {PT : PTy} (hp : HP13 PT) : vcOk PT w_xo_keep_1_1 := vc_of (fun ρ α hB hF => by
  obtain ⟨-, f1, f2, f3, f4, -, -, -, -, -⟩ := hF
  have e180 : PT 180 = P_alk := hp.2.1
  have e181 : PT 181 = P_keI := hp.2.2.1
  have e186 : PT 186 = P_al := hp.2.2.2.2.2.2.2.1
  simp only [hF3, hFp_180, hFp_181, hFp_186, e180, e181, e186, P_alk, P_keI, P_al, den_s, den_c, Int.add_zero, List.map_cons, List.map_nil] at f1 f2 f3 f4 ⊢
  have b2 : (0 : Int) ≤ ρ 2 ∧ ρ 2 ≤ 8 := hB 2 (0, 8) rfl
  have b3 : (0 : Int) ≤ ρ 3 ∧ ρ 3 ≤ 10 := hB 3 (0, 10) rfl
  have b4 : (0 : Int) ≤ ρ 4 ∧ ρ 4 ≤ 8 := hB 4 (0, 8) rfl
  have b5 : (0 : Int) ≤ ρ 5 ∧ ρ 5 ≤ 6 := hB 5 (0, 6) rfl
  have b6 : (0 : Int) ≤ ρ 6 ∧ ρ 6 ≤ 6 := hB 6 (0, 6) rfl
  have b14 : (0 : Int) ≤ ρ 14 ∧ ρ 14 ≤ 23 := hB 14 (0, 23) rfl
  have b16 : ((-1) : Int) ≤ ρ 16 ∧ ρ 16 ≤ 9 := hB 16 ((-1), 9) rfl
  have b17 : ((-1) : Int) ≤ ρ 17 ∧ ρ 17 ≤ 2147483647 := hB 17 ((-1), 2147483647) rfl
  have b18 : (0 : Int) ≤ ρ 18 ∧ ρ 18 ≤ 10 := hB 18 (0, 10) rfl
  clear hB
  generalize ρ 2 = r2, ρ 3 = r3, ρ 4 = r4, ρ 5 = r5, ρ 6 = r6, ρ 14 = r14, ρ 16 = r16, ρ 17 = r17, ρ 18 = r18, α 7 = a7, α 8 = a8, α 10 = a10, α 11 = a11, α 12 = a12, α 13 = a13, α 15 = a15, α 16 = a16, α 19 = a19, α 20 = a20, α 21 = a21, α 23 = a23, α 24 = a24, α 25 = a25, α 58 = a58, α 59 = a59 at *
  exact fun i h1 h2 => (f2 i h1 h2).1)
def w_xo_keep_1_2 : VC := ((bT ++ [(0, 23), (1, 1), ((-1), 9), ((-1), 2147483647), (0, 10), (0, 49), (0, 49), ((-2147483648), 2147483647), ((-2147483648), 2147483647)]), [(1, [(some 15, 0), (none, 0)], []), (3, [(some 18, 0), (some 3, 0)], []), (180, [(some 4, 0)], [58, 15, 59, 16]), (181, [(some 18, 0), (some 16, 0), (some 17, 0), (some 14, 0), (some 2, 0), (some 3, 0), (some 4, 0), (some 5, 0), (some 6, 0)], [7, 8, 10, 11, 12, 13, 15, 16, 19, 20, 21, 23, 24, 25]), (3, [(some 3, 0), (some 18, 0)], []), (3, [(some 14, 0), (none, 0)], []), (3, [(none, 23), (some 14, 0)], []), (3, [(some 15, 0), (none, 0)], []), (3, [(none, 1), (some 15, 0)], [])], (186, [(some 4, 0)], [59, 16]))
set_option maxRecDepth 20000 in
theorem v_xo_keep_1_2 {PT : PTy} (hp : HP13 PT) : vcOk PT w_xo_keep_1_2 := vc_of (fun ρ α hB hF => by
  obtain ⟨-, f1, f2, f3, f4, -, -, -, -, -⟩ := hF
  have e180 : PT 180 = P_alk := hp.2.1
  have e181 : PT 181 = P_keI := hp.2.2.1
  have e186 : PT 186 = P_al := hp.2.2.2.2.2.2.2.1
  simp only [hF3, hFp_180, hFp_181, hFp_186, e180, e181, e186, P_alk, P_keI, P_al, den_s, den_c, Int.add_zero, List.map_cons, List.map_nil] at f1 f2 f3 f4 ⊢
  have b2 : (0 : Int) ≤ ρ 2 ∧ ρ 2 ≤ 8 := hB 2 (0, 8) rfl
  have b3 : (0 : Int) ≤ ρ 3 ∧ ρ 3 ≤ 10 := hB 3 (0, 10) rfl
  have b4 : (0 : Int) ≤ ρ 4 ∧ ρ 4 ≤ 8 := hB 4 (0, 8) rfl
  have b5 : (0 : Int) ≤ ρ 5 ∧ ρ 5 ≤ 6 := hB 5 (0, 6) rfl
  have b6 : (0 : Int) ≤ ρ 6 ∧ ρ 6 ≤ 6 := hB 6 (0, 6) rfl
  have b14 : (0 : Int) ≤ ρ 14 ∧ ρ 14 ≤ 23 := hB 14 (0, 23) rfl
  have b16 : ((-1) : Int) ≤ ρ 16 ∧ ρ 16 ≤ 9 := hB 16 ((-1), 9) rfl
  have b17 : ((-1) : Int) ≤ ρ 17 ∧ ρ 17 ≤ 2147483647 := hB 17 ((-1), 2147483647) rfl
  have b18 : (0 : Int) ≤ ρ 18 ∧ ρ 18 ≤ 10 := hB 18 (0, 10) rfl
  clear hB
  generalize ρ 2 = r2, ρ 3 = r3, ρ 4 = r4, ρ 5 = r5, ρ 6 = r6, ρ 14 = r14, ρ 16 = r16, ρ 17 = r17, ρ 18 = r18, α 7 = a7, α 8 = a8, α 10 = a10, α 11 = a11, α 12 = a12, α 13 = a13, α 15 = a15, α 16 = a16, α 19 = a19, α 20 = a20, α 21 = a21, α 23 = a23, α 24 = a24, α 25 = a25, α 58 = a58, α 59 = a59 at *
  exact fun i h1 h2 => (f2 i h1 h2).2)
def w_xo_keep_1_3 : VC := ((bT ++ [(0, 23), (0, 0), ((-1), 9), ((-1), 2147483647), (0, 10), (0, 49), (0, 49), ((-2147483648), 2147483647), ((-2147483648), 2147483647)]), [(0, [(some 15, 0), (none, 0)], []), (3, [(some 18, 0), (some 3, 0)], []), (180, [(some 4, 0)], [58, 15, 59, 16]), (181, [(some 18, 0), (some 16, 0), (some 17, 0), (some 14, 0), (some 2, 0), (some 3, 0), (some 4, 0), (some 5, 0), (some 6, 0)], [7, 8, 10, 11, 12, 13, 15, 16, 19, 20, 21, 23, 24, 25]), (3, [(some 3, 0), (some 18, 0)], []), (3, [(some 14, 0), (none, 0)], []), (3, [(none, 23), (some 14, 0)], []), (3, [(some 15, 0), (none, 0)], []), (3, [(none, 1), (some 15, 0)], [])], (182, [(some 16, 0), (some 14, 0), (some 15, 0), (some 2, 0), (some 3, 0), (some 4, 0), (some 5, 0), (some 6, 0)], [7, 8, 10, 11, 12, 13, 15, 16, 19, 20, 21, 23, 24, 25]))
set_option maxRecDepth 20000 in
theorem v_xo_keep_1_3 {PT : PTy} (hp : HP13 PT) : vcOk PT w_xo_keep_1_3 := vc_of (fun ρ α hB hF => by
  obtain ⟨f0, f1, f2, f3, f4, -, -, -, -, -⟩ := hF
  have e180 : PT 180 = P_alk := hp.2.1
  have e181 : PT 181 = P_keI := hp.2.2.1
  have e182 : PT 182 = P_okX2 := hp.2.2.2.1
  simp only [hF0, hF3, hFp_180, hFp_181, hFp_182, e180, e181, e182, P_alk, P_keI, P_okX2, den_s, den_c, Int.add_zero, List.map_cons, List.map_nil] at f0 f1 f2 f3 f4 ⊢
  have b2 : (0 : Int) ≤ ρ 2 ∧ ρ 2 ≤ 8 := hB 2 (0, 8) rfl
  have b3 : (0 : Int) ≤ ρ 3 ∧ ρ 3 ≤ 10 := hB 3 (0, 10) rfl
  have b4 : (0 : Int) ≤ ρ 4 ∧ ρ 4 ≤ 8 := hB 4 (0, 8) rfl
  have b5 : (0 : Int) ≤ ρ 5 ∧ ρ 5 ≤ 6 := hB 5 (0, 6) rfl
  have b6 : (0 : Int) ≤ ρ 6 ∧ ρ 6 ≤ 6 := hB 6 (0, 6) rfl
  have b14 : (0 : Int) ≤ ρ 14 ∧ ρ 14 ≤ 23 := hB 14 (0, 23) rfl
  have b15 : (0 : Int) ≤ ρ 15 ∧ ρ 15 ≤ 0 := hB 15 (0, 0) rfl
  have b16 : ((-1) : Int) ≤ ρ 16 ∧ ρ 16 ≤ 9 := hB 16 ((-1), 9) rfl
  have b17 : ((-1) : Int) ≤ ρ 17 ∧ ρ 17 ≤ 2147483647 := hB 17 ((-1), 2147483647) rfl
  have b18 : (0 : Int) ≤ ρ 18 ∧ ρ 18 ≤ 10 := hB 18 (0, 10) rfl
  clear hB
  generalize ρ 2 = r2, ρ 3 = r3, ρ 4 = r4, ρ 5 = r5, ρ 6 = r6, ρ 14 = r14, ρ 15 = r15, ρ 16 = r16, ρ 17 = r17, ρ 18 = r18, α 7 = a7, α 8 = a8, α 10 = a10, α 11 = a11, α 12 = a12, α 13 = a13, α 15 = a15, α 16 = a16, α 19 = a19, α 20 = a20, α 21 = a21, α 23 = a23, α 24 = a24, α 25 = a25, α 58 = a58, α 59 = a59 at *
  have hh := f3
  rw [show r18 = r3 by omega] at hh
  refine ⟨fun h => by exfalso; omega, fun h => ⟨_, _, hh, ?_, ?_⟩⟩
  all_goals (intro q; first | rfl | (exfalso; omega)))
def w_xo_keep_1_4 : VC := ((bT ++ [(0, 23), (0, 0), ((-1), 9), ((-1), 2147483647), (0, 10), (0, 49), (0, 49), ((-2147483648), 2147483647), ((-2147483648), 2147483647)]), [(0, [(some 15, 0), (none, 0)], []), (3, [(some 18, 0), (some 3, 0)], []), (180, [(some 4, 0)], [58, 15, 59, 16]), (181, [(some 18, 0), (some 16, 0), (some 17, 0), (some 14, 0), (some 2, 0), (some 3, 0), (some 4, 0), (some 5, 0), (some 6, 0)], [7, 8, 10, 11, 12, 13, 15, 16, 19, 20, 21, 23, 24, 25]), (3, [(some 3, 0), (some 18, 0)], []), (3, [(some 14, 0), (none, 0)], []), (3, [(none, 23), (some 14, 0)], []), (3, [(some 15, 0), (none, 0)], []), (3, [(none, 1), (some 15, 0)], [])], (186, [(some 4, 0)], [58, 15]))
set_option maxRecDepth 20000 in
theorem v_xo_keep_1_4 {PT : PTy} (hp : HP13 PT) : vcOk PT w_xo_keep_1_4 := vc_of (fun ρ α hB hF => by
  obtain ⟨f0, f1, f2, f3, f4, -, -, -, -, -⟩ := hF
  have e180 : PT 180 = P_alk := hp.2.1
  have e181 : PT 181 = P_keI := hp.2.2.1
  have e186 : PT 186 = P_al := hp.2.2.2.2.2.2.2.1
  simp only [hF0, hF3, hFp_180, hFp_181, hFp_186, e180, e181, e186, P_alk, P_keI, P_al, den_s, den_c, Int.add_zero, List.map_cons, List.map_nil] at f0 f1 f2 f3 f4 ⊢
  have b2 : (0 : Int) ≤ ρ 2 ∧ ρ 2 ≤ 8 := hB 2 (0, 8) rfl
  have b3 : (0 : Int) ≤ ρ 3 ∧ ρ 3 ≤ 10 := hB 3 (0, 10) rfl
  have b4 : (0 : Int) ≤ ρ 4 ∧ ρ 4 ≤ 8 := hB 4 (0, 8) rfl
  have b5 : (0 : Int) ≤ ρ 5 ∧ ρ 5 ≤ 6 := hB 5 (0, 6) rfl
  have b6 : (0 : Int) ≤ ρ 6 ∧ ρ 6 ≤ 6 := hB 6 (0, 6) rfl
  have b14 : (0 : Int) ≤ ρ 14 ∧ ρ 14 ≤ 23 := hB 14 (0, 23) rfl
  have b15 : (0 : Int) ≤ ρ 15 ∧ ρ 15 ≤ 0 := hB 15 (0, 0) rfl
  have b16 : ((-1) : Int) ≤ ρ 16 ∧ ρ 16 ≤ 9 := hB 16 ((-1), 9) rfl
  have b17 : ((-1) : Int) ≤ ρ 17 ∧ ρ 17 ≤ 2147483647 := hB 17 ((-1), 2147483647) rfl
  have b18 : (0 : Int) ≤ ρ 18 ∧ ρ 18 ≤ 10 := hB 18 (0, 10) rfl
  clear hB
  generalize ρ 2 = r2, ρ 3 = r3, ρ 4 = r4, ρ 5 = r5, ρ 6 = r6, ρ 14 = r14, ρ 15 = r15, ρ 16 = r16, ρ 17 = r17, ρ 18 = r18, α 7 = a7, α 8 = a8, α 10 = a10, α 11 = a11, α 12 = a12, α 13 = a13, α 15 = a15, α 16 = a16, α 19 = a19, α 20 = a20, α 21 = a21, α 23 = a23, α 24 = a24, α 25 = a25, α 58 = a58, α 59 = a59 at *
  exact fun i h1 h2 => (f2 i h1 h2).1)
def w_xo_keep_1_5 : VC := ((bT ++ [(0, 23), (0, 0), ((-1), 9), ((-1), 2147483647), (0, 10), (0, 49), (0, 49), ((-2147483648), 2147483647), ((-2147483648), 2147483647)]), [(0, [(some 15, 0), (none, 0)], []), (3, [(some 18, 0), (some 3, 0)], []), (180, [(some 4, 0)], [58, 15, 59, 16]), (181, [(some 18, 0), (some 16, 0), (some 17, 0), (some 14, 0), (some 2, 0), (some 3, 0), (some 4, 0), (some 5, 0), (some 6, 0)], [7, 8, 10, 11, 12, 13, 15, 16, 19, 20, 21, 23, 24, 25]), (3, [(some 3, 0), (some 18, 0)], []), (3, [(some 14, 0), (none, 0)], []), (3, [(none, 23), (some 14, 0)], []), (3, [(some 15, 0), (none, 0)], []), (3, [(none, 1), (some 15, 0)], [])], (186, [(some 4, 0)], [59, 16]))
set_option maxRecDepth 20000 in
theorem v_xo_keep_1_5 {PT : PTy} (hp : HP13 PT) : vcOk PT w_xo_keep_1_5 := vc_of (fun ρ α hB hF => by
  obtain ⟨f0, f1, f2, f3, f4, -, -, -, -, -⟩ := hF
  have e180 : PT 180 = P_alk := hp.2.1
  have e181 : PT 181 = P_keI := hp.2.2.1
  have e186 : PT 186 = P_al := hp.2.2.2.2.2.2.2.1
  simp only [hF0, hF3, hFp_180, hFp_181, hFp_186, e180, e181, e186, P_alk, P_keI, P_al, den_s, den_c, Int.add_zero, List.map_cons, List.map_nil] at f0 f1 f2 f3 f4 ⊢
  have b2 : (0 : Int) ≤ ρ 2 ∧ ρ 2 ≤ 8 := hB 2 (0, 8) rfl
  have b3 : (0 : Int) ≤ ρ 3 ∧ ρ 3 ≤ 10 := hB 3 (0, 10) rfl
  have b4 : (0 : Int) ≤ ρ 4 ∧ ρ 4 ≤ 8 := hB 4 (0, 8) rfl
  have b5 : (0 : Int) ≤ ρ 5 ∧ ρ 5 ≤ 6 := hB 5 (0, 6) rfl
  have b6 : (0 : Int) ≤ ρ 6 ∧ ρ 6 ≤ 6 := hB 6 (0, 6) rfl
  have b14 : (0 : Int) ≤ ρ 14 ∧ ρ 14 ≤ 23 := hB 14 (0, 23) rfl
  have b15 : (0 : Int) ≤ ρ 15 ∧ ρ 15 ≤ 0 := hB 15 (0, 0) rfl
  have b16 : ((-1) : Int) ≤ ρ 16 ∧ ρ 16 ≤ 9 := hB 16 ((-1), 9) rfl
  have b17 : ((-1) : Int) ≤ ρ 17 ∧ ρ 17 ≤ 2147483647 := hB 17 ((-1), 2147483647) rfl
  have b18 : (0 : Int) ≤ ρ 18 ∧ ρ 18 ≤ 10 := hB 18 (0, 10) rfl
  clear hB
  generalize ρ 2 = r2, ρ 3 = r3, ρ 4 = r4, ρ 5 = r5, ρ 6 = r6, ρ 14 = r14, ρ 15 = r15, ρ 16 = r16, ρ 17 = r17, ρ 18 = r18, α 7 = a7, α 8 = a8, α 10 = a10, α 11 = a11, α 12 = a12, α 13 = a13, α 15 = a15, α 16 = a16, α 19 = a19, α 20 = a20, α 21 = a21, α 23 = a23, α 24 = a24, α 25 = a25, α 58 = a58, α 59 = a59 at *
  exact fun i h1 h2 => (f2 i h1 h2).2)
def w_xo_keep_1_6 : VC := (([(0, 23), (0, 49), (0, 8), (1, 10), (0, 8), (0, 6), (0, 6), (0, 8), (0, 9), (0, 49), (0, 49), ((-2147483648), 2147483647), ((-2147483648), 2147483647), (0, 5), (0, 23), (0, 1), ((-1), 9), ((-1), 2147483647), (0, 9), (0, 49), (0, 49), ((-2147483648), 2147483647), ((-2147483648), 2147483647), (0, 49), (0, 49), ((-2147483648), 2147483647), ((-2147483648), 2147483647)]), [(2, [(none, 0), (some 4, 1)], []), (3, [(some 17, 0), (some 26, 0)], []), (160, [(some 26, 0), (some 25, 0)], []), (92, [(some 25, 0), (some 2, 0)], [71, 8]), (148, [(none, 23), (some 2, 0), (some 3, 0), (some 4, 1), (some 5, 0), (some 6, 0), (none, 0), (none, 0)], [7, 8, 10, 11, 12, 13, 66, 67, 19, 20, 21, 23, 24, 25, 71, 72, 73]), (21, [(some 4, 0), (none, 0)], [68, 60]), (21, [(some 4, 0), (some 18, 0)], [67, 59]), (21, [(some 4, 0), (some 14, 0)], [66, 58]), (2, [(some 4, 0), (none, 9)], []), (2, [(some 18, 0), (some 3, 0)], []), (180, [(some 4, 0)], [58, 15, 59, 16]), (181, [(some 18, 0), (some 16, 0), (some 17, 0), (some 14, 0), (some 2, 0), (some 3, 0), (some 4, 0), (some 5, 0), (some 6, 0)], [7, 8, 10, 11, 12, 13, 15, 16, 19, 20, 21, 23, 24, 25]), (3, [(some 3, 0), (some 18, 0)], []), (3, [(some 14, 0), (none, 0)], []), (3, [(none, 23), (some 14, 0)], []), (3, [(some 15, 0), (none, 0)], []), (3, [(none, 1), (some 15, 0)], [])], (180, [(some 4, 0)], [66, 15, 67, 16]))
set_option maxRecDepth 20000 in
theorem v_xo_keep_1_6 {PT : PTy} (hp : HP13 PT) : vcOk PT w_xo_keep_1_6 := vc_of (fun ρ α hB hF => by
  obtain ⟨-, f1, f2, f3, f4, f5, f6, f7, -, f9, f10, f11, f12, -, -, -, -, -⟩ := hF
  have e92 : PT 92 = P_bits := hp.1.1.1.1.1.1.1.1.1.2.1
  have e148 : PT 148 = P_yx := hp.1.1.2.2.1
  have e160 : PT 160 = P_bc := hp.1.1.2.2.2.2.2.2.2.2.2.2.2.2.2.2.1
  have e180 : PT 180 = P_alk := hp.2.1
  have e181 : PT 181 = P_keI := hp.2.2.1
  simp only [hF2, hF3, hF21, hFp_92, hFp_148, hFp_160, hFp_180, hFp_181, e92, e148, e160, e180, e181, P_bits, P_yx, P_bc, P_alk, P_keI, den_s, den_c, Int.add_zero, List.map_cons, List.map_nil] at f1 f2 f3 f4 f5 f6 f7 f9 f10 f11 f12 ⊢
  have b2 : (0 : Int) ≤ ρ 2 ∧ ρ 2 ≤ 8 := hB 2 (0, 8) rfl
  have b3 : (1 : Int) ≤ ρ 3 ∧ ρ 3 ≤ 10 := hB 3 (1, 10) rfl
  have b4 : (0 : Int) ≤ ρ 4 ∧ ρ 4 ≤ 8 := hB 4 (0, 8) rfl
  have b5 : (0 : Int) ≤ ρ 5 ∧ ρ 5 ≤ 6 := hB 5 (0, 6) rfl
  have b6 : (0 : Int) ≤ ρ 6 ∧ ρ 6 ≤ 6 := hB 6 (0, 6) rfl
  have b14 : (0 : Int) ≤ ρ 14 ∧ ρ 14 ≤ 23 := hB 14 (0, 23) rfl
  have b16 : ((-1) : Int) ≤ ρ 16 ∧ ρ 16 ≤ 9 := hB 16 ((-1), 9) rfl
  have b17 : ((-1) : Int) ≤ ρ 17 ∧ ρ 17 ≤ 2147483647 := hB 17 ((-1), 2147483647) rfl
  have b18 : (0 : Int) ≤ ρ 18 ∧ ρ 18 ≤ 9 := hB 18 (0, 9) rfl
  have b25 : ((-2147483648) : Int) ≤ ρ 25 ∧ ρ 25 ≤ 2147483647 := hB 25 ((-2147483648), 2147483647) rfl
  have b26 : ((-2147483648) : Int) ≤ ρ 26 ∧ ρ 26 ≤ 2147483647 := hB 26 ((-2147483648), 2147483647) rfl
  clear hB
  generalize ρ 2 = r2, ρ 3 = r3, ρ 4 = r4, ρ 5 = r5, ρ 6 = r6, ρ 14 = r14, ρ 16 = r16, ρ 17 = r17, ρ 18 = r18, ρ 25 = r25, ρ 26 = r26, α 7 = a7, α 8 = a8, α 10 = a10, α 11 = a11, α 12 = a12, α 13 = a13, α 15 = a15, α 16 = a16, α 19 = a19, α 20 = a20, α 21 = a21, α 23 = a23, α 24 = a24, α 25 = a25, α 58 = a58, α 59 = a59, α 60 = a60, α 66 = a66, α 67 = a67, α 68 = a68, α 71 = a71, α 72 = a72, α 73 = a73 at *
  subst f5
  subst f6
  subst f7
  intro i h1 h2
  have := f10 i h1 h2
  rw [updI_ne (by omega), updI_ne (by omega)]
  exact this)
def w_xo_keep_1_7 : VC := (([(0, 23), (0, 49), (0, 8), (1, 10), (0, 8), (0, 6), (0, 6), (0, 8), (0, 9), (0, 49), (0, 49), ((-2147483648), 2147483647), ((-2147483648), 2147483647), (0, 5), (0, 23), (0, 1), ((-1), 9), ((-1), 2147483647), (0, 9), (0, 49), (0, 49), ((-2147483648), 2147483647), ((-2147483648), 2147483647), (0, 49), (0, 49), ((-2147483648), 2147483647), ((-2147483648), 2147483647)]), [(2, [(none, 0), (some 4, 1)], []), (3, [(some 17, 0), (some 26, 0)], []), (160, [(some 26, 0), (some 25, 0)], []), (92, [(some 25, 0), (some 2, 0)], [71, 8]), (148, [(none, 23), (some 2, 0), (some 3, 0), (some 4, 1), (some 5, 0), (some 6, 0), (none, 0), (none, 0)], [7, 8, 10, 11, 12, 13, 66, 67, 19, 20, 21, 23, 24, 25, 71, 72, 73]), (21, [(some 4, 0), (none, 0)], [68, 60]), (21, [(some 4, 0), (some 18, 0)], [67, 59]), (21, [(some 4, 0), (some 14, 0)], [66, 58]), (2, [(some 4, 0), (none, 9)], []), (2, [(some 18, 0), (some 3, 0)], []), (180, [(some 4, 0)], [58, 15, 59, 16]), (181, [(some 18, 0), (some 16, 0), (some 17, 0), (some 14, 0), (some 2, 0), (some 3, 0), (some 4, 0), (some 5, 0), (some 6, 0)], [7, 8, 10, 11, 12, 13, 15, 16, 19, 20, 21, 23, 24, 25]), (3, [(some 3, 0), (some 18, 0)], []), (3, [(some 14, 0), (none, 0)], []), (3, [(none, 23), (some 14, 0)], []), (3, [(some 15, 0), (none, 0)], []), (3, [(none, 1), (some 15, 0)], [])], (181, [(some 18, 1), (some 16, 0), (some 17, 0), (some 14, 0), (some 2, 0), (some 3, 0), (some 4, 0), (some 5, 0), (some 6, 0)], [7, 8, 10, 11, 12, 13, 15, 16, 19, 20, 21, 23, 24, 25]))
set_option maxRecDepth 20000 in
theorem v_xo_keep_1_7 {PT : PTy} (hp : HP13 PT) : vcOk PT w_xo_keep_1_7 := vc_of (fun ρ α hB hF => by
  obtain ⟨-, f1, f2, f3, f4, f5, f6, f7, -, f9, f10, f11, f12, -, -, -, -, -⟩ := hF
  have e92 : PT 92 = P_bits := hp.1.1.1.1.1.1.1.1.1.2.1
  have e148 : PT 148 = P_yx := hp.1.1.2.2.1
  have e160 : PT 160 = P_bc := hp.1.1.2.2.2.2.2.2.2.2.2.2.2.2.2.2.1
  have e180 : PT 180 = P_alk := hp.2.1
  have e181 : PT 181 = P_keI := hp.2.2.1
  simp only [hF2, hF3, hF21, hFp_92, hFp_148, hFp_160, hFp_180, hFp_181, e92, e148, e160, e180, e181, P_bits, P_yx, P_bc, P_alk, P_keI, den_s, den_c, Int.add_zero, List.map_cons, List.map_nil] at f1 f2 f3 f4 f5 f6 f7 f9 f10 f11 f12 ⊢
  have b2 : (0 : Int) ≤ ρ 2 ∧ ρ 2 ≤ 8 := hB 2 (0, 8) rfl
  have b3 : (1 : Int) ≤ ρ 3 ∧ ρ 3 ≤ 10 := hB 3 (1, 10) rfl
  have b4 : (0 : Int) ≤ ρ 4 ∧ ρ 4 ≤ 8 := hB 4 (0, 8) rfl
  have b5 : (0 : Int) ≤ ρ 5 ∧ ρ 5 ≤ 6 := hB 5 (0, 6) rfl
  have b6 : (0 : Int) ≤ ρ 6 ∧ ρ 6 ≤ 6 := hB 6 (0, 6) rfl
  have b14 : (0 : Int) ≤ ρ 14 ∧ ρ 14 ≤ 23 := hB 14 (0, 23) rfl
  have b16 : ((-1) : Int) ≤ ρ 16 ∧ ρ 16 ≤ 9 := hB 16 ((-1), 9) rfl
  have b17 : ((-1) : Int) ≤ ρ 17 ∧ ρ 17 ≤ 2147483647 := hB 17 ((-1), 2147483647) rfl
  have b18 : (0 : Int) ≤ ρ 18 ∧ ρ 18 ≤ 9 := hB 18 (0, 9) rfl
  have b25 : ((-2147483648) : Int) ≤ ρ 25 ∧ ρ 25 ≤ 2147483647 := hB 25 ((-2147483648), 2147483647) rfl
  have b26 : ((-2147483648) : Int) ≤ ρ 26 ∧ ρ 26 ≤ 2147483647 := hB 26 ((-2147483648), 2147483647) rfl
  clear hB
  generalize ρ 2 = r2, ρ 3 = r3, ρ 4 = r4, ρ 5 = r5, ρ 6 = r6, ρ 14 = r14, ρ 16 = r16, ρ 17 = r17, ρ 18 = r18, ρ 25 = r25, ρ 26 = r26, α 7 = a7, α 8 = a8, α 10 = a10, α 11 = a11, α 12 = a12, α 13 = a13, α 15 = a15, α 16 = a16, α 19 = a19, α 20 = a20, α 21 = a21, α 23 = a23, α 24 = a24, α 25 = a25, α 58 = a58, α 59 = a59, α 60 = a60, α 66 = a66, α 67 = a67, α 68 = a68, α 71 = a71, α 72 = a72, α 73 = a73 at *
  subst f5
  subst f6
  subst f7
  have hy := f4
  have hb : r25 = bitF a71 a8 r2 := f3
  have hc := f2
  have ha := f10
  subst hb
  subst hc
  first
    | exact obS_t f11 (by omega) ⟨_, _, fun i h1 h2 => by rw [updI_ne (by omega), updI_ne (by omega)]; exact ha i h1 h2, updI_at _ _ _, updI_at _ _ _, _, _, _, hy, rfl⟩ (by omega) (bc_nn (by omega))
    | exact obS_k f11 (by omega) ⟨_, _, fun i h1 h2 => by rw [updI_ne (by omega), updI_ne (by omega)]; exact ha i h1 h2, updI_at _ _ _, updI_at _ _ _, _, _, _, hy, rfl⟩ (by omega) (bc_nn (by omega)))
def w_xo_keep_1_8 : VC := (([(0, 23), (0, 49), (0, 8), (1, 10), (0, 8), (0, 6), (0, 6), (0, 8), (0, 9), (0, 49), (0, 49), ((-2147483648), 2147483647), ((-2147483648), 2147483647), (0, 5), (0, 23), (0, 1), ((-1), 9), ((-1), 2147483647), (0, 9), (0, 49), (0, 49), ((-2147483648), 2147483647), ((-2147483648), 2147483647), (0, 49), (0, 49), ((-2147483648), 2147483647), ((-2147483648), 2147483647)]), [(2, [(none, 0), (some 4, 1)], []), (3, [(some 17, 0), (some 26, 0)], []), (160, [(some 26, 0), (some 25, 0)], []), (92, [(some 25, 0), (some 2, 0)], [71, 8]), (148, [(none, 23), (some 2, 0), (some 3, 0), (some 4, 1), (some 5, 0), (some 6, 0), (none, 0), (none, 0)], [7, 8, 10, 11, 12, 13, 66, 67, 19, 20, 21, 23, 24, 25, 71, 72, 73]), (21, [(some 4, 0), (none, 0)], [68, 60]), (21, [(some 4, 0), (some 18, 0)], [67, 59]), (21, [(some 4, 0), (some 14, 0)], [66, 58]), (2, [(some 4, 0), (none, 9)], []), (2, [(some 18, 0), (some 3, 0)], []), (180, [(some 4, 0)], [58, 15, 59, 16]), (181, [(some 18, 0), (some 16, 0), (some 17, 0), (some 14, 0), (some 2, 0), (some 3, 0), (some 4, 0), (some 5, 0), (some 6, 0)], [7, 8, 10, 11, 12, 13, 15, 16, 19, 20, 21, 23, 24, 25]), (3, [(some 3, 0), (some 18, 0)], []), (3, [(some 14, 0), (none, 0)], []), (3, [(none, 23), (some 14, 0)], []), (3, [(some 15, 0), (none, 0)], []), (3, [(none, 1), (some 15, 0)], [])], (3, [(some 3, 0), (some 18, 1)], []))
set_option maxRecDepth 20000 in
theorem v_xo_keep_1_8 {PT : PTy} (hp : HP13 PT) : vcOk PT w_xo_keep_1_8 := vc_of (fun ρ α hB hF => by
  obtain ⟨-, f1, f2, f3, f4, f5, f6, f7, -, f9, f10, f11, f12, -, -, -, -, -⟩ := hF
  have e92 : PT 92 = P_bits := hp.1.1.1.1.1.1.1.1.1.2.1
  have e148 : PT 148 = P_yx := hp.1.1.2.2.1
  have e160 : PT 160 = P_bc := hp.1.1.2.2.2.2.2.2.2.2.2.2.2.2.2.2.1
  have e180 : PT 180 = P_alk := hp.2.1
  have e181 : PT 181 = P_keI := hp.2.2.1
  simp only [hF2, hF3, hF21, hFp_92, hFp_148, hFp_160, hFp_180, hFp_181, e92, e148, e160, e180, e181, P_bits, P_yx, P_bc, P_alk, P_keI, den_s, den_c, Int.add_zero, List.map_cons, List.map_nil] at f1 f2 f3 f4 f5 f6 f7 f9 f10 f11 f12 ⊢
  have b2 : (0 : Int) ≤ ρ 2 ∧ ρ 2 ≤ 8 := hB 2 (0, 8) rfl
  have b3 : (1 : Int) ≤ ρ 3 ∧ ρ 3 ≤ 10 := hB 3 (1, 10) rfl
  have b4 : (0 : Int) ≤ ρ 4 ∧ ρ 4 ≤ 8 := hB 4 (0, 8) rfl
  have b5 : (0 : Int) ≤ ρ 5 ∧ ρ 5 ≤ 6 := hB 5 (0, 6) rfl
  have b6 : (0 : Int) ≤ ρ 6 ∧ ρ 6 ≤ 6 := hB 6 (0, 6) rfl
  have b14 : (0 : Int) ≤ ρ 14 ∧ ρ 14 ≤ 23 := hB 14 (0, 23) rfl
  have b16 : ((-1) : Int) ≤ ρ 16 ∧ ρ 16 ≤ 9 := hB 16 ((-1), 9) rfl
  have b17 : ((-1) : Int) ≤ ρ 17 ∧ ρ 17 ≤ 2147483647 := hB 17 ((-1), 2147483647) rfl
  have b18 : (0 : Int) ≤ ρ 18 ∧ ρ 18 ≤ 9 := hB 18 (0, 9) rfl
  have b25 : ((-2147483648) : Int) ≤ ρ 25 ∧ ρ 25 ≤ 2147483647 := hB 25 ((-2147483648), 2147483647) rfl
  have b26 : ((-2147483648) : Int) ≤ ρ 26 ∧ ρ 26 ≤ 2147483647 := hB 26 ((-2147483648), 2147483647) rfl
  clear hB
  generalize ρ 2 = r2, ρ 3 = r3, ρ 4 = r4, ρ 5 = r5, ρ 6 = r6, ρ 14 = r14, ρ 16 = r16, ρ 17 = r17, ρ 18 = r18, ρ 25 = r25, ρ 26 = r26, α 7 = a7, α 8 = a8, α 10 = a10, α 11 = a11, α 12 = a12, α 13 = a13, α 15 = a15, α 16 = a16, α 19 = a19, α 20 = a20, α 21 = a21, α 23 = a23, α 24 = a24, α 25 = a25, α 58 = a58, α 59 = a59, α 60 = a60, α 66 = a66, α 67 = a67, α 68 = a68, α 71 = a71, α 72 = a72, α 73 = a73 at *
  subst f5
  subst f6
  subst f7
  omega)
def w_xo_keep_1_9 : VC := (([(0, 23), (0, 49), (0, 8), (1, 10), (0, 8), (0, 6), (0, 6), (0, 8), (0, 9), (0, 49), (0, 49), ((-2147483648), 2147483647), ((-2147483648), 2147483647), (0, 5), (0, 23), (0, 1), ((-1), 9), ((-1), 2147483646), (0, 9), (0, 49), (0, 49), ((-2147483648), 2147483647), ((-2147483648), 2147483647), (0, 49), (0, 49), ((-2147483648), 2147483647), (0, 2147483647)]), [(2, [(none, 0), (some 4, 1)], []), (2, [(some 17, 0), (some 26, 0)], []), (160, [(some 26, 0), (some 25, 0)], []), (92, [(some 25, 0), (some 2, 0)], [71, 8]), (148, [(none, 23), (some 2, 0), (some 3, 0), (some 4, 1), (some 5, 0), (some 6, 0), (none, 0), (none, 0)], [7, 8, 10, 11, 12, 13, 66, 67, 19, 20, 21, 23, 24, 25, 71, 72, 73]), (21, [(some 4, 0), (none, 0)], [68, 60]), (21, [(some 4, 0), (some 18, 0)], [67, 59]), (21, [(some 4, 0), (some 14, 0)], [66, 58]), (2, [(some 4, 0), (none, 9)], []), (2, [(some 18, 0), (some 3, 0)], []), (180, [(some 4, 0)], [58, 15, 59, 16]), (181, [(some 18, 0), (some 16, 0), (some 17, 0), (some 14, 0), (some 2, 0), (some 3, 0), (some 4, 0), (some 5, 0), (some 6, 0)], [7, 8, 10, 11, 12, 13, 15, 16, 19, 20, 21, 23, 24, 25]), (3, [(some 3, 0), (some 18, 0)], []), (3, [(some 14, 0), (none, 0)], []), (3, [(none, 23), (some 14, 0)], []), (3, [(some 15, 0), (none, 0)], []), (3, [(none, 1), (some 15, 0)], [])], (180, [(some 4, 0)], [66, 15, 67, 16]))
set_option maxRecDepth 20000 in
theorem v_xo_keep_1_9 {PT : PTy} (hp : HP13 PT) : vcOk PT w_xo_keep_1_9 := vc_of (fun ρ α hB hF => by
  obtain ⟨-, f1, f2, f3, f4, f5, f6, f7, -, f9, f10, f11, f12, -, -, -, -, -⟩ := hF
  have e92 : PT 92 = P_bits := hp.1.1.1.1.1.1.1.1.1.2.1
  have e148 : PT 148 = P_yx := hp.1.1.2.2.1
  have e160 : PT 160 = P_bc := hp.1.1.2.2.2.2.2.2.2.2.2.2.2.2.2.2.1
  have e180 : PT 180 = P_alk := hp.2.1
  have e181 : PT 181 = P_keI := hp.2.2.1
  simp only [hF2, hF3, hF21, hFp_92, hFp_148, hFp_160, hFp_180, hFp_181, e92, e148, e160, e180, e181, P_bits, P_yx, P_bc, P_alk, P_keI, den_s, den_c, Int.add_zero, List.map_cons, List.map_nil] at f1 f2 f3 f4 f5 f6 f7 f9 f10 f11 f12 ⊢
  have b2 : (0 : Int) ≤ ρ 2 ∧ ρ 2 ≤ 8 := hB 2 (0, 8) rfl
  have b3 : (1 : Int) ≤ ρ 3 ∧ ρ 3 ≤ 10 := hB 3 (1, 10) rfl
  have b4 : (0 : Int) ≤ ρ 4 ∧ ρ 4 ≤ 8 := hB 4 (0, 8) rfl
  have b5 : (0 : Int) ≤ ρ 5 ∧ ρ 5 ≤ 6 := hB 5 (0, 6) rfl
  have b6 : (0 : Int) ≤ ρ 6 ∧ ρ 6 ≤ 6 := hB 6 (0, 6) rfl
  have b14 : (0 : Int) ≤ ρ 14 ∧ ρ 14 ≤ 23 := hB 14 (0, 23) rfl
  have b16 : ((-1) : Int) ≤ ρ 16 ∧ ρ 16 ≤ 9 := hB 16 ((-1), 9) rfl
  have b17 : ((-1) : Int) ≤ ρ 17 ∧ ρ 17 ≤ 2147483646 := hB 17 ((-1), 2147483646) rfl
  have b18 : (0 : Int) ≤ ρ 18 ∧ ρ 18 ≤ 9 := hB 18 (0, 9) rfl
  have b25 : ((-2147483648) : Int) ≤ ρ 25 ∧ ρ 25 ≤ 2147483647 := hB 25 ((-2147483648), 2147483647) rfl
  have b26 : (0 : Int) ≤ ρ 26 ∧ ρ 26 ≤ 2147483647 := hB 26 (0, 2147483647) rfl
  clear hB
  generalize ρ 2 = r2, ρ 3 = r3, ρ 4 = r4, ρ 5 = r5, ρ 6 = r6, ρ 14 = r14, ρ 16 = r16, ρ 17 = r17, ρ 18 = r18, ρ 25 = r25, ρ 26 = r26, α 7 = a7, α 8 = a8, α 10 = a10, α 11 = a11, α 12 = a12, α 13 = a13, α 15 = a15, α 16 = a16, α 19 = a19, α 20 = a20, α 21 = a21, α 23 = a23, α 24 = a24, α 25 = a25, α 58 = a58, α 59 = a59, α 60 = a60, α 66 = a66, α 67 = a67, α 68 = a68, α 71 = a71, α 72 = a72, α 73 = a73 at *
  subst f5
  subst f6
  subst f7
  intro i h1 h2
  have := f10 i h1 h2
  rw [updI_ne (by omega), updI_ne (by omega)]
  exact this)
def w_xo_keep_1_10 : VC := (([(0, 23), (0, 49), (0, 8), (1, 10), (0, 8), (0, 6), (0, 6), (0, 8), (0, 9), (0, 49), (0, 49), ((-2147483648), 2147483647), ((-2147483648), 2147483647), (0, 5), (0, 23), (0, 1), ((-1), 9), ((-1), 2147483646), (0, 9), (0, 49), (0, 49), ((-2147483648), 2147483647), ((-2147483648), 2147483647), (0, 49), (0, 49), ((-2147483648), 2147483647), (0, 2147483647)]), [(2, [(none, 0), (some 4, 1)], []), (2, [(some 17, 0), (some 26, 0)], []), (160, [(some 26, 0), (some 25, 0)], []), (92, [(some 25, 0), (some 2, 0)], [71, 8]), (148, [(none, 23), (some 2, 0), (some 3, 0), (some 4, 1), (some 5, 0), (some 6, 0), (none, 0), (none, 0)], [7, 8, 10, 11, 12, 13, 66, 67, 19, 20, 21, 23, 24, 25, 71, 72, 73]), (21, [(some 4, 0), (none, 0)], [68, 60]), (21, [(some 4, 0), (some 18, 0)], [67, 59]), (21, [(some 4, 0), (some 14, 0)], [66, 58]), (2, [(some 4, 0), (none, 9)], []), (2, [(some 18, 0), (some 3, 0)], []), (180, [(some 4, 0)], [58, 15, 59, 16]), (181, [(some 18, 0), (some 16, 0), (some 17, 0), (some 14, 0), (some 2, 0), (some 3, 0), (some 4, 0), (some 5, 0), (some 6, 0)], [7, 8, 10, 11, 12, 13, 15, 16, 19, 20, 21, 23, 24, 25]), (3, [(some 3, 0), (some 18, 0)], []), (3, [(some 14, 0), (none, 0)], []), (3, [(none, 23), (some 14, 0)], []), (3, [(some 15, 0), (none, 0)], []), (3, [(none, 1), (some 15, 0)], [])], (181, [(some 18, 1), (some 18, 0), (some 26, 0), (some 14, 0), (some 2, 0), (some 3, 0), (some 4, 0), (some 5, 0), (some 6, 0)], [7, 8, 10, 11, 12, 13, 15, 16, 19, 20, 21, 23, 24, 25]))
set_option maxRecDepth 20000 in
theorem v_xo_keep_1_10 {PT : PTy} (hp : HP13 PT) : vcOk PT w_xo_keep_1_10 := vc_of (fun ρ α hB hF => by
  obtain ⟨-, f1, f2, f3, f4, f5, f6, f7, -, f9, f10, f11, f12, -, -, -, -, -⟩ := hF
  have e92 : PT 92 = P_bits := hp.1.1.1.1.1.1.1.1.1.2.1
  have e148 : PT 148 = P_yx := hp.1.1.2.2.1
  have e160 : PT 160 = P_bc := hp.1.1.2.2.2.2.2.2.2.2.2.2.2.2.2.2.1
  have e180 : PT 180 = P_alk := hp.2.1
  have e181 : PT 181 = P_keI := hp.2.2.1
  simp only [hF2, hF3, hF21, hFp_92, hFp_148, hFp_160, hFp_180, hFp_181, e92, e148, e160, e180, e181, P_bits, P_yx, P_bc, P_alk, P_keI, den_s, den_c, Int.add_zero, List.map_cons, List.map_nil] at f1 f2 f3 f4 f5 f6 f7 f9 f10 f11 f12 ⊢
  have b2 : (0 : Int) ≤ ρ 2 ∧ ρ 2 ≤ 8 := hB 2 (0, 8) rfl
  have b3 : (1 : Int) ≤ ρ 3 ∧ ρ 3 ≤ 10 := hB 3 (1, 10) rfl
  have b4 : (0 : Int) ≤ ρ 4 ∧ ρ 4 ≤ 8 := hB 4 (0, 8) rfl
  have b5 : (0 : Int) ≤ ρ 5 ∧ ρ 5 ≤ 6 := hB 5 (0, 6) rfl
  have b6 : (0 : Int) ≤ ρ 6 ∧ ρ 6 ≤ 6 := hB 6 (0, 6) rfl
  have b14 : (0 : Int) ≤ ρ 14 ∧ ρ 14 ≤ 23 := hB 14 (0, 23) rfl
  have b16 : ((-1) : Int) ≤ ρ 16 ∧ ρ 16 ≤ 9 := hB 16 ((-1), 9) rfl
  have b17 : ((-1) : Int) ≤ ρ 17 ∧ ρ 17 ≤ 2147483646 := hB 17 ((-1), 2147483646) rfl
  have b18 : (0 : Int) ≤ ρ 18 ∧ ρ 18 ≤ 9 := hB 18 (0, 9) rfl
  have b25 : ((-2147483648) : Int) ≤ ρ 25 ∧ ρ 25 ≤ 2147483647 := hB 25 ((-2147483648), 2147483647) rfl
  have b26 : (0 : Int) ≤ ρ 26 ∧ ρ 26 ≤ 2147483647 := hB 26 (0, 2147483647) rfl
  clear hB
  generalize ρ 2 = r2, ρ 3 = r3, ρ 4 = r4, ρ 5 = r5, ρ 6 = r6, ρ 14 = r14, ρ 16 = r16, ρ 17 = r17, ρ 18 = r18, ρ 25 = r25, ρ 26 = r26, α 7 = a7, α 8 = a8, α 10 = a10, α 11 = a11, α 12 = a12, α 13 = a13, α 15 = a15, α 16 = a16, α 19 = a19, α 20 = a20, α 21 = a21, α 23 = a23, α 24 = a24, α 25 = a25, α 58 = a58, α 59 = a59, α 60 = a60, α 66 = a66, α 67 = a67, α 68 = a68, α 71 = a71, α 72 = a72, α 73 = a73 at *
  subst f5
  subst f6
  subst f7
  have hy := f4
  have hb : r25 = bitF a71 a8 r2 := f3
  have hc := f2
  have ha := f10
  subst hb
  subst hc
  first
    | exact obS_t f11 (by omega) ⟨_, _, fun i h1 h2 => by rw [updI_ne (by omega), updI_ne (by omega)]; exact ha i h1 h2, updI_at _ _ _, updI_at _ _ _, _, _, _, hy, rfl⟩ (by omega) (bc_nn (by omega))
    | exact obS_k f11 (by omega) ⟨_, _, fun i h1 h2 => by rw [updI_ne (by omega), updI_ne (by omega)]; exact ha i h1 h2, updI_at _ _ _, updI_at _ _ _, _, _, _, hy, rfl⟩ (by omega) (bc_nn (by omega)))
def w_xo_keep_1_11 : VC := (([(0, 23), (0, 49), (0, 8), (1, 10), (0, 8), (0, 6), (0, 6), (0, 8), (0, 9), (0, 49), (0, 49), ((-2147483648), 2147483647), ((-2147483648), 2147483647), (0, 5), (0, 23), (0, 1), ((-1), 9), ((-1), 2147483646), (0, 9), (0, 49), (0, 49), ((-2147483648), 2147483647), ((-2147483648), 2147483647), (0, 49), (0, 49), ((-2147483648), 2147483647), (0, 2147483647)]), [(2, [(none, 0), (some 4, 1)], []), (2, [(some 17, 0), (some 26, 0)], []), (160, [(some 26, 0), (some 25, 0)], []), (92, [(some 25, 0), (some 2, 0)], [71, 8]), (148, [(none, 23), (some 2, 0), (some 3, 0), (some 4, 1), (some 5, 0), (some 6, 0), (none, 0), (none, 0)], [7, 8, 10, 11, 12, 13, 66, 67, 19, 20, 21, 23, 24, 25, 71, 72, 73]), (21, [(some 4, 0), (none, 0)], [68, 60]), (21, [(some 4, 0), (some 18, 0)], [67, 59]), (21, [(some 4, 0), (some 14, 0)], [66, 58]), (2, [(some 4, 0), (none, 9)], []), (2, [(some 18, 0), (some 3, 0)], []), (180, [(some 4, 0)], [58, 15, 59, 16]), (181, [(some 18, 0), (some 16, 0), (some 17, 0), (some 14, 0), (some 2, 0), (some 3, 0), (some 4, 0), (some 5, 0), (some 6, 0)], [7, 8, 10, 11, 12, 13, 15, 16, 19, 20, 21, 23, 24, 25]), (3, [(some 3, 0), (some 18, 0)], []), (3, [(some 14, 0), (none, 0)], []), (3, [(none, 23), (some 14, 0)], []), (3, [(some 15, 0), (none, 0)], []), (3, [(none, 1), (some 15, 0)], [])], (3, [(some 3, 0), (some 18, 1)], []))
set_option maxRecDepth 20000 in
theorem v_xo_keep_1_11 {PT : PTy} (hp : HP13 PT) : vcOk PT w_xo_keep_1_11 := vc_of (fun ρ α hB hF => by
  obtain ⟨-, f1, f2, f3, f4, f5, f6, f7, -, f9, f10, f11, f12, -, -, -, -, -⟩ := hF
  have e92 : PT 92 = P_bits := hp.1.1.1.1.1.1.1.1.1.2.1
  have e148 : PT 148 = P_yx := hp.1.1.2.2.1
  have e160 : PT 160 = P_bc := hp.1.1.2.2.2.2.2.2.2.2.2.2.2.2.2.2.1
  have e180 : PT 180 = P_alk := hp.2.1
  have e181 : PT 181 = P_keI := hp.2.2.1
  simp only [hF2, hF3, hF21, hFp_92, hFp_148, hFp_160, hFp_180, hFp_181, e92, e148, e160, e180, e181, P_bits, P_yx, P_bc, P_alk, P_keI, den_s, den_c, Int.add_zero, List.map_cons, List.map_nil] at f1 f2 f3 f4 f5 f6 f7 f9 f10 f11 f12 ⊢
  have b2 : (0 : Int) ≤ ρ 2 ∧ ρ 2 ≤ 8 := hB 2 (0, 8) rfl
  have b3 : (1 : Int) ≤ ρ 3 ∧ ρ 3 ≤ 10 := hB 3 (1, 10) rfl
  have b4 : (0 : Int) ≤ ρ 4 ∧ ρ 4 ≤ 8 := hB 4 (0, 8) rfl
  have b5 : (0 : Int) ≤ ρ 5 ∧ ρ 5 ≤ 6 := hB 5 (0, 6) rfl
  have b6 : (0 : Int) ≤ ρ 6 ∧ ρ 6 ≤ 6 := hB 6 (0, 6) rfl
  have b14 : (0 : Int) ≤ ρ 14 ∧ ρ 14 ≤ 23 := hB 14 (0, 23) rfl
  have b16 : ((-1) : Int) ≤ ρ 16 ∧ ρ 16 ≤ 9 := hB 16 ((-1), 9) rfl
  have b17 : ((-1) : Int) ≤ ρ 17 ∧ ρ 17 ≤ 2147483646 := hB 17 ((-1), 2147483646) rfl
  have b18 : (0 : Int) ≤ ρ 18 ∧ ρ 18 ≤ 9 := hB 18 (0, 9) rfl
  have b25 : ((-2147483648) : Int) ≤ ρ 25 ∧ ρ 25 ≤ 2147483647 := hB 25 ((-2147483648), 2147483647) rfl
  have b26 : (0 : Int) ≤ ρ 26 ∧ ρ 26 ≤ 2147483647 := hB 26 (0, 2147483647) rfl
  clear hB
  generalize ρ 2 = r2, ρ 3 = r3, ρ 4 = r4, ρ 5 = r5, ρ 6 = r6, ρ 14 = r14, ρ 16 = r16, ρ 17 = r17, ρ 18 = r18, ρ 25 = r25, ρ 26 = r26, α 7 = a7, α 8 = a8, α 10 = a10, α 11 = a11, α 12 = a12, α 13 = a13, α 15 = a15, α 16 = a16, α 19 = a19, α 20 = a20, α 21 = a21, α 23 = a23, α 24 = a24, α 25 = a25, α 58 = a58, α 59 = a59, α 60 = a60, α 66 = a66, α 67 = a67, α 68 = a68, α 71 = a71, α 72 = a72, α 73 = a73 at *
  subst f5
  subst f6
  subst f7
  omega)
set_option maxRecDepth 1000000 in
theorem k_xo_keep {PT : PTy} (hp : HP13 PT) : wfX c_xo_keep = true ∧ xcOk PT c_xo_keep := xctr (xl (k_fittingBits14 hp.1.1.1.1.1.1.1.1.1) (xl (k_liveX hp.1.1) (xl (k_bitCount hp.1.1) (xl0)))) c_xo_keep 97 mX6_keep rfl h_xo_keep (by decide +kernel) (by decide +kernel) (by decide) (vcs_by [w_xo_keep_0_0, w_xo_keep_0_1, w_xo_keep_0_2, w_xo_keep_0_3, w_xo_keep_0_4, w_xo_keep_0_5, w_xo_keep_0_6, w_xo_keep_0_7, w_xo_keep_0_8, w_xo_keep_0_9, w_xo_keep_0_10, w_xo_keep_0_11, w_xo_keep_0_12, w_xo_keep_0_13, w_xo_keep_0_14] (by decide +kernel) (vc (v_xo_keep_0_0 hp) (vc (v_xo_keep_0_1 hp) (vc (v_xo_keep_0_2 hp) (vc (v_xo_keep_0_3 hp) (vc (v_xo_keep_0_4 hp) (vc (v_xo_keep_0_5 hp) (vc (v_xo_keep_0_6 hp) (vc (v_xo_keep_0_7 hp) (vc (v_xo_keep_0_8 hp) (vc (v_xo_keep_0_9 hp) (vc (v_xo_keep_0_10 hp) (vc (v_xo_keep_0_11 hp) (vc (v_xo_keep_0_12 hp) (vc (v_xo_keep_0_13 hp) (vc (v_xo_keep_0_14 hp) vn)))))))))))))))) (fmc (vcs_by [w_xo_keep_1_0, w_xo_keep_1_1, w_xo_keep_1_2, w_xo_keep_1_3, w_xo_keep_1_4, w_xo_keep_1_5, w_xo_keep_1_6, w_xo_keep_1_7, w_xo_keep_1_8, w_xo_keep_1_9, w_xo_keep_1_10, w_xo_keep_1_11] (by decide +kernel) (vc (v_xo_keep_1_0 hp) (vc (v_xo_keep_1_1 hp) (vc (v_xo_keep_1_2 hp) (vc (v_xo_keep_1_3 hp) (vc (v_xo_keep_1_4 hp) (vc (v_xo_keep_1_5 hp) (vc (v_xo_keep_1_6 hp) (vc (v_xo_keep_1_7 hp) (vc (v_xo_keep_1_8 hp) (vc (v_xo_keep_1_9 hp) (vc (v_xo_keep_1_10 hp) (vc (v_xo_keep_1_11 hp) vn))))))))))))) fmn)
def c_keepBest : XC := (162, 6, (bY ++ [(0, 23), (0, 1)]), [.inr (.inl 0), .inl (some 13, 0), .inl (some 14, 0)], gY2, [(78, [], [1])], [((bY ++ [(0, 23), (0, 1), ((-1), 9), (0, 8), (0, 10), (0, 11), (0, 9), ((-2147483648), 2147483647), ((-2147483648), 2147483647)]), some (.inl (some 15, 0)), (hst gY2 [(0, .inr (.inr (.inr (7, [.inr (.inl 1), .inr (.inl 2), .inl (some 16, 0), .inr (.inl 3), .inr (.inl 4), .inl (some 17, 0), .inr (.inl 5), .inr (.inl 6), .inr (.inl 7), .inr (.inl 8), .inl (some 4, 0), .inr (.inl 9), .inr (.inl 10), .inl (some 5, 0), .inr (.inl 11), .inr (.inl 12), .inr (.inl 13), .inl (some 6, 0), .inr (.inl 14), .inr (.inl 15), .inr (.inl 16), .inl (some 18, 0), .inl (some 19, 0), .inr (.inl 17), .inr (.inl 18), .inl (some 20, 0), .inl (some 21, 0), .inr (.inl 19), .inr (.inl 20), .inr (.inl 21), .inr (.inl 22), .inr (.inl 23), .inr (.inl 24), .inr (.inl 25), .inl (some 7, 0), .inr (.inl 26), .inr (.inl 27), .inr (.inl 28), .inr (.inl 29), .inr (.inl 30), .inr (.inl 31), .inr (.inl 32), .inr (.inl 33), .inr (.inl 34), .inl (some 12, 0)]))))]), [0, 1, 2, 35, 36, 37, 38, 39, 40, 9, 10, 11, 12, 13, 14, 15, 16, 41, 42, 43, 44, 45, 46, 47, 48, 25, 26, 27, 28, 29, 30, 31, 32, 33, 34], 49, [(184, [(some 15, 0), (some 13, 0), (some 14, 0), (some 16, 0), (some 17, 0), (some 4, 0), (some 5, 0), (some 6, 0)], [1, 2, 35, 36, 37, 38, 39, 40, 9, 10, 11, 12, 13, 14, 15, 16])])])
def h_keepBest : List XH := [(32, (bY ++ [(0, 23), (0, 1), ((-1), 9), ((-1), 8), (0, 10), (0, 8), (0, 10), (0, 11), (0, 9), ((-2147483648), 2147483647), ((-2147483648), 2147483647)]), [some (.inr (.inl 0)), some (.inl (some 13, 0)), some (.inl (some 14, 0)), some (.inl (some 15, 0)), some (.inl (some 16, 0)), some (.inl (some 17, 0)), none], (hst gY2 [(0, .inr (.inr (.inr (7, [.inr (.inl 1), .inr (.inl 2), .inl (some 18, 0), .inr (.inl 3), .inr (.inl 4), .inl (some 19, 0), .inr (.inl 5), .inr (.inl 6), .inr (.inl 7), .inr (.inl 8), .inl (some 4, 0), .inr (.inl 9), .inr (.inl 10), .inl (some 5, 0), .inr (.inl 11), .inr (.inl 12), .inr (.inl 13), .inl (some 6, 0), .inr (.inl 14), .inr (.inl 15), .inr (.inl 16), .inl (some 20, 0), .inl (some 21, 0), .inr (.inl 17), .inr (.inl 18), .inl (some 22, 0), .inl (some 23, 0), .inr (.inl 19), .inr (.inl 20), .inr (.inl 21), .inr (.inl 22), .inr (.inl 23), .inr (.inl 24), .inr (.inl 25), .inl (some 7, 0), .inr (.inl 26), .inr (.inl 27), .inr (.inl 28), .inr (.inl 29), .inr (.inl 30), .inr (.inl 31), .inr (.inl 32), .inr (.inl 33), .inr (.inl 34), .inl (some 12, 0)]))))]), [0, 1, 2, 35, 36, 37, 38, 39, 40, 9, 10, 11, 12, 13, 14, 15, 16, 41, 42, 43, 44, 45, 46, 47, 48, 25, 26, 27, 28, 29, 30, 31, 32, 33, 34], 49, [(106, [(some 18, 0), (some 19, 0)], [1, 2, 35, 36, 37, 38, 39, 40]), (105, [(some 4, 0)], [9, 10, 41, 42]), (20, [(some 13, 0), (some 4, 0)], [41]), (183, [(some 17, 0), (some 15, 0), (some 16, 0), (some 13, 0), (some 18, 0), (some 19, 0), (some 4, 0), (some 5, 0), (some 6, 0)], [35, 36, 37, 38, 39, 40, 9, 10, 11, 12, 13, 14, 15, 16]), (0, [(some 20, 0), (some 19, 0)], []), (0, [(some 22, 0), (none, 0)], []), (0, [(some 23, 0), (none, 0)], []), (0, [(some 21, 0), (some 4, 1)], []), (3, [(some 19, 0), (some 17, 0)], [])], [(true, (none, 1)), (true, (some 17, 0))])]
def w_keepBest_0_0 : VC := ((bY ++ [(0, 23), (0, 1), (0, 8), (0, 10), (0, 11), ((-2147483648), 2147483647), ((-2147483648), 2147483647)]), [(21, [(some 4, 0), (some 13, 0)], [43, 41]), (106, [(some 15, 0), (some 16, 0)], [1, 2, 35, 36, 37, 38, 39, 40]), (105, [(some 4, 0)], [9, 10, 41, 42]), (0, [(some 17, 0), (some 16, 0)], []), (0, [(some 4, 0), (some 4, 0)], []), (0, [(some 18, 0), (none, 0)], []), (0, [(some 19, 0), (none, 0)], []), (78, [], [1])], (105, [(some 4, 0)], [9, 10, 43, 42]))
set_option maxRecDepth 20000 in
theorem v_keepBest_0_0 {PT : PTy} (hp : HP13 PT) : vcOk PT w_keepBest_0_0 := vc_of (fun ρ α hB hF => by
  obtain ⟨f0, f1, f2, f3, f4, f5, f6, f7, -⟩ := hF
  have e78 : PT 78 = P_ly := hp.1.1.1.1.1.1.1.1.1.1.1.2.2.2.2.2.2.2.1
  have e105 : PT 105 = P_cp2 := hp.1.1.1.1.1.1.1.1.2.2.2.2.2.2.2.2.2.2.2.1
  have e106 : PT 106 = P_rd := hp.1.1.1.1.1.1.1.1.2.2.2.2.2.2.2.2.2.2.2.2.1
  simp only [hF0, hF21, hFp_78, hFp_105, hFp_106, e78, e105, e106, P_ly, P_cp2, P_rd, den_s, den_c, Int.add_zero, List.map_cons, List.map_nil] at f0 f1 f2 f3 f4 f5 f6 f7 ⊢
  have b4 : (0 : Int) ≤ ρ 4 ∧ ρ 4 ≤ 8 := hB 4 (0, 8) rfl
  have b13 : (0 : Int) ≤ ρ 13 ∧ ρ 13 ≤ 23 := hB 13 (0, 23) rfl
  have b15 : (0 : Int) ≤ ρ 15 ∧ ρ 15 ≤ 8 := hB 15 (0, 8) rfl
  have b16 : (0 : Int) ≤ ρ 16 ∧ ρ 16 ≤ 10 := hB 16 (0, 10) rfl
  have b17 : (0 : Int) ≤ ρ 17 ∧ ρ 17 ≤ 11 := hB 17 (0, 11) rfl
  have b18 : ((-2147483648) : Int) ≤ ρ 18 ∧ ρ 18 ≤ 2147483647 := hB 18 ((-2147483648), 2147483647) rfl
  have b19 : ((-2147483648) : Int) ≤ ρ 19 ∧ ρ 19 ≤ 2147483647 := hB 19 ((-2147483648), 2147483647) rfl
  clear hB
  generalize ρ 4 = r4, ρ 13 = r13, ρ 15 = r15, ρ 16 = r16, ρ 17 = r17, ρ 18 = r18, ρ 19 = r19, α 1 = a1, α 2 = a2, α 9 = a9, α 10 = a10, α 35 = a35, α 36 = a36, α 37 = a37, α 38 = a38, α 39 = a39, α 40 = a40, α 41 = a41, α 42 = a42, α 43 = a43 at *
  subst f0
  intro j h1 h2
  have := f2 j h1 h2
  try rw [updI_ne (by omega)]
  try rw [updI_ne (by omega)]
  exact this)
def w_keepBest_0_1 : VC := ((bY ++ [(0, 23), (0, 1), (0, 8), (0, 10), (0, 11), ((-2147483648), 2147483647), ((-2147483648), 2147483647)]), [(21, [(some 4, 0), (some 13, 0)], [43, 41]), (106, [(some 15, 0), (some 16, 0)], [1, 2, 35, 36, 37, 38, 39, 40]), (105, [(some 4, 0)], [9, 10, 41, 42]), (0, [(some 17, 0), (some 16, 0)], []), (0, [(some 4, 0), (some 4, 0)], []), (0, [(some 18, 0), (none, 0)], []), (0, [(some 19, 0), (none, 0)], []), (78, [], [1])], (20, [(some 13, 0), (some 4, 0)], [43]))
set_option maxRecDepth 20000 in
theorem v_keepBest_0_1 {PT : PTy} (hp : HP13 PT) : vcOk PT w_keepBest_0_1 := vc_of (fun ρ α hB hF => by
  obtain ⟨f0, f1, f2, f3, f4, f5, f6, f7, -⟩ := hF
  have e78 : PT 78 = P_ly := hp.1.1.1.1.1.1.1.1.1.1.1.2.2.2.2.2.2.2.1
  have e105 : PT 105 = P_cp2 := hp.1.1.1.1.1.1.1.1.2.2.2.2.2.2.2.2.2.2.2.1
  have e106 : PT 106 = P_rd := hp.1.1.1.1.1.1.1.1.2.2.2.2.2.2.2.2.2.2.2.2.1
  simp only [hF0, hF20, hF21, hFp_78, hFp_105, hFp_106, e78, e105, e106, P_ly, P_cp2, P_rd, den_s, den_c, Int.add_zero, List.map_cons, List.map_nil] at f0 f1 f2 f3 f4 f5 f6 f7 ⊢
  have b4 : (0 : Int) ≤ ρ 4 ∧ ρ 4 ≤ 8 := hB 4 (0, 8) rfl
  have b13 : (0 : Int) ≤ ρ 13 ∧ ρ 13 ≤ 23 := hB 13 (0, 23) rfl
  have b15 : (0 : Int) ≤ ρ 15 ∧ ρ 15 ≤ 8 := hB 15 (0, 8) rfl
  have b16 : (0 : Int) ≤ ρ 16 ∧ ρ 16 ≤ 10 := hB 16 (0, 10) rfl
  have b17 : (0 : Int) ≤ ρ 17 ∧ ρ 17 ≤ 11 := hB 17 (0, 11) rfl
  have b18 : ((-2147483648) : Int) ≤ ρ 18 ∧ ρ 18 ≤ 2147483647 := hB 18 ((-2147483648), 2147483647) rfl
  have b19 : ((-2147483648) : Int) ≤ ρ 19 ∧ ρ 19 ≤ 2147483647 := hB 19 ((-2147483648), 2147483647) rfl
  clear hB
  generalize ρ 4 = r4, ρ 13 = r13, ρ 15 = r15, ρ 16 = r16, ρ 17 = r17, ρ 18 = r18, ρ 19 = r19, α 1 = a1, α 2 = a2, α 9 = a9, α 10 = a10, α 35 = a35, α 36 = a36, α 37 = a37, α 38 = a38, α 39 = a39, α 40 = a40, α 41 = a41, α 42 = a42, α 43 = a43 at *
  subst f0
  first | rfl | exact (updI_at _ _ _).symm | assumption)
def w_keepBest_0_2 : VC := ((bY ++ [(0, 23), (0, 1), (0, 8), (0, 10), (0, 11), ((-2147483648), 2147483647), ((-2147483648), 2147483647)]), [(21, [(some 4, 0), (some 13, 0)], [43, 41]), (106, [(some 15, 0), (some 16, 0)], [1, 2, 35, 36, 37, 38, 39, 40]), (105, [(some 4, 0)], [9, 10, 41, 42]), (0, [(some 17, 0), (some 16, 0)], []), (0, [(some 4, 0), (some 4, 0)], []), (0, [(some 18, 0), (none, 0)], []), (0, [(some 19, 0), (none, 0)], []), (78, [], [1])], (183, [(none, 0), (none, (-1)), (none, (-1)), (some 13, 0), (some 15, 0), (some 16, 0), (some 4, 0), (some 5, 0), (some 6, 0)], [35, 36, 37, 38, 39, 40, 9, 10, 11, 12, 13, 14, 15, 16]))
set_option maxRecDepth 20000 in
theorem v_keepBest_0_2 {PT : PTy} (hp : HP13 PT) : vcOk PT w_keepBest_0_2 := vc_of (fun ρ α hB hF => by
  obtain ⟨f0, f1, f2, f3, f4, f5, f6, f7, -⟩ := hF
  have e78 : PT 78 = P_ly := hp.1.1.1.1.1.1.1.1.1.1.1.2.2.2.2.2.2.2.1
  have e105 : PT 105 = P_cp2 := hp.1.1.1.1.1.1.1.1.2.2.2.2.2.2.2.2.2.2.2.1
  have e106 : PT 106 = P_rd := hp.1.1.1.1.1.1.1.1.2.2.2.2.2.2.2.2.2.2.2.2.1
  have e183 : PT 183 = P_kyI := hp.2.2.2.2.1
  simp only [hF0, hF21, hFp_78, hFp_105, hFp_106, hFp_183, e78, e105, e106, e183, P_ly, P_cp2, P_rd, P_kyI, den_s, den_c, Int.add_zero, List.map_cons, List.map_nil] at f0 f1 f2 f3 f4 f5 f6 f7 ⊢
  have b4 : (0 : Int) ≤ ρ 4 ∧ ρ 4 ≤ 8 := hB 4 (0, 8) rfl
  have b5 : (0 : Int) ≤ ρ 5 ∧ ρ 5 ≤ 6 := hB 5 (0, 6) rfl
  have b6 : (0 : Int) ≤ ρ 6 ∧ ρ 6 ≤ 6 := hB 6 (0, 6) rfl
  have b13 : (0 : Int) ≤ ρ 13 ∧ ρ 13 ≤ 23 := hB 13 (0, 23) rfl
  have b15 : (0 : Int) ≤ ρ 15 ∧ ρ 15 ≤ 8 := hB 15 (0, 8) rfl
  have b16 : (0 : Int) ≤ ρ 16 ∧ ρ 16 ≤ 10 := hB 16 (0, 10) rfl
  have b17 : (0 : Int) ≤ ρ 17 ∧ ρ 17 ≤ 11 := hB 17 (0, 11) rfl
  have b18 : ((-2147483648) : Int) ≤ ρ 18 ∧ ρ 18 ≤ 2147483647 := hB 18 ((-2147483648), 2147483647) rfl
  have b19 : ((-2147483648) : Int) ≤ ρ 19 ∧ ρ 19 ≤ 2147483647 := hB 19 ((-2147483648), 2147483647) rfl
  clear hB
  generalize ρ 4 = r4, ρ 5 = r5, ρ 6 = r6, ρ 13 = r13, ρ 15 = r15, ρ 16 = r16, ρ 17 = r17, ρ 18 = r18, ρ 19 = r19, α 1 = a1, α 2 = a2, α 9 = a9, α 10 = a10, α 11 = a11, α 12 = a12, α 13 = a13, α 14 = a14, α 15 = a15, α 16 = a16, α 35 = a35, α 36 = a36, α 37 = a37, α 38 = a38, α 39 = a39, α 40 = a40, α 41 = a41, α 42 = a42, α 43 = a43 at *
  subst f0
  exact obS_z)
def w_keepBest_0_3 : VC := ((bY ++ [(0, 23), (0, 1), (0, 8), (0, 10), (0, 11), ((-2147483648), 2147483647), ((-2147483648), 2147483647)]), [(21, [(some 4, 0), (some 13, 0)], [43, 41]), (106, [(some 15, 0), (some 16, 0)], [1, 2, 35, 36, 37, 38, 39, 40]), (105, [(some 4, 0)], [9, 10, 41, 42]), (0, [(some 17, 0), (some 16, 0)], []), (0, [(some 4, 0), (some 4, 0)], []), (0, [(some 18, 0), (none, 0)], []), (0, [(some 19, 0), (none, 0)], []), (78, [], [1])], (0, [(some 4, 1), (some 4, 1)], []))
theorem v_keepBest_0_3 {PT : PTy} (_ : HP13 PT) : vcOk PT w_keepBest_0_3 := vc_of (fun ρ α _ _ => rfl)
def w_keepBest_0_4 : VC := ((bY ++ [(0, 23), (0, 1), (0, 8), (0, 10), (0, 11), ((-2147483648), 2147483647), ((-2147483648), 2147483647)]), [(21, [(some 4, 0), (some 13, 0)], [43, 41]), (106, [(some 15, 0), (some 16, 0)], [1, 2, 35, 36, 37, 38, 39, 40]), (105, [(some 4, 0)], [9, 10, 41, 42]), (0, [(some 17, 0), (some 16, 0)], []), (0, [(some 4, 0), (some 4, 0)], []), (0, [(some 18, 0), (none, 0)], []), (0, [(some 19, 0), (none, 0)], []), (78, [], [1])], (3, [(some 16, 0), (none, 0)], []))
set_option maxRecDepth 20000 in
theorem v_keepBest_0_4 {PT : PTy} (hp : HP13 PT) : vcOk PT w_keepBest_0_4 := vc_of (fun ρ α hB hF => by
  obtain ⟨f0, f1, f2, f3, f4, f5, f6, f7, -⟩ := hF
  have e78 : PT 78 = P_ly := hp.1.1.1.1.1.1.1.1.1.1.1.2.2.2.2.2.2.2.1
  have e105 : PT 105 = P_cp2 := hp.1.1.1.1.1.1.1.1.2.2.2.2.2.2.2.2.2.2.2.1
  have e106 : PT 106 = P_rd := hp.1.1.1.1.1.1.1.1.2.2.2.2.2.2.2.2.2.2.2.2.1
  simp only [hF0, hF3, hF21, hFp_78, hFp_105, hFp_106, e78, e105, e106, P_ly, P_cp2, P_rd, den_s, den_c, Int.add_zero, List.map_cons, List.map_nil] at f0 f1 f2 f3 f4 f5 f6 f7 ⊢
  have b4 : (0 : Int) ≤ ρ 4 ∧ ρ 4 ≤ 8 := hB 4 (0, 8) rfl
  have b13 : (0 : Int) ≤ ρ 13 ∧ ρ 13 ≤ 23 := hB 13 (0, 23) rfl
  have b15 : (0 : Int) ≤ ρ 15 ∧ ρ 15 ≤ 8 := hB 15 (0, 8) rfl
  have b16 : (0 : Int) ≤ ρ 16 ∧ ρ 16 ≤ 10 := hB 16 (0, 10) rfl
  have b17 : (0 : Int) ≤ ρ 17 ∧ ρ 17 ≤ 11 := hB 17 (0, 11) rfl
  have b18 : ((-2147483648) : Int) ≤ ρ 18 ∧ ρ 18 ≤ 2147483647 := hB 18 ((-2147483648), 2147483647) rfl
  have b19 : ((-2147483648) : Int) ≤ ρ 19 ∧ ρ 19 ≤ 2147483647 := hB 19 ((-2147483648), 2147483647) rfl
  clear hB
  generalize ρ 4 = r4, ρ 13 = r13, ρ 15 = r15, ρ 16 = r16, ρ 17 = r17, ρ 18 = r18, ρ 19 = r19, α 1 = a1, α 2 = a2, α 9 = a9, α 10 = a10, α 35 = a35, α 36 = a36, α 37 = a37, α 38 = a38, α 39 = a39, α 40 = a40, α 41 = a41, α 42 = a42, α 43 = a43 at *
  subst f0
  omega)
def w_keepBest_1_0 : VC := ((bY ++ [(0, 23), (1, 1), ((-1), 9), ((-1), 8), (0, 10), (0, 8), (0, 10), (0, 11), (0, 9), ((-2147483648), 2147483647), ((-2147483648), 2147483647)]), [(1, [(some 14, 0), (none, 0)], []), (3, [(some 17, 0), (some 19, 0)], []), (106, [(some 18, 0), (some 19, 0)], [1, 2, 35, 36, 37, 38, 39, 40]), (105, [(some 4, 0)], [9, 10, 41, 42]), (20, [(some 13, 0), (some 4, 0)], [41]), (183, [(some 17, 0), (some 15, 0), (some 16, 0), (some 13, 0), (some 18, 0), (some 19, 0), (some 4, 0), (some 5, 0), (some 6, 0)], [35, 36, 37, 38, 39, 40, 9, 10, 11, 12, 13, 14, 15, 16]), (0, [(some 20, 0), (some 19, 0)], []), (0, [(some 22, 0), (none, 0)], []), (0, [(some 23, 0), (none, 0)], []), (0, [(some 21, 0), (some 4, 1)], []), (3, [(some 19, 0), (some 17, 0)], []), (78, [], [1])], (184, [(some 16, 0), (some 13, 0), (some 14, 0), (some 18, 0), (some 19, 0), (some 4, 0), (some 5, 0), (some 6, 0)], [1, 2, 35, 36, 37, 38, 39, 40, 9, 10, 11, 12, 13, 14, 15, 16]))
set_option maxRecDepth 20000 in
theorem v_keepBest_1_0 {PT : PTy} (hp : HP13 PT) : vcOk PT w_keepBest_1_0 := vc_of (fun ρ α hB hF => by
  obtain ⟨-, f1, f2, f3, f4, f5, f6, f7, f8, f9, f10, f11, -⟩ := hF
  have e78 : PT 78 = P_ly := hp.1.1.1.1.1.1.1.1.1.1.1.2.2.2.2.2.2.2.1
  have e105 : PT 105 = P_cp2 := hp.1.1.1.1.1.1.1.1.2.2.2.2.2.2.2.2.2.2.2.1
  have e106 : PT 106 = P_rd := hp.1.1.1.1.1.1.1.1.2.2.2.2.2.2.2.2.2.2.2.2.1
  have e183 : PT 183 = P_kyI := hp.2.2.2.2.1
  have e184 : PT 184 = P_kyP := hp.2.2.2.2.2.1
  simp only [hF0, hF3, hF20, hFp_78, hFp_105, hFp_106, hFp_183, hFp_184, e78, e105, e106, e183, e184, P_ly, P_cp2, P_rd, P_kyI, P_kyP, den_s, den_c, Int.add_zero, List.map_cons, List.map_nil] at f1 f2 f3 f4 f5 f6 f7 f8 f9 f10 f11 ⊢
  have b4 : (0 : Int) ≤ ρ 4 ∧ ρ 4 ≤ 8 := hB 4 (0, 8) rfl
  have b5 : (0 : Int) ≤ ρ 5 ∧ ρ 5 ≤ 6 := hB 5 (0, 6) rfl
  have b6 : (0 : Int) ≤ ρ 6 ∧ ρ 6 ≤ 6 := hB 6 (0, 6) rfl
  have b13 : (0 : Int) ≤ ρ 13 ∧ ρ 13 ≤ 23 := hB 13 (0, 23) rfl
  have b14 : (1 : Int) ≤ ρ 14 ∧ ρ 14 ≤ 1 := hB 14 (1, 1) rfl
  have b15 : ((-1) : Int) ≤ ρ 15 ∧ ρ 15 ≤ 9 := hB 15 ((-1), 9) rfl
  have b16 : ((-1) : Int) ≤ ρ 16 ∧ ρ 16 ≤ 8 := hB 16 ((-1), 8) rfl
  have b17 : (0 : Int) ≤ ρ 17 ∧ ρ 17 ≤ 10 := hB 17 (0, 10) rfl
  have b18 : (0 : Int) ≤ ρ 18 ∧ ρ 18 ≤ 8 := hB 18 (0, 8) rfl
  have b19 : (0 : Int) ≤ ρ 19 ∧ ρ 19 ≤ 10 := hB 19 (0, 10) rfl
  have b20 : (0 : Int) ≤ ρ 20 ∧ ρ 20 ≤ 11 := hB 20 (0, 11) rfl
  have b21 : (0 : Int) ≤ ρ 21 ∧ ρ 21 ≤ 9 := hB 21 (0, 9) rfl
  have b22 : ((-2147483648) : Int) ≤ ρ 22 ∧ ρ 22 ≤ 2147483647 := hB 22 ((-2147483648), 2147483647) rfl
  have b23 : ((-2147483648) : Int) ≤ ρ 23 ∧ ρ 23 ≤ 2147483647 := hB 23 ((-2147483648), 2147483647) rfl
  clear hB
  generalize ρ 4 = r4, ρ 5 = r5, ρ 6 = r6, ρ 13 = r13, ρ 14 = r14, ρ 15 = r15, ρ 16 = r16, ρ 17 = r17, ρ 18 = r18, ρ 19 = r19, ρ 20 = r20, ρ 21 = r21, ρ 22 = r22, ρ 23 = r23, α 1 = a1, α 2 = a2, α 9 = a9, α 10 = a10, α 11 = a11, α 12 = a12, α 13 = a13, α 14 = a14, α 15 = a15, α 16 = a16, α 35 = a35, α 36 = a36, α 37 = a37, α 38 = a38, α 39 = a39, α 40 = a40, α 41 = a41, α 42 = a42 at *
  subst f4
  have hh := f5
  rw [show r17 = r19 by omega] at hh
  refine ⟨f2, _, _, hh, ?_, ?_⟩
  all_goals (intro q; first | rfl | (exfalso; omega)))
def w_keepBest_1_1 : VC := ((bY ++ [(0, 23), (0, 0), ((-1), 9), ((-1), 8), (0, 10), (0, 8), (0, 10), (0, 11), (0, 9), ((-2147483648), 2147483647), ((-2147483648), 2147483647)]), [(0, [(some 14, 0), (none, 0)], []), (3, [(some 17, 0), (some 19, 0)], []), (106, [(some 18, 0), (some 19, 0)], [1, 2, 35, 36, 37, 38, 39, 40]), (105, [(some 4, 0)], [9, 10, 41, 42]), (20, [(some 13, 0), (some 4, 0)], [41]), (183, [(some 17, 0), (some 15, 0), (some 16, 0), (some 13, 0), (some 18, 0), (some 19, 0), (some 4, 0), (some 5, 0), (some 6, 0)], [35, 36, 37, 38, 39, 40, 9, 10, 11, 12, 13, 14, 15, 16]), (0, [(some 20, 0), (some 19, 0)], []), (0, [(some 22, 0), (none, 0)], []), (0, [(some 23, 0), (none, 0)], []), (0, [(some 21, 0), (some 4, 1)], []), (3, [(some 19, 0), (some 17, 0)], []), (78, [], [1])], (184, [(some 15, 0), (some 13, 0), (some 14, 0), (some 18, 0), (some 19, 0), (some 4, 0), (some 5, 0), (some 6, 0)], [1, 2, 35, 36, 37, 38, 39, 40, 9, 10, 11, 12, 13, 14, 15, 16]))
set_option maxRecDepth 20000 in
theorem v_keepBest_1_1 {PT : PTy} (hp : HP13 PT) : vcOk PT w_keepBest_1_1 := vc_of (fun ρ α hB hF => by
  obtain ⟨f0, f1, f2, f3, f4, f5, f6, f7, f8, f9, f10, f11, -⟩ := hF
  have e78 : PT 78 = P_ly := hp.1.1.1.1.1.1.1.1.1.1.1.2.2.2.2.2.2.2.1
  have e105 : PT 105 = P_cp2 := hp.1.1.1.1.1.1.1.1.2.2.2.2.2.2.2.2.2.2.2.1
  have e106 : PT 106 = P_rd := hp.1.1.1.1.1.1.1.1.2.2.2.2.2.2.2.2.2.2.2.2.1
  have e183 : PT 183 = P_kyI := hp.2.2.2.2.1
  have e184 : PT 184 = P_kyP := hp.2.2.2.2.2.1
  simp only [hF0, hF3, hF20, hFp_78, hFp_105, hFp_106, hFp_183, hFp_184, e78, e105, e106, e183, e184, P_ly, P_cp2, P_rd, P_kyI, P_kyP, den_s, den_c, Int.add_zero, List.map_cons, List.map_nil] at f0 f1 f2 f3 f4 f5 f6 f7 f8 f9 f10 f11 ⊢
  have b4 : (0 : Int) ≤ ρ 4 ∧ ρ 4 ≤ 8 := hB 4 (0, 8) rfl
  have b5 : (0 : Int) ≤ ρ 5 ∧ ρ 5 ≤ 6 := hB 5 (0, 6) rfl
  have b6 : (0 : Int) ≤ ρ 6 ∧ ρ 6 ≤ 6 := hB 6 (0, 6) rfl
  have b13 : (0 : Int) ≤ ρ 13 ∧ ρ 13 ≤ 23 := hB 13 (0, 23) rfl
  have b14 : (0 : Int) ≤ ρ 14 ∧ ρ 14 ≤ 0 := hB 14 (0, 0) rfl
  have b15 : ((-1) : Int) ≤ ρ 15 ∧ ρ 15 ≤ 9 := hB 15 ((-1), 9) rfl
  have b16 : ((-1) : Int) ≤ ρ 16 ∧ ρ 16 ≤ 8 := hB 16 ((-1), 8) rfl
  have b17 : (0 : Int) ≤ ρ 17 ∧ ρ 17 ≤ 10 := hB 17 (0, 10) rfl
  have b18 : (0 : Int) ≤ ρ 18 ∧ ρ 18 ≤ 8 := hB 18 (0, 8) rfl
  have b19 : (0 : Int) ≤ ρ 19 ∧ ρ 19 ≤ 10 := hB 19 (0, 10) rfl
  have b20 : (0 : Int) ≤ ρ 20 ∧ ρ 20 ≤ 11 := hB 20 (0, 11) rfl
  have b21 : (0 : Int) ≤ ρ 21 ∧ ρ 21 ≤ 9 := hB 21 (0, 9) rfl
  have b22 : ((-2147483648) : Int) ≤ ρ 22 ∧ ρ 22 ≤ 2147483647 := hB 22 ((-2147483648), 2147483647) rfl
  have b23 : ((-2147483648) : Int) ≤ ρ 23 ∧ ρ 23 ≤ 2147483647 := hB 23 ((-2147483648), 2147483647) rfl
  clear hB
  generalize ρ 4 = r4, ρ 5 = r5, ρ 6 = r6, ρ 13 = r13, ρ 14 = r14, ρ 15 = r15, ρ 16 = r16, ρ 17 = r17, ρ 18 = r18, ρ 19 = r19, ρ 20 = r20, ρ 21 = r21, ρ 22 = r22, ρ 23 = r23, α 1 = a1, α 2 = a2, α 9 = a9, α 10 = a10, α 11 = a11, α 12 = a12, α 13 = a13, α 14 = a14, α 15 = a15, α 16 = a16, α 35 = a35, α 36 = a36, α 37 = a37, α 38 = a38, α 39 = a39, α 40 = a40, α 41 = a41, α 42 = a42 at *
  subst f4
  have hh := f5
  rw [show r17 = r19 by omega] at hh
  refine ⟨f2, _, _, hh, ?_, ?_⟩
  all_goals (intro q; first | rfl | (exfalso; omega)))
def w_keepBest_1_2 : VC := ((bY ++ [(0, 23), (0, 1), ((-1), 9), (0, 8), (0, 9), (0, 8), (1, 10), (0, 11), (0, 9), ((-2147483648), 2147483647), ((-2147483648), 2147483647), (0, 8)]), [(3, [(some 16, 0), (some 24, 0)], []), (3, [(some 16, 0), (some 24, 0)], []), (174, [(some 24, 0), (some 18, 0), (none, 23)], [53, 36]), (104, [(none, 24), (some 18, 0), (some 20, 0), (some 19, 0), (some 21, 0), (some 5, 0), (some 6, 0), (some 22, 0), (some 23, 0)], [35, 36, 37, 38, 39, 40, 41, 49, 11, 12, 13, 14, 15, 16, 43, 44, 45, 50, 51, 52, 53, 54, 55]), (21, [(some 4, 0), (some 17, 0)], [49, 42]), (2, [(some 17, 0), (some 19, 0)], []), (106, [(some 18, 0), (some 19, 0)], [1, 2, 35, 36, 37, 38, 39, 40]), (105, [(some 4, 0)], [9, 10, 41, 42]), (20, [(some 13, 0), (some 4, 0)], [41]), (183, [(some 17, 0), (some 15, 0), (some 16, 0), (some 13, 0), (some 18, 0), (some 19, 0), (some 4, 0), (some 5, 0), (some 6, 0)], [35, 36, 37, 38, 39, 40, 9, 10, 11, 12, 13, 14, 15, 16]), (0, [(some 20, 0), (some 19, 0)], []), (0, [(some 22, 0), (none, 0)], []), (0, [(some 23, 0), (none, 0)], []), (0, [(some 21, 0), (some 4, 1)], []), (3, [(some 19, 0), (some 17, 0)], []), (78, [], [1])], (105, [(some 4, 0)], [9, 10, 41, 49]))
set_option maxRecDepth 20000 in
theorem v_keepBest_1_2 {PT : PTy} (hp : HP13 PT) : vcOk PT w_keepBest_1_2 := vc_of (fun ρ α hB hF => by
  obtain ⟨f0, -, f2, f3, f4, f5, f6, f7, f8, f9, f10, f11, f12, f13, f14, f15, -⟩ := hF
  have e78 : PT 78 = P_ly := hp.1.1.1.1.1.1.1.1.1.1.1.2.2.2.2.2.2.2.1
  have e104 : PT 104 = P_ru := hp.1.1.1.1.1.1.1.1.2.2.2.2.2.2.2.2.2.2.1
  have e105 : PT 105 = P_cp2 := hp.1.1.1.1.1.1.1.1.2.2.2.2.2.2.2.2.2.2.2.1
  have e106 : PT 106 = P_rd := hp.1.1.1.1.1.1.1.1.2.2.2.2.2.2.2.2.2.2.2.2.1
  have e174 : PT 174 = P_cnY := hp.1.2.2.2.2.2.2.2.2.2.2.2.2.1
  have e183 : PT 183 = P_kyI := hp.2.2.2.2.1
  simp only [hF0, hF2, hF3, hF20, hF21, hFp_78, hFp_104, hFp_105, hFp_106, hFp_174, hFp_183, e78, e104, e105, e106, e174, e183, P_ly, P_ru, P_cp2, P_rd, P_cnY, P_kyI, den_s, den_c, Int.add_zero, List.map_cons, List.map_nil] at f0 f2 f3 f4 f5 f6 f7 f8 f9 f10 f11 f12 f13 f14 f15 ⊢
  have b4 : (0 : Int) ≤ ρ 4 ∧ ρ 4 ≤ 8 := hB 4 (0, 8) rfl
  have b5 : (0 : Int) ≤ ρ 5 ∧ ρ 5 ≤ 6 := hB 5 (0, 6) rfl
  have b6 : (0 : Int) ≤ ρ 6 ∧ ρ 6 ≤ 6 := hB 6 (0, 6) rfl
  have b13 : (0 : Int) ≤ ρ 13 ∧ ρ 13 ≤ 23 := hB 13 (0, 23) rfl
  have b15 : ((-1) : Int) ≤ ρ 15 ∧ ρ 15 ≤ 9 := hB 15 ((-1), 9) rfl
  have b16 : (0 : Int) ≤ ρ 16 ∧ ρ 16 ≤ 8 := hB 16 (0, 8) rfl
  have b17 : (0 : Int) ≤ ρ 17 ∧ ρ 17 ≤ 9 := hB 17 (0, 9) rfl
  have b18 : (0 : Int) ≤ ρ 18 ∧ ρ 18 ≤ 8 := hB 18 (0, 8) rfl
  have b19 : (1 : Int) ≤ ρ 19 ∧ ρ 19 ≤ 10 := hB 19 (1, 10) rfl
  have b20 : (0 : Int) ≤ ρ 20 ∧ ρ 20 ≤ 11 := hB 20 (0, 11) rfl
  have b21 : (0 : Int) ≤ ρ 21 ∧ ρ 21 ≤ 9 := hB 21 (0, 9) rfl
  have b22 : ((-2147483648) : Int) ≤ ρ 22 ∧ ρ 22 ≤ 2147483647 := hB 22 ((-2147483648), 2147483647) rfl
  have b23 : ((-2147483648) : Int) ≤ ρ 23 ∧ ρ 23 ≤ 2147483647 := hB 23 ((-2147483648), 2147483647) rfl
  have b24 : (0 : Int) ≤ ρ 24 ∧ ρ 24 ≤ 8 := hB 24 (0, 8) rfl
  clear hB
  generalize ρ 4 = r4, ρ 5 = r5, ρ 6 = r6, ρ 13 = r13, ρ 15 = r15, ρ 16 = r16, ρ 17 = r17, ρ 18 = r18, ρ 19 = r19, ρ 20 = r20, ρ 21 = r21, ρ 22 = r22, ρ 23 = r23, ρ 24 = r24, α 1 = a1, α 2 = a2, α 9 = a9, α 10 = a10, α 11 = a11, α 12 = a12, α 13 = a13, α 14 = a14, α 15 = a15, α 16 = a16, α 35 = a35, α 36 = a36, α 37 = a37, α 38 = a38, α 39 = a39, α 40 = a40, α 41 = a41, α 42 = a42, α 43 = a43, α 44 = a44, α 45 = a45, α 49 = a49, α 50 = a50, α 51 = a51, α 52 = a52, α 53 = a53, α 54 = a54, α 55 = a55 at *
  subst f4
  subst f8
  intro j h1 h2
  have := f7 j h1 h2
  try rw [updI_ne (by omega)]
  try rw [updI_ne (by omega)]
  exact this)
def w_keepBest_1_3 : VC := ((bY ++ [(0, 23), (0, 1), ((-1), 9), (0, 8), (0, 9), (0, 8), (1, 10), (0, 11), (0, 9), ((-2147483648), 2147483647), ((-2147483648), 2147483647), (0, 8)]), [(3, [(some 16, 0), (some 24, 0)], []), (3, [(some 16, 0), (some 24, 0)], []), (174, [(some 24, 0), (some 18, 0), (none, 23)], [53, 36]), (104, [(none, 24), (some 18, 0), (some 20, 0), (some 19, 0), (some 21, 0), (some 5, 0), (some 6, 0), (some 22, 0), (some 23, 0)], [35, 36, 37, 38, 39, 40, 41, 49, 11, 12, 13, 14, 15, 16, 43, 44, 45, 50, 51, 52, 53, 54, 55]), (21, [(some 4, 0), (some 17, 0)], [49, 42]), (2, [(some 17, 0), (some 19, 0)], []), (106, [(some 18, 0), (some 19, 0)], [1, 2, 35, 36, 37, 38, 39, 40]), (105, [(some 4, 0)], [9, 10, 41, 42]), (20, [(some 13, 0), (some 4, 0)], [41]), (183, [(some 17, 0), (some 15, 0), (some 16, 0), (some 13, 0), (some 18, 0), (some 19, 0), (some 4, 0), (some 5, 0), (some 6, 0)], [35, 36, 37, 38, 39, 40, 9, 10, 11, 12, 13, 14, 15, 16]), (0, [(some 20, 0), (some 19, 0)], []), (0, [(some 22, 0), (none, 0)], []), (0, [(some 23, 0), (none, 0)], []), (0, [(some 21, 0), (some 4, 1)], []), (3, [(some 19, 0), (some 17, 0)], []), (78, [], [1])], (183, [(some 17, 1), (some 15, 0), (some 16, 0), (some 13, 0), (some 18, 0), (some 19, 0), (some 4, 0), (some 5, 0), (some 6, 0)], [35, 36, 37, 38, 39, 40, 9, 10, 11, 12, 13, 14, 15, 16]))
set_option maxRecDepth 20000 in
theorem v_keepBest_1_3 {PT : PTy} (hp : HP13 PT) : vcOk PT w_keepBest_1_3 := vc_of (fun ρ α hB hF => by
  obtain ⟨f0, -, f2, f3, f4, f5, f6, f7, f8, f9, f10, f11, f12, f13, f14, f15, -⟩ := hF
  have e78 : PT 78 = P_ly := hp.1.1.1.1.1.1.1.1.1.1.1.2.2.2.2.2.2.2.1
  have e104 : PT 104 = P_ru := hp.1.1.1.1.1.1.1.1.2.2.2.2.2.2.2.2.2.2.1
  have e105 : PT 105 = P_cp2 := hp.1.1.1.1.1.1.1.1.2.2.2.2.2.2.2.2.2.2.2.1
  have e106 : PT 106 = P_rd := hp.1.1.1.1.1.1.1.1.2.2.2.2.2.2.2.2.2.2.2.2.1
  have e174 : PT 174 = P_cnY := hp.1.2.2.2.2.2.2.2.2.2.2.2.2.1
  have e183 : PT 183 = P_kyI := hp.2.2.2.2.1
  simp only [hF0, hF2, hF3, hF20, hF21, hFp_78, hFp_104, hFp_105, hFp_106, hFp_174, hFp_183, e78, e104, e105, e106, e174, e183, P_ly, P_ru, P_cp2, P_rd, P_cnY, P_kyI, den_s, den_c, Int.add_zero, List.map_cons, List.map_nil] at f0 f2 f3 f4 f5 f6 f7 f8 f9 f10 f11 f12 f13 f14 f15 ⊢
  have b4 : (0 : Int) ≤ ρ 4 ∧ ρ 4 ≤ 8 := hB 4 (0, 8) rfl
  have b5 : (0 : Int) ≤ ρ 5 ∧ ρ 5 ≤ 6 := hB 5 (0, 6) rfl
  have b6 : (0 : Int) ≤ ρ 6 ∧ ρ 6 ≤ 6 := hB 6 (0, 6) rfl
  have b13 : (0 : Int) ≤ ρ 13 ∧ ρ 13 ≤ 23 := hB 13 (0, 23) rfl
  have b15 : ((-1) : Int) ≤ ρ 15 ∧ ρ 15 ≤ 9 := hB 15 ((-1), 9) rfl
  have b16 : (0 : Int) ≤ ρ 16 ∧ ρ 16 ≤ 8 := hB 16 (0, 8) rfl
  have b17 : (0 : Int) ≤ ρ 17 ∧ ρ 17 ≤ 9 := hB 17 (0, 9) rfl
  have b18 : (0 : Int) ≤ ρ 18 ∧ ρ 18 ≤ 8 := hB 18 (0, 8) rfl
  have b19 : (1 : Int) ≤ ρ 19 ∧ ρ 19 ≤ 10 := hB 19 (1, 10) rfl
  have b20 : (0 : Int) ≤ ρ 20 ∧ ρ 20 ≤ 11 := hB 20 (0, 11) rfl
  have b21 : (0 : Int) ≤ ρ 21 ∧ ρ 21 ≤ 9 := hB 21 (0, 9) rfl
  have b22 : ((-2147483648) : Int) ≤ ρ 22 ∧ ρ 22 ≤ 2147483647 := hB 22 ((-2147483648), 2147483647) rfl
  have b23 : ((-2147483648) : Int) ≤ ρ 23 ∧ ρ 23 ≤ 2147483647 := hB 23 ((-2147483648), 2147483647) rfl
  have b24 : (0 : Int) ≤ ρ 24 ∧ ρ 24 ≤ 8 := hB 24 (0, 8) rfl
  clear hB
  generalize ρ 4 = r4, ρ 5 = r5, ρ 6 = r6, ρ 13 = r13, ρ 15 = r15, ρ 16 = r16, ρ 17 = r17, ρ 18 = r18, ρ 19 = r19, ρ 20 = r20, ρ 21 = r21, ρ 22 = r22, ρ 23 = r23, ρ 24 = r24, α 1 = a1, α 2 = a2, α 9 = a9, α 10 = a10, α 11 = a11, α 12 = a12, α 13 = a13, α 14 = a14, α 15 = a15, α 16 = a16, α 35 = a35, α 36 = a36, α 37 = a37, α 38 = a38, α 39 = a39, α 40 = a40, α 41 = a41, α 42 = a42, α 43 = a43, α 44 = a44, α 45 = a45, α 49 = a49, α 50 = a50, α 51 = a51, α 52 = a52, α 53 = a53, α 54 = a54, α 55 = a55 at *
  subst f4
  subst f8
  obtain ⟨h1, h2⟩ := f3
  have e1 : r20 = r19 := by omega
  have e2 : r22 = 0 := by omega
  have e3 : r23 = 0 := by omega
  have e4 : r21 = r4 + 1 := by omega
  rw [e1, e2, e3, e4] at h1 h2
  have hc := (f2).1
  have hp := f7
  have hi := f9
  subst hc
  first
    | (exfalso; omega)
    | exact obS_t hi (by omega) ⟨_, _, _, _, _, _, _, _, fun i i1 i2 => (by rw [updI_ne (by omega)]; exact hp i i1 i2), (by first | rfl | exact updI_at _ _ _ | omega), updI_at _ _ _, ⟨_, _, _, h1, h2⟩, rfl⟩ (by omega) (by rw [cnt_G]; exact (cntG_nn _ _).1)
    | exact obS_k hi (by omega) ⟨_, _, _, _, _, _, _, _, fun i i1 i2 => (by rw [updI_ne (by omega)]; exact hp i i1 i2), (by first | rfl | exact updI_at _ _ _ | omega), updI_at _ _ _, ⟨_, _, _, h1, h2⟩, rfl⟩ (by omega) (by rw [cnt_G]; exact (cntG_nn _ _).1))
def w_keepBest_1_4 : VC := ((bY ++ [(0, 23), (0, 1), ((-1), 9), (0, 8), (0, 9), (0, 8), (1, 10), (0, 11), (0, 9), ((-2147483648), 2147483647), ((-2147483648), 2147483647), (0, 8)]), [(3, [(some 16, 0), (some 24, 0)], []), (3, [(some 16, 0), (some 24, 0)], []), (174, [(some 24, 0), (some 18, 0), (none, 23)], [53, 36]), (104, [(none, 24), (some 18, 0), (some 20, 0), (some 19, 0), (some 21, 0), (some 5, 0), (some 6, 0), (some 22, 0), (some 23, 0)], [35, 36, 37, 38, 39, 40, 41, 49, 11, 12, 13, 14, 15, 16, 43, 44, 45, 50, 51, 52, 53, 54, 55]), (21, [(some 4, 0), (some 17, 0)], [49, 42]), (2, [(some 17, 0), (some 19, 0)], []), (106, [(some 18, 0), (some 19, 0)], [1, 2, 35, 36, 37, 38, 39, 40]), (105, [(some 4, 0)], [9, 10, 41, 42]), (20, [(some 13, 0), (some 4, 0)], [41]), (183, [(some 17, 0), (some 15, 0), (some 16, 0), (some 13, 0), (some 18, 0), (some 19, 0), (some 4, 0), (some 5, 0), (some 6, 0)], [35, 36, 37, 38, 39, 40, 9, 10, 11, 12, 13, 14, 15, 16]), (0, [(some 20, 0), (some 19, 0)], []), (0, [(some 22, 0), (none, 0)], []), (0, [(some 23, 0), (none, 0)], []), (0, [(some 21, 0), (some 4, 1)], []), (3, [(some 19, 0), (some 17, 0)], []), (78, [], [1])], (3, [(some 19, 0), (some 17, 1)], []))
set_option maxRecDepth 20000 in
theorem v_keepBest_1_4 {PT : PTy} (hp : HP13 PT) : vcOk PT w_keepBest_1_4 := vc_of (fun ρ α hB hF => by
  obtain ⟨f0, -, f2, f3, f4, f5, f6, f7, f8, f9, f10, f11, f12, f13, f14, f15, -⟩ := hF
  have e78 : PT 78 = P_ly := hp.1.1.1.1.1.1.1.1.1.1.1.2.2.2.2.2.2.2.1
  have e104 : PT 104 = P_ru := hp.1.1.1.1.1.1.1.1.2.2.2.2.2.2.2.2.2.2.1
  have e105 : PT 105 = P_cp2 := hp.1.1.1.1.1.1.1.1.2.2.2.2.2.2.2.2.2.2.2.1
  have e106 : PT 106 = P_rd := hp.1.1.1.1.1.1.1.1.2.2.2.2.2.2.2.2.2.2.2.2.1
  have e174 : PT 174 = P_cnY := hp.1.2.2.2.2.2.2.2.2.2.2.2.2.1
  have e183 : PT 183 = P_kyI := hp.2.2.2.2.1
  simp only [hF0, hF2, hF3, hF20, hF21, hFp_78, hFp_104, hFp_105, hFp_106, hFp_174, hFp_183, e78, e104, e105, e106, e174, e183, P_ly, P_ru, P_cp2, P_rd, P_cnY, P_kyI, den_s, den_c, Int.add_zero, List.map_cons, List.map_nil] at f0 f2 f3 f4 f5 f6 f7 f8 f9 f10 f11 f12 f13 f14 f15 ⊢
  have b4 : (0 : Int) ≤ ρ 4 ∧ ρ 4 ≤ 8 := hB 4 (0, 8) rfl
  have b5 : (0 : Int) ≤ ρ 5 ∧ ρ 5 ≤ 6 := hB 5 (0, 6) rfl
  have b6 : (0 : Int) ≤ ρ 6 ∧ ρ 6 ≤ 6 := hB 6 (0, 6) rfl
  have b13 : (0 : Int) ≤ ρ 13 ∧ ρ 13 ≤ 23 := hB 13 (0, 23) rfl
  have b15 : ((-1) : Int) ≤ ρ 15 ∧ ρ 15 ≤ 9 := hB 15 ((-1), 9) rfl
  have b16 : (0 : Int) ≤ ρ 16 ∧ ρ 16 ≤ 8 := hB 16 (0, 8) rfl
  have b17 : (0 : Int) ≤ ρ 17 ∧ ρ 17 ≤ 9 := hB 17 (0, 9) rfl
  have b18 : (0 : Int) ≤ ρ 18 ∧ ρ 18 ≤ 8 := hB 18 (0, 8) rfl
  have b19 : (1 : Int) ≤ ρ 19 ∧ ρ 19 ≤ 10 := hB 19 (1, 10) rfl
  have b20 : (0 : Int) ≤ ρ 20 ∧ ρ 20 ≤ 11 := hB 20 (0, 11) rfl
  have b21 : (0 : Int) ≤ ρ 21 ∧ ρ 21 ≤ 9 := hB 21 (0, 9) rfl
  have b22 : ((-2147483648) : Int) ≤ ρ 22 ∧ ρ 22 ≤ 2147483647 := hB 22 ((-2147483648), 2147483647) rfl
  have b23 : ((-2147483648) : Int) ≤ ρ 23 ∧ ρ 23 ≤ 2147483647 := hB 23 ((-2147483648), 2147483647) rfl
  have b24 : (0 : Int) ≤ ρ 24 ∧ ρ 24 ≤ 8 := hB 24 (0, 8) rfl
  clear hB
  generalize ρ 4 = r4, ρ 5 = r5, ρ 6 = r6, ρ 13 = r13, ρ 15 = r15, ρ 16 = r16, ρ 17 = r17, ρ 18 = r18, ρ 19 = r19, ρ 20 = r20, ρ 21 = r21, ρ 22 = r22, ρ 23 = r23, ρ 24 = r24, α 1 = a1, α 2 = a2, α 9 = a9, α 10 = a10, α 11 = a11, α 12 = a12, α 13 = a13, α 14 = a14, α 15 = a15, α 16 = a16, α 35 = a35, α 36 = a36, α 37 = a37, α 38 = a38, α 39 = a39, α 40 = a40, α 41 = a41, α 42 = a42, α 43 = a43, α 44 = a44, α 45 = a45, α 49 = a49, α 50 = a50, α 51 = a51, α 52 = a52, α 53 = a53, α 54 = a54, α 55 = a55 at *
  subst f4
  subst f8
  omega)
def w_keepBest_1_5 : VC := ((bY ++ [(0, 23), (0, 1), ((-1), 9), (0, 7), (0, 9), (0, 8), (1, 10), (0, 11), (0, 9), ((-2147483648), 2147483647), ((-2147483648), 2147483647), (1, 8)]), [(2, [(some 16, 0), (some 24, 0)], []), (3, [(some 16, 0), (some 24, 0)], []), (174, [(some 24, 0), (some 18, 0), (none, 23)], [53, 36]), (104, [(none, 24), (some 18, 0), (some 20, 0), (some 19, 0), (some 21, 0), (some 5, 0), (some 6, 0), (some 22, 0), (some 23, 0)], [35, 36, 37, 38, 39, 40, 41, 49, 11, 12, 13, 14, 15, 16, 43, 44, 45, 50, 51, 52, 53, 54, 55]), (21, [(some 4, 0), (some 17, 0)], [49, 42]), (2, [(some 17, 0), (some 19, 0)], []), (106, [(some 18, 0), (some 19, 0)], [1, 2, 35, 36, 37, 38, 39, 40]), (105, [(some 4, 0)], [9, 10, 41, 42]), (20, [(some 13, 0), (some 4, 0)], [41]), (183, [(some 17, 0), (some 15, 0), (some 16, 0), (some 13, 0), (some 18, 0), (some 19, 0), (some 4, 0), (some 5, 0), (some 6, 0)], [35, 36, 37, 38, 39, 40, 9, 10, 11, 12, 13, 14, 15, 16]), (0, [(some 20, 0), (some 19, 0)], []), (0, [(some 22, 0), (none, 0)], []), (0, [(some 23, 0), (none, 0)], []), (0, [(some 21, 0), (some 4, 1)], []), (3, [(some 19, 0), (some 17, 0)], []), (78, [], [1])], (105, [(some 4, 0)], [9, 10, 41, 49]))
set_option maxRecDepth 20000 in
theorem v_keepBest_1_5 {PT : PTy} (hp : HP13 PT) : vcOk PT w_keepBest_1_5 := vc_of (fun ρ α hB hF => by
  obtain ⟨f0, f1, f2, f3, f4, f5, f6, f7, f8, f9, f10, f11, f12, f13, f14, f15, -⟩ := hF
  have e78 : PT 78 = P_ly := hp.1.1.1.1.1.1.1.1.1.1.1.2.2.2.2.2.2.2.1
  have e104 : PT 104 = P_ru := hp.1.1.1.1.1.1.1.1.2.2.2.2.2.2.2.2.2.2.1
  have e105 : PT 105 = P_cp2 := hp.1.1.1.1.1.1.1.1.2.2.2.2.2.2.2.2.2.2.2.1
  have e106 : PT 106 = P_rd := hp.1.1.1.1.1.1.1.1.2.2.2.2.2.2.2.2.2.2.2.2.1
  have e174 : PT 174 = P_cnY := hp.1.2.2.2.2.2.2.2.2.2.2.2.2.1
  have e183 : PT 183 = P_kyI := hp.2.2.2.2.1
  simp only [hF0, hF2, hF3, hF20, hF21, hFp_78, hFp_104, hFp_105, hFp_106, hFp_174, hFp_183, e78, e104, e105, e106, e174, e183, P_ly, P_ru, P_cp2, P_rd, P_cnY, P_kyI, den_s, den_c, Int.add_zero, List.map_cons, List.map_nil] at f0 f1 f2 f3 f4 f5 f6 f7 f8 f9 f10 f11 f12 f13 f14 f15 ⊢
  have b4 : (0 : Int) ≤ ρ 4 ∧ ρ 4 ≤ 8 := hB 4 (0, 8) rfl
  have b5 : (0 : Int) ≤ ρ 5 ∧ ρ 5 ≤ 6 := hB 5 (0, 6) rfl
  have b6 : (0 : Int) ≤ ρ 6 ∧ ρ 6 ≤ 6 := hB 6 (0, 6) rfl
  have b13 : (0 : Int) ≤ ρ 13 ∧ ρ 13 ≤ 23 := hB 13 (0, 23) rfl
  have b15 : ((-1) : Int) ≤ ρ 15 ∧ ρ 15 ≤ 9 := hB 15 ((-1), 9) rfl
  have b16 : (0 : Int) ≤ ρ 16 ∧ ρ 16 ≤ 7 := hB 16 (0, 7) rfl
  have b17 : (0 : Int) ≤ ρ 17 ∧ ρ 17 ≤ 9 := hB 17 (0, 9) rfl
  have b18 : (0 : Int) ≤ ρ 18 ∧ ρ 18 ≤ 8 := hB 18 (0, 8) rfl
  have b19 : (1 : Int) ≤ ρ 19 ∧ ρ 19 ≤ 10 := hB 19 (1, 10) rfl
  have b20 : (0 : Int) ≤ ρ 20 ∧ ρ 20 ≤ 11 := hB 20 (0, 11) rfl
  have b21 : (0 : Int) ≤ ρ 21 ∧ ρ 21 ≤ 9 := hB 21 (0, 9) rfl
  have b22 : ((-2147483648) : Int) ≤ ρ 22 ∧ ρ 22 ≤ 2147483647 := hB 22 ((-2147483648), 2147483647) rfl
  have b23 : ((-2147483648) : Int) ≤ ρ 23 ∧ ρ 23 ≤ 2147483647 := hB 23 ((-2147483648), 2147483647) rfl
  have b24 : (1 : Int) ≤ ρ 24 ∧ ρ 24 ≤ 8 := hB 24 (1, 8) rfl
  clear hB
  generalize ρ 4 = r4, ρ 5 = r5, ρ 6 = r6, ρ 13 = r13, ρ 15 = r15, ρ 16 = r16, ρ 17 = r17, ρ 18 = r18, ρ 19 = r19, ρ 20 = r20, ρ 21 = r21, ρ 22 = r22, ρ 23 = r23, ρ 24 = r24, α 1 = a1, α 2 = a2, α 9 = a9, α 10 = a10, α 11 = a11, α 12 = a12, α 13 = a13, α 14 = a14, α 15 = a15, α 16 = a16, α 35 = a35, α 36 = a36, α 37 = a37, α 38 = a38, α 39 = a39, α 40 = a40, α 41 = a41, α 42 = a42, α 43 = a43, α 44 = a44, α 45 = a45, α 49 = a49, α 50 = a50, α 51 = a51, α 52 = a52, α 53 = a53, α 54 = a54, α 55 = a55 at *
  subst f4
  subst f8
  intro j h1 h2
  have := f7 j h1 h2
  try rw [updI_ne (by omega)]
  try rw [updI_ne (by omega)]
  exact this)
def w_keepBest_1_6 : VC := ((bY ++ [(0, 23), (0, 1), ((-1), 9), (0, 7), (0, 9), (0, 8), (1, 10), (0, 11), (0, 9), ((-2147483648), 2147483647), ((-2147483648), 2147483647), (1, 8)]), [(2, [(some 16, 0), (some 24, 0)], []), (3, [(some 16, 0), (some 24, 0)], []), (174, [(some 24, 0), (some 18, 0), (none, 23)], [53, 36]), (104, [(none, 24), (some 18, 0), (some 20, 0), (some 19, 0), (some 21, 0), (some 5, 0), (some 6, 0), (some 22, 0), (some 23, 0)], [35, 36, 37, 38, 39, 40, 41, 49, 11, 12, 13, 14, 15, 16, 43, 44, 45, 50, 51, 52, 53, 54, 55]), (21, [(some 4, 0), (some 17, 0)], [49, 42]), (2, [(some 17, 0), (some 19, 0)], []), (106, [(some 18, 0), (some 19, 0)], [1, 2, 35, 36, 37, 38, 39, 40]), (105, [(some 4, 0)], [9, 10, 41, 42]), (20, [(some 13, 0), (some 4, 0)], [41]), (183, [(some 17, 0), (some 15, 0), (some 16, 0), (some 13, 0), (some 18, 0), (some 19, 0), (some 4, 0), (some 5, 0), (some 6, 0)], [35, 36, 37, 38, 39, 40, 9, 10, 11, 12, 13, 14, 15, 16]), (0, [(some 20, 0), (some 19, 0)], []), (0, [(some 22, 0), (none, 0)], []), (0, [(some 23, 0), (none, 0)], []), (0, [(some 21, 0), (some 4, 1)], []), (3, [(some 19, 0), (some 17, 0)], []), (78, [], [1])], (183, [(some 17, 1), (some 15, 0), (some 24, 0), (some 13, 0), (some 18, 0), (some 19, 0), (some 4, 0), (some 5, 0), (some 6, 0)], [35, 36, 37, 38, 39, 40, 9, 10, 11, 12, 13, 14, 15, 16]))
set_option maxRecDepth 20000 in
theorem v_keepBest_1_6 {PT : PTy} (hp : HP13 PT) : vcOk PT w_keepBest_1_6 := vc_of (fun ρ α hB hF => by
  obtain ⟨f0, f1, f2, f3, f4, f5, f6, f7, f8, f9, f10, f11, f12, f13, f14, f15, -⟩ := hF
  have e78 : PT 78 = P_ly := hp.1.1.1.1.1.1.1.1.1.1.1.2.2.2.2.2.2.2.1
  have e104 : PT 104 = P_ru := hp.1.1.1.1.1.1.1.1.2.2.2.2.2.2.2.2.2.2.1
  have e105 : PT 105 = P_cp2 := hp.1.1.1.1.1.1.1.1.2.2.2.2.2.2.2.2.2.2.2.1
  have e106 : PT 106 = P_rd := hp.1.1.1.1.1.1.1.1.2.2.2.2.2.2.2.2.2.2.2.2.1
  have e174 : PT 174 = P_cnY := hp.1.2.2.2.2.2.2.2.2.2.2.2.2.1
  have e183 : PT 183 = P_kyI := hp.2.2.2.2.1
  simp only [hF0, hF2, hF3, hF20, hF21, hFp_78, hFp_104, hFp_105, hFp_106, hFp_174, hFp_183, e78, e104, e105, e106, e174, e183, P_ly, P_ru, P_cp2, P_rd, P_cnY, P_kyI, den_s, den_c, Int.add_zero, List.map_cons, List.map_nil] at f0 f1 f2 f3 f4 f5 f6 f7 f8 f9 f10 f11 f12 f13 f14 f15 ⊢
  have b4 : (0 : Int) ≤ ρ 4 ∧ ρ 4 ≤ 8 := hB 4 (0, 8) rfl
  have b5 : (0 : Int) ≤ ρ 5 ∧ ρ 5 ≤ 6 := hB 5 (0, 6) rfl
  have b6 : (0 : Int) ≤ ρ 6 ∧ ρ 6 ≤ 6 := hB 6 (0, 6) rfl
  have b13 : (0 : Int) ≤ ρ 13 ∧ ρ 13 ≤ 23 := hB 13 (0, 23) rfl
  have b15 : ((-1) : Int) ≤ ρ 15 ∧ ρ 15 ≤ 9 := hB 15 ((-1), 9) rfl
  have b16 : (0 : Int) ≤ ρ 16 ∧ ρ 16 ≤ 7 := hB 16 (0, 7) rfl
  have b17 : (0 : Int) ≤ ρ 17 ∧ ρ 17 ≤ 9 := hB 17 (0, 9) rfl
  have b18 : (0 : Int) ≤ ρ 18 ∧ ρ 18 ≤ 8 := hB 18 (0, 8) rfl
  have b19 : (1 : Int) ≤ ρ 19 ∧ ρ 19 ≤ 10 := hB 19 (1, 10) rfl
  have b20 : (0 : Int) ≤ ρ 20 ∧ ρ 20 ≤ 11 := hB 20 (0, 11) rfl
  have b21 : (0 : Int) ≤ ρ 21 ∧ ρ 21 ≤ 9 := hB 21 (0, 9) rfl
  have b22 : ((-2147483648) : Int) ≤ ρ 22 ∧ ρ 22 ≤ 2147483647 := hB 22 ((-2147483648), 2147483647) rfl
  have b23 : ((-2147483648) : Int) ≤ ρ 23 ∧ ρ 23 ≤ 2147483647 := hB 23 ((-2147483648), 2147483647) rfl
  have b24 : (1 : Int) ≤ ρ 24 ∧ ρ 24 ≤ 8 := hB 24 (1, 8) rfl
  clear hB
  generalize ρ 4 = r4, ρ 5 = r5, ρ 6 = r6, ρ 13 = r13, ρ 15 = r15, ρ 16 = r16, ρ 17 = r17, ρ 18 = r18, ρ 19 = r19, ρ 20 = r20, ρ 21 = r21, ρ 22 = r22, ρ 23 = r23, ρ 24 = r24, α 1 = a1, α 2 = a2, α 9 = a9, α 10 = a10, α 11 = a11, α 12 = a12, α 13 = a13, α 14 = a14, α 15 = a15, α 16 = a16, α 35 = a35, α 36 = a36, α 37 = a37, α 38 = a38, α 39 = a39, α 40 = a40, α 41 = a41, α 42 = a42, α 43 = a43, α 44 = a44, α 45 = a45, α 49 = a49, α 50 = a50, α 51 = a51, α 52 = a52, α 53 = a53, α 54 = a54, α 55 = a55 at *
  subst f4
  subst f8
  obtain ⟨h1, h2⟩ := f3
  have e1 : r20 = r19 := by omega
  have e2 : r22 = 0 := by omega
  have e3 : r23 = 0 := by omega
  have e4 : r21 = r4 + 1 := by omega
  rw [e1, e2, e3, e4] at h1 h2
  have hc := (f2).1
  have hp := f7
  have hi := f9
  subst hc
  first
    | (exfalso; omega)
    | exact obS_t hi (by omega) ⟨_, _, _, _, _, _, _, _, fun i i1 i2 => (by rw [updI_ne (by omega)]; exact hp i i1 i2), (by first | rfl | exact updI_at _ _ _ | omega), updI_at _ _ _, ⟨_, _, _, h1, h2⟩, rfl⟩ (by omega) (by rw [cnt_G]; exact (cntG_nn _ _).1)
    | exact obS_k hi (by omega) ⟨_, _, _, _, _, _, _, _, fun i i1 i2 => (by rw [updI_ne (by omega)]; exact hp i i1 i2), (by first | rfl | exact updI_at _ _ _ | omega), updI_at _ _ _, ⟨_, _, _, h1, h2⟩, rfl⟩ (by omega) (by rw [cnt_G]; exact (cntG_nn _ _).1))
def w_keepBest_1_7 : VC := ((bY ++ [(0, 23), (0, 1), ((-1), 9), (0, 7), (0, 9), (0, 8), (1, 10), (0, 11), (0, 9), ((-2147483648), 2147483647), ((-2147483648), 2147483647), (1, 8)]), [(2, [(some 16, 0), (some 24, 0)], []), (3, [(some 16, 0), (some 24, 0)], []), (174, [(some 24, 0), (some 18, 0), (none, 23)], [53, 36]), (104, [(none, 24), (some 18, 0), (some 20, 0), (some 19, 0), (some 21, 0), (some 5, 0), (some 6, 0), (some 22, 0), (some 23, 0)], [35, 36, 37, 38, 39, 40, 41, 49, 11, 12, 13, 14, 15, 16, 43, 44, 45, 50, 51, 52, 53, 54, 55]), (21, [(some 4, 0), (some 17, 0)], [49, 42]), (2, [(some 17, 0), (some 19, 0)], []), (106, [(some 18, 0), (some 19, 0)], [1, 2, 35, 36, 37, 38, 39, 40]), (105, [(some 4, 0)], [9, 10, 41, 42]), (20, [(some 13, 0), (some 4, 0)], [41]), (183, [(some 17, 0), (some 15, 0), (some 16, 0), (some 13, 0), (some 18, 0), (some 19, 0), (some 4, 0), (some 5, 0), (some 6, 0)], [35, 36, 37, 38, 39, 40, 9, 10, 11, 12, 13, 14, 15, 16]), (0, [(some 20, 0), (some 19, 0)], []), (0, [(some 22, 0), (none, 0)], []), (0, [(some 23, 0), (none, 0)], []), (0, [(some 21, 0), (some 4, 1)], []), (3, [(some 19, 0), (some 17, 0)], []), (78, [], [1])], (3, [(some 19, 0), (some 17, 1)], []))
set_option maxRecDepth 20000 in
theorem v_keepBest_1_7 {PT : PTy} (hp : HP13 PT) : vcOk PT w_keepBest_1_7 := vc_of (fun ρ α hB hF => by
  obtain ⟨f0, f1, f2, f3, f4, f5, f6, f7, f8, f9, f10, f11, f12, f13, f14, f15, -⟩ := hF
  have e78 : PT 78 = P_ly := hp.1.1.1.1.1.1.1.1.1.1.1.2.2.2.2.2.2.2.1
  have e104 : PT 104 = P_ru := hp.1.1.1.1.1.1.1.1.2.2.2.2.2.2.2.2.2.2.1
  have e105 : PT 105 = P_cp2 := hp.1.1.1.1.1.1.1.1.2.2.2.2.2.2.2.2.2.2.2.1
  have e106 : PT 106 = P_rd := hp.1.1.1.1.1.1.1.1.2.2.2.2.2.2.2.2.2.2.2.2.1
  have e174 : PT 174 = P_cnY := hp.1.2.2.2.2.2.2.2.2.2.2.2.2.1
  have e183 : PT 183 = P_kyI := hp.2.2.2.2.1
  simp only [hF0, hF2, hF3, hF20, hF21, hFp_78, hFp_104, hFp_105, hFp_106, hFp_174, hFp_183, e78, e104, e105, e106, e174, e183, P_ly, P_ru, P_cp2, P_rd, P_cnY, P_kyI, den_s, den_c, Int.add_zero, List.map_cons, List.map_nil] at f0 f1 f2 f3 f4 f5 f6 f7 f8 f9 f10 f11 f12 f13 f14 f15 ⊢
  have b4 : (0 : Int) ≤ ρ 4 ∧ ρ 4 ≤ 8 := hB 4 (0, 8) rfl
  have b5 : (0 : Int) ≤ ρ 5 ∧ ρ 5 ≤ 6 := hB 5 (0, 6) rfl
  have b6 : (0 : Int) ≤ ρ 6 ∧ ρ 6 ≤ 6 := hB 6 (0, 6) rfl
  have b13 : (0 : Int) ≤ ρ 13 ∧ ρ 13 ≤ 23 := hB 13 (0, 23) rfl
  have b15 : ((-1) : Int) ≤ ρ 15 ∧ ρ 15 ≤ 9 := hB 15 ((-1), 9) rfl
  have b16 : (0 : Int) ≤ ρ 16 ∧ ρ 16 ≤ 7 := hB 16 (0, 7) rfl
  have b17 : (0 : Int) ≤ ρ 17 ∧ ρ 17 ≤ 9 := hB 17 (0, 9) rfl
  have b18 : (0 : Int) ≤ ρ 18 ∧ ρ 18 ≤ 8 := hB 18 (0, 8) rfl
  have b19 : (1 : Int) ≤ ρ 19 ∧ ρ 19 ≤ 10 := hB 19 (1, 10) rfl
  have b20 : (0 : Int) ≤ ρ 20 ∧ ρ 20 ≤ 11 := hB 20 (0, 11) rfl
  have b21 : (0 : Int) ≤ ρ 21 ∧ ρ 21 ≤ 9 := hB 21 (0, 9) rfl
  have b22 : ((-2147483648) : Int) ≤ ρ 22 ∧ ρ 22 ≤ 2147483647 := hB 22 ((-2147483648), 2147483647) rfl
  have b23 : ((-2147483648) : Int) ≤ ρ 23 ∧ ρ 23 ≤ 2147483647 := hB 23 ((-2147483648), 2147483647) rfl
  have b24 : (1 : Int) ≤ ρ 24 ∧ ρ 24 ≤ 8 := hB 24 (1, 8) rfl
  clear hB
  generalize ρ 4 = r4, ρ 5 = r5, ρ 6 = r6, ρ 13 = r13, ρ 15 = r15, ρ 16 = r16, ρ 17 = r17, ρ 18 = r18, ρ 19 = r19, ρ 20 = r20, ρ 21 = r21, ρ 22 = r22, ρ 23 = r23, ρ 24 = r24, α 1 = a1, α 2 = a2, α 9 = a9, α 10 = a10, α 11 = a11, α 12 = a12, α 13 = a13, α 14 = a14, α 15 = a15, α 16 = a16, α 35 = a35, α 36 = a36, α 37 = a37, α 38 = a38, α 39 = a39, α 40 = a40, α 41 = a41, α 42 = a42, α 43 = a43, α 44 = a44, α 45 = a45, α 49 = a49, α 50 = a50, α 51 = a51, α 52 = a52, α 53 = a53, α 54 = a54, α 55 = a55 at *
  subst f4
  subst f8
  omega)
def w_keepBest_1_8 : VC := ((bY ++ [(0, 23), (0, 1), ((-1), 9), (0, 7), (0, 9), (0, 8), (1, 10), (0, 11), (0, 9), ((-2147483648), 2147483647), ((-2147483648), 2147483647), (0, 7)]), [(3, [(some 16, 0), (some 24, 0)], []), (2, [(some 16, 0), (some 24, 0)], []), (174, [(some 24, 0), (some 18, 0), (none, 23)], [53, 36]), (104, [(none, 24), (some 18, 0), (some 20, 0), (some 19, 0), (some 21, 0), (some 5, 0), (some 6, 0), (some 22, 0), (some 23, 0)], [35, 36, 37, 38, 39, 40, 41, 49, 11, 12, 13, 14, 15, 16, 43, 44, 45, 50, 51, 52, 53, 54, 55]), (21, [(some 4, 0), (some 17, 0)], [49, 42]), (2, [(some 17, 0), (some 19, 0)], []), (106, [(some 18, 0), (some 19, 0)], [1, 2, 35, 36, 37, 38, 39, 40]), (105, [(some 4, 0)], [9, 10, 41, 42]), (20, [(some 13, 0), (some 4, 0)], [41]), (183, [(some 17, 0), (some 15, 0), (some 16, 0), (some 13, 0), (some 18, 0), (some 19, 0), (some 4, 0), (some 5, 0), (some 6, 0)], [35, 36, 37, 38, 39, 40, 9, 10, 11, 12, 13, 14, 15, 16]), (0, [(some 20, 0), (some 19, 0)], []), (0, [(some 22, 0), (none, 0)], []), (0, [(some 23, 0), (none, 0)], []), (0, [(some 21, 0), (some 4, 1)], []), (3, [(some 19, 0), (some 17, 0)], []), (78, [], [1])], (105, [(some 4, 0)], [9, 10, 41, 49]))
set_option maxRecDepth 20000 in
theorem v_keepBest_1_8 {PT : PTy} (hp : HP13 PT) : vcOk PT w_keepBest_1_8 := vc_of (fun ρ α hB hF => by
  obtain ⟨f0, f1, f2, f3, f4, f5, f6, f7, f8, f9, f10, f11, f12, f13, f14, f15, -⟩ := hF
  have e78 : PT 78 = P_ly := hp.1.1.1.1.1.1.1.1.1.1.1.2.2.2.2.2.2.2.1
  have e104 : PT 104 = P_ru := hp.1.1.1.1.1.1.1.1.2.2.2.2.2.2.2.2.2.2.1
  have e105 : PT 105 = P_cp2 := hp.1.1.1.1.1.1.1.1.2.2.2.2.2.2.2.2.2.2.2.1
  have e106 : PT 106 = P_rd := hp.1.1.1.1.1.1.1.1.2.2.2.2.2.2.2.2.2.2.2.2.1
  have e174 : PT 174 = P_cnY := hp.1.2.2.2.2.2.2.2.2.2.2.2.2.1
  have e183 : PT 183 = P_kyI := hp.2.2.2.2.1
  simp only [hF0, hF2, hF3, hF20, hF21, hFp_78, hFp_104, hFp_105, hFp_106, hFp_174, hFp_183, e78, e104, e105, e106, e174, e183, P_ly, P_ru, P_cp2, P_rd, P_cnY, P_kyI, den_s, den_c, Int.add_zero, List.map_cons, List.map_nil] at f0 f1 f2 f3 f4 f5 f6 f7 f8 f9 f10 f11 f12 f13 f14 f15 ⊢
  have b4 : (0 : Int) ≤ ρ 4 ∧ ρ 4 ≤ 8 := hB 4 (0, 8) rfl
  have b5 : (0 : Int) ≤ ρ 5 ∧ ρ 5 ≤ 6 := hB 5 (0, 6) rfl
  have b6 : (0 : Int) ≤ ρ 6 ∧ ρ 6 ≤ 6 := hB 6 (0, 6) rfl
  have b13 : (0 : Int) ≤ ρ 13 ∧ ρ 13 ≤ 23 := hB 13 (0, 23) rfl
  have b15 : ((-1) : Int) ≤ ρ 15 ∧ ρ 15 ≤ 9 := hB 15 ((-1), 9) rfl
  have b16 : (0 : Int) ≤ ρ 16 ∧ ρ 16 ≤ 7 := hB 16 (0, 7) rfl
  have b17 : (0 : Int) ≤ ρ 17 ∧ ρ 17 ≤ 9 := hB 17 (0, 9) rfl
  have b18 : (0 : Int) ≤ ρ 18 ∧ ρ 18 ≤ 8 := hB 18 (0, 8) rfl
  have b19 : (1 : Int) ≤ ρ 19 ∧ ρ 19 ≤ 10 := hB 19 (1, 10) rfl
  have b20 : (0 : Int) ≤ ρ 20 ∧ ρ 20 ≤ 11 := hB 20 (0, 11) rfl
  have b21 : (0 : Int) ≤ ρ 21 ∧ ρ 21 ≤ 9 := hB 21 (0, 9) rfl
  have b22 : ((-2147483648) : Int) ≤ ρ 22 ∧ ρ 22 ≤ 2147483647 := hB 22 ((-2147483648), 2147483647) rfl
  have b23 : ((-2147483648) : Int) ≤ ρ 23 ∧ ρ 23 ≤ 2147483647 := hB 23 ((-2147483648), 2147483647) rfl
  have b24 : (0 : Int) ≤ ρ 24 ∧ ρ 24 ≤ 7 := hB 24 (0, 7) rfl
  clear hB
  generalize ρ 4 = r4, ρ 5 = r5, ρ 6 = r6, ρ 13 = r13, ρ 15 = r15, ρ 16 = r16, ρ 17 = r17, ρ 18 = r18, ρ 19 = r19, ρ 20 = r20, ρ 21 = r21, ρ 22 = r22, ρ 23 = r23, ρ 24 = r24, α 1 = a1, α 2 = a2, α 9 = a9, α 10 = a10, α 11 = a11, α 12 = a12, α 13 = a13, α 14 = a14, α 15 = a15, α 16 = a16, α 35 = a35, α 36 = a36, α 37 = a37, α 38 = a38, α 39 = a39, α 40 = a40, α 41 = a41, α 42 = a42, α 43 = a43, α 44 = a44, α 45 = a45, α 49 = a49, α 50 = a50, α 51 = a51, α 52 = a52, α 53 = a53, α 54 = a54, α 55 = a55 at *
  subst f4
  subst f8
  intro j h1 h2
  have := f7 j h1 h2
  try rw [updI_ne (by omega)]
  try rw [updI_ne (by omega)]
  exact this)
def w_keepBest_1_9 : VC := ((bY ++ [(0, 23), (0, 1), ((-1), 9), (0, 7), (0, 9), (0, 8), (1, 10), (0, 11), (0, 9), ((-2147483648), 2147483647), ((-2147483648), 2147483647), (0, 7)]), [(3, [(some 16, 0), (some 24, 0)], []), (2, [(some 16, 0), (some 24, 0)], []), (174, [(some 24, 0), (some 18, 0), (none, 23)], [53, 36]), (104, [(none, 24), (some 18, 0), (some 20, 0), (some 19, 0), (some 21, 0), (some 5, 0), (some 6, 0), (some 22, 0), (some 23, 0)], [35, 36, 37, 38, 39, 40, 41, 49, 11, 12, 13, 14, 15, 16, 43, 44, 45, 50, 51, 52, 53, 54, 55]), (21, [(some 4, 0), (some 17, 0)], [49, 42]), (2, [(some 17, 0), (some 19, 0)], []), (106, [(some 18, 0), (some 19, 0)], [1, 2, 35, 36, 37, 38, 39, 40]), (105, [(some 4, 0)], [9, 10, 41, 42]), (20, [(some 13, 0), (some 4, 0)], [41]), (183, [(some 17, 0), (some 15, 0), (some 16, 0), (some 13, 0), (some 18, 0), (some 19, 0), (some 4, 0), (some 5, 0), (some 6, 0)], [35, 36, 37, 38, 39, 40, 9, 10, 11, 12, 13, 14, 15, 16]), (0, [(some 20, 0), (some 19, 0)], []), (0, [(some 22, 0), (none, 0)], []), (0, [(some 23, 0), (none, 0)], []), (0, [(some 21, 0), (some 4, 1)], []), (3, [(some 19, 0), (some 17, 0)], []), (78, [], [1])], (183, [(some 17, 1), (some 17, 0), (some 16, 0), (some 13, 0), (some 18, 0), (some 19, 0), (some 4, 0), (some 5, 0), (some 6, 0)], [35, 36, 37, 38, 39, 40, 9, 10, 11, 12, 13, 14, 15, 16]))
set_option maxRecDepth 20000 in
theorem v_keepBest_1_9 {PT : PTy} (hp : HP13 PT) : vcOk PT w_keepBest_1_9 := vc_of (fun ρ α hB hF => by
  obtain ⟨f0, f1, f2, f3, f4, f5, f6, f7, f8, f9, f10, f11, f12, f13, f14, f15, -⟩ := hF
  have e78 : PT 78 = P_ly := hp.1.1.1.1.1.1.1.1.1.1.1.2.2.2.2.2.2.2.1
  have e104 : PT 104 = P_ru := hp.1.1.1.1.1.1.1.1.2.2.2.2.2.2.2.2.2.2.1
  have e105 : PT 105 = P_cp2 := hp.1.1.1.1.1.1.1.1.2.2.2.2.2.2.2.2.2.2.2.1
  have e106 : PT 106 = P_rd := hp.1.1.1.1.1.1.1.1.2.2.2.2.2.2.2.2.2.2.2.2.1
  have e174 : PT 174 = P_cnY := hp.1.2.2.2.2.2.2.2.2.2.2.2.2.1
  have e183 : PT 183 = P_kyI := hp.2.2.2.2.1
  simp only [hF0, hF2, hF3, hF20, hF21, hFp_78, hFp_104, hFp_105, hFp_106, hFp_174, hFp_183, e78, e104, e105, e106, e174, e183, P_ly, P_ru, P_cp2, P_rd, P_cnY, P_kyI, den_s, den_c, Int.add_zero, List.map_cons, List.map_nil] at f0 f1 f2 f3 f4 f5 f6 f7 f8 f9 f10 f11 f12 f13 f14 f15 ⊢
  have b4 : (0 : Int) ≤ ρ 4 ∧ ρ 4 ≤ 8 := hB 4 (0, 8) rfl
  have b5 : (0 : Int) ≤ ρ 5 ∧ ρ 5 ≤ 6 := hB 5 (0, 6) rfl
  have b6 : (0 : Int) ≤ ρ 6 ∧ ρ 6 ≤ 6 := hB 6 (0, 6) rfl
  have b13 : (0 : Int) ≤ ρ 13 ∧ ρ 13 ≤ 23 := hB 13 (0, 23) rfl
  have b15 : ((-1) : Int) ≤ ρ 15 ∧ ρ 15 ≤ 9 := hB 15 ((-1), 9) rfl
  have b16 : (0 : Int) ≤ ρ 16 ∧ ρ 16 ≤ 7 := hB 16 (0, 7) rfl
  have b17 : (0 : Int) ≤ ρ 17 ∧ ρ 17 ≤ 9 := hB 17 (0, 9) rfl
  have b18 : (0 : Int) ≤ ρ 18 ∧ ρ 18 ≤ 8 := hB 18 (0, 8) rfl
  have b19 : (1 : Int) ≤ ρ 19 ∧ ρ 19 ≤ 10 := hB 19 (1, 10) rfl
  have b20 : (0 : Int) ≤ ρ 20 ∧ ρ 20 ≤ 11 := hB 20 (0, 11) rfl
  have b21 : (0 : Int) ≤ ρ 21 ∧ ρ 21 ≤ 9 := hB 21 (0, 9) rfl
  have b22 : ((-2147483648) : Int) ≤ ρ 22 ∧ ρ 22 ≤ 2147483647 := hB 22 ((-2147483648), 2147483647) rfl
  have b23 : ((-2147483648) : Int) ≤ ρ 23 ∧ ρ 23 ≤ 2147483647 := hB 23 ((-2147483648), 2147483647) rfl
  have b24 : (0 : Int) ≤ ρ 24 ∧ ρ 24 ≤ 7 := hB 24 (0, 7) rfl
  clear hB
  generalize ρ 4 = r4, ρ 5 = r5, ρ 6 = r6, ρ 13 = r13, ρ 15 = r15, ρ 16 = r16, ρ 17 = r17, ρ 18 = r18, ρ 19 = r19, ρ 20 = r20, ρ 21 = r21, ρ 22 = r22, ρ 23 = r23, ρ 24 = r24, α 1 = a1, α 2 = a2, α 9 = a9, α 10 = a10, α 11 = a11, α 12 = a12, α 13 = a13, α 14 = a14, α 15 = a15, α 16 = a16, α 35 = a35, α 36 = a36, α 37 = a37, α 38 = a38, α 39 = a39, α 40 = a40, α 41 = a41, α 42 = a42, α 43 = a43, α 44 = a44, α 45 = a45, α 49 = a49, α 50 = a50, α 51 = a51, α 52 = a52, α 53 = a53, α 54 = a54, α 55 = a55 at *
  subst f4
  subst f8
  obtain ⟨h1, h2⟩ := f3
  have e1 : r20 = r19 := by omega
  have e2 : r22 = 0 := by omega
  have e3 : r23 = 0 := by omega
  have e4 : r21 = r4 + 1 := by omega
  rw [e1, e2, e3, e4] at h1 h2
  have hc := (f2).1
  have hp := f7
  have hi := f9
  subst hc
  first
    | (exfalso; omega)
    | exact obS_t hi (by omega) ⟨_, _, _, _, _, _, _, _, fun i i1 i2 => (by rw [updI_ne (by omega)]; exact hp i i1 i2), (by first | rfl | exact updI_at _ _ _ | omega), updI_at _ _ _, ⟨_, _, _, h1, h2⟩, rfl⟩ (by omega) (by rw [cnt_G]; exact (cntG_nn _ _).1)
    | exact obS_k hi (by omega) ⟨_, _, _, _, _, _, _, _, fun i i1 i2 => (by rw [updI_ne (by omega)]; exact hp i i1 i2), (by first | rfl | exact updI_at _ _ _ | omega), updI_at _ _ _, ⟨_, _, _, h1, h2⟩, rfl⟩ (by omega) (by rw [cnt_G]; exact (cntG_nn _ _).1))
def w_keepBest_1_10 : VC := ((bY ++ [(0, 23), (0, 1), ((-1), 9), (0, 7), (0, 9), (0, 8), (1, 10), (0, 11), (0, 9), ((-2147483648), 2147483647), ((-2147483648), 2147483647), (0, 7)]), [(3, [(some 16, 0), (some 24, 0)], []), (2, [(some 16, 0), (some 24, 0)], []), (174, [(some 24, 0), (some 18, 0), (none, 23)], [53, 36]), (104, [(none, 24), (some 18, 0), (some 20, 0), (some 19, 0), (some 21, 0), (some 5, 0), (some 6, 0), (some 22, 0), (some 23, 0)], [35, 36, 37, 38, 39, 40, 41, 49, 11, 12, 13, 14, 15, 16, 43, 44, 45, 50, 51, 52, 53, 54, 55]), (21, [(some 4, 0), (some 17, 0)], [49, 42]), (2, [(some 17, 0), (some 19, 0)], []), (106, [(some 18, 0), (some 19, 0)], [1, 2, 35, 36, 37, 38, 39, 40]), (105, [(some 4, 0)], [9, 10, 41, 42]), (20, [(some 13, 0), (some 4, 0)], [41]), (183, [(some 17, 0), (some 15, 0), (some 16, 0), (some 13, 0), (some 18, 0), (some 19, 0), (some 4, 0), (some 5, 0), (some 6, 0)], [35, 36, 37, 38, 39, 40, 9, 10, 11, 12, 13, 14, 15, 16]), (0, [(some 20, 0), (some 19, 0)], []), (0, [(some 22, 0), (none, 0)], []), (0, [(some 23, 0), (none, 0)], []), (0, [(some 21, 0), (some 4, 1)], []), (3, [(some 19, 0), (some 17, 0)], []), (78, [], [1])], (3, [(some 19, 0), (some 17, 1)], []))
set_option maxRecDepth 20000 in
theorem v_keepBest_1_10 {PT : PTy} (hp : HP13 PT) : vcOk PT w_keepBest_1_10 := vc_of (fun ρ α hB hF => by
  obtain ⟨f0, f1, f2, f3, f4, f5, f6, f7, f8, f9, f10, f11, f12, f13, f14, f15, -⟩ := hF
  have e78 : PT 78 = P_ly := hp.1.1.1.1.1.1.1.1.1.1.1.2.2.2.2.2.2.2.1
  have e104 : PT 104 = P_ru := hp.1.1.1.1.1.1.1.1.2.2.2.2.2.2.2.2.2.2.1
  have e105 : PT 105 = P_cp2 := hp.1.1.1.1.1.1.1.1.2.2.2.2.2.2.2.2.2.2.2.1
  have e106 : PT 106 = P_rd := hp.1.1.1.1.1.1.1.1.2.2.2.2.2.2.2.2.2.2.2.2.1
  have e174 : PT 174 = P_cnY := hp.1.2.2.2.2.2.2.2.2.2.2.2.2.1
  have e183 : PT 183 = P_kyI := hp.2.2.2.2.1
  simp only [hF0, hF2, hF3, hF20, hF21, hFp_78, hFp_104, hFp_105, hFp_106, hFp_174, hFp_183, e78, e104, e105, e106, e174, e183, P_ly, P_ru, P_cp2, P_rd, P_cnY, P_kyI, den_s, den_c, Int.add_zero, List.map_cons, List.map_nil] at f0 f1 f2 f3 f4 f5 f6 f7 f8 f9 f10 f11 f12 f13 f14 f15 ⊢
  have b4 : (0 : Int) ≤ ρ 4 ∧ ρ 4 ≤ 8 := hB 4 (0, 8) rfl
  have b5 : (0 : Int) ≤ ρ 5 ∧ ρ 5 ≤ 6 := hB 5 (0, 6) rfl
  have b6 : (0 : Int) ≤ ρ 6 ∧ ρ 6 ≤ 6 := hB 6 (0, 6) rfl
  have b13 : (0 : Int) ≤ ρ 13 ∧ ρ 13 ≤ 23 := hB 13 (0, 23) rfl
  have b15 : ((-1) : Int) ≤ ρ 15 ∧ ρ 15 ≤ 9 := hB 15 ((-1), 9) rfl
  have b16 : (0 : Int) ≤ ρ 16 ∧ ρ 16 ≤ 7 := hB 16 (0, 7) rfl
  have b17 : (0 : Int) ≤ ρ 17 ∧ ρ 17 ≤ 9 := hB 17 (0, 9) rfl
  have b18 : (0 : Int) ≤ ρ 18 ∧ ρ 18 ≤ 8 := hB 18 (0, 8) rfl
  have b19 : (1 : Int) ≤ ρ 19 ∧ ρ 19 ≤ 10 := hB 19 (1, 10) rfl
  have b20 : (0 : Int) ≤ ρ 20 ∧ ρ 20 ≤ 11 := hB 20 (0, 11) rfl
  have b21 : (0 : Int) ≤ ρ 21 ∧ ρ 21 ≤ 9 := hB 21 (0, 9) rfl
  have b22 : ((-2147483648) : Int) ≤ ρ 22 ∧ ρ 22 ≤ 2147483647 := hB 22 ((-2147483648), 2147483647) rfl
  have b23 : ((-2147483648) : Int) ≤ ρ 23 ∧ ρ 23 ≤ 2147483647 := hB 23 ((-2147483648), 2147483647) rfl
  have b24 : (0 : Int) ≤ ρ 24 ∧ ρ 24 ≤ 7 := hB 24 (0, 7) rfl
  clear hB
  generalize ρ 4 = r4, ρ 5 = r5, ρ 6 = r6, ρ 13 = r13, ρ 15 = r15, ρ 16 = r16, ρ 17 = r17, ρ 18 = r18, ρ 19 = r19, ρ 20 = r20, ρ 21 = r21, ρ 22 = r22, ρ 23 = r23, ρ 24 = r24, α 1 = a1, α 2 = a2, α 9 = a9, α 10 = a10, α 11 = a11, α 12 = a12, α 13 = a13, α 14 = a14, α 15 = a15, α 16 = a16, α 35 = a35, α 36 = a36, α 37 = a37, α 38 = a38, α 39 = a39, α 40 = a40, α 41 = a41, α 42 = a42, α 43 = a43, α 44 = a44, α 45 = a45, α 49 = a49, α 50 = a50, α 51 = a51, α 52 = a52, α 53 = a53, α 54 = a54, α 55 = a55 at *
  subst f4
  subst f8
  omega)
def w_keepBest_1_11 : VC := ((bY ++ [(0, 23), (0, 1), ((-1), 9), ((-1), 7), (0, 9), (0, 8), (1, 10), (0, 11), (0, 9), ((-2147483648), 2147483647), ((-2147483648), 2147483647), (0, 8)]), [(2, [(some 16, 0), (some 24, 0)], []), (2, [(some 16, 0), (some 24, 0)], []), (174, [(some 24, 0), (some 18, 0), (none, 23)], [53, 36]), (104, [(none, 24), (some 18, 0), (some 20, 0), (some 19, 0), (some 21, 0), (some 5, 0), (some 6, 0), (some 22, 0), (some 23, 0)], [35, 36, 37, 38, 39, 40, 41, 49, 11, 12, 13, 14, 15, 16, 43, 44, 45, 50, 51, 52, 53, 54, 55]), (21, [(some 4, 0), (some 17, 0)], [49, 42]), (2, [(some 17, 0), (some 19, 0)], []), (106, [(some 18, 0), (some 19, 0)], [1, 2, 35, 36, 37, 38, 39, 40]), (105, [(some 4, 0)], [9, 10, 41, 42]), (20, [(some 13, 0), (some 4, 0)], [41]), (183, [(some 17, 0), (some 15, 0), (some 16, 0), (some 13, 0), (some 18, 0), (some 19, 0), (some 4, 0), (some 5, 0), (some 6, 0)], [35, 36, 37, 38, 39, 40, 9, 10, 11, 12, 13, 14, 15, 16]), (0, [(some 20, 0), (some 19, 0)], []), (0, [(some 22, 0), (none, 0)], []), (0, [(some 23, 0), (none, 0)], []), (0, [(some 21, 0), (some 4, 1)], []), (3, [(some 19, 0), (some 17, 0)], []), (78, [], [1])], (105, [(some 4, 0)], [9, 10, 41, 49]))
set_option maxRecDepth 20000 in
theorem v_keepBest_1_11 {PT : PTy} (hp : HP13 PT) : vcOk PT w_keepBest_1_11 := vc_of (fun ρ α hB hF => by
  obtain ⟨f0, -, f2, f3, f4, f5, f6, f7, f8, f9, f10, f11, f12, f13, f14, f15, -⟩ := hF
  have e78 : PT 78 = P_ly := hp.1.1.1.1.1.1.1.1.1.1.1.2.2.2.2.2.2.2.1
  have e104 : PT 104 = P_ru := hp.1.1.1.1.1.1.1.1.2.2.2.2.2.2.2.2.2.2.1
  have e105 : PT 105 = P_cp2 := hp.1.1.1.1.1.1.1.1.2.2.2.2.2.2.2.2.2.2.2.1
  have e106 : PT 106 = P_rd := hp.1.1.1.1.1.1.1.1.2.2.2.2.2.2.2.2.2.2.2.2.1
  have e174 : PT 174 = P_cnY := hp.1.2.2.2.2.2.2.2.2.2.2.2.2.1
  have e183 : PT 183 = P_kyI := hp.2.2.2.2.1
  simp only [hF0, hF2, hF3, hF20, hF21, hFp_78, hFp_104, hFp_105, hFp_106, hFp_174, hFp_183, e78, e104, e105, e106, e174, e183, P_ly, P_ru, P_cp2, P_rd, P_cnY, P_kyI, den_s, den_c, Int.add_zero, List.map_cons, List.map_nil] at f0 f2 f3 f4 f5 f6 f7 f8 f9 f10 f11 f12 f13 f14 f15 ⊢
  have b4 : (0 : Int) ≤ ρ 4 ∧ ρ 4 ≤ 8 := hB 4 (0, 8) rfl
  have b5 : (0 : Int) ≤ ρ 5 ∧ ρ 5 ≤ 6 := hB 5 (0, 6) rfl
  have b6 : (0 : Int) ≤ ρ 6 ∧ ρ 6 ≤ 6 := hB 6 (0, 6) rfl
  have b13 : (0 : Int) ≤ ρ 13 ∧ ρ 13 ≤ 23 := hB 13 (0, 23) rfl
  have b15 : ((-1) : Int) ≤ ρ 15 ∧ ρ 15 ≤ 9 := hB 15 ((-1), 9) rfl
  have b16 : ((-1) : Int) ≤ ρ 16 ∧ ρ 16 ≤ 7 := hB 16 ((-1), 7) rfl
  have b17 : (0 : Int) ≤ ρ 17 ∧ ρ 17 ≤ 9 := hB 17 (0, 9) rfl
  have b18 : (0 : Int) ≤ ρ 18 ∧ ρ 18 ≤ 8 := hB 18 (0, 8) rfl
  have b19 : (1 : Int) ≤ ρ 19 ∧ ρ 19 ≤ 10 := hB 19 (1, 10) rfl
  have b20 : (0 : Int) ≤ ρ 20 ∧ ρ 20 ≤ 11 := hB 20 (0, 11) rfl
  have b21 : (0 : Int) ≤ ρ 21 ∧ ρ 21 ≤ 9 := hB 21 (0, 9) rfl
  have b22 : ((-2147483648) : Int) ≤ ρ 22 ∧ ρ 22 ≤ 2147483647 := hB 22 ((-2147483648), 2147483647) rfl
  have b23 : ((-2147483648) : Int) ≤ ρ 23 ∧ ρ 23 ≤ 2147483647 := hB 23 ((-2147483648), 2147483647) rfl
  have b24 : (0 : Int) ≤ ρ 24 ∧ ρ 24 ≤ 8 := hB 24 (0, 8) rfl
  clear hB
  generalize ρ 4 = r4, ρ 5 = r5, ρ 6 = r6, ρ 13 = r13, ρ 15 = r15, ρ 16 = r16, ρ 17 = r17, ρ 18 = r18, ρ 19 = r19, ρ 20 = r20, ρ 21 = r21, ρ 22 = r22, ρ 23 = r23, ρ 24 = r24, α 1 = a1, α 2 = a2, α 9 = a9, α 10 = a10, α 11 = a11, α 12 = a12, α 13 = a13, α 14 = a14, α 15 = a15, α 16 = a16, α 35 = a35, α 36 = a36, α 37 = a37, α 38 = a38, α 39 = a39, α 40 = a40, α 41 = a41, α 42 = a42, α 43 = a43, α 44 = a44, α 45 = a45, α 49 = a49, α 50 = a50, α 51 = a51, α 52 = a52, α 53 = a53, α 54 = a54, α 55 = a55 at *
  subst f4
  subst f8
  intro j h1 h2
  have := f7 j h1 h2
  try rw [updI_ne (by omega)]
  try rw [updI_ne (by omega)]
  exact this)
def w_keepBest_1_12 : VC := ((bY ++ [(0, 23), (0, 1), ((-1), 9), ((-1), 7), (0, 9), (0, 8), (1, 10), (0, 11), (0, 9), ((-2147483648), 2147483647), ((-2147483648), 2147483647), (0, 8)]), [(2, [(some 16, 0), (some 24, 0)], []), (2, [(some 16, 0), (some 24, 0)], []), (174, [(some 24, 0), (some 18, 0), (none, 23)], [53, 36]), (104, [(none, 24), (some 18, 0), (some 20, 0), (some 19, 0), (some 21, 0), (some 5, 0), (some 6, 0), (some 22, 0), (some 23, 0)], [35, 36, 37, 38, 39, 40, 41, 49, 11, 12, 13, 14, 15, 16, 43, 44, 45, 50, 51, 52, 53, 54, 55]), (21, [(some 4, 0), (some 17, 0)], [49, 42]), (2, [(some 17, 0), (some 19, 0)], []), (106, [(some 18, 0), (some 19, 0)], [1, 2, 35, 36, 37, 38, 39, 40]), (105, [(some 4, 0)], [9, 10, 41, 42]), (20, [(some 13, 0), (some 4, 0)], [41]), (183, [(some 17, 0), (some 15, 0), (some 16, 0), (some 13, 0), (some 18, 0), (some 19, 0), (some 4, 0), (some 5, 0), (some 6, 0)], [35, 36, 37, 38, 39, 40, 9, 10, 11, 12, 13, 14, 15, 16]), (0, [(some 20, 0), (some 19, 0)], []), (0, [(some 22, 0), (none, 0)], []), (0, [(some 23, 0), (none, 0)], []), (0, [(some 21, 0), (some 4, 1)], []), (3, [(some 19, 0), (some 17, 0)], []), (78, [], [1])], (183, [(some 17, 1), (some 17, 0), (some 24, 0), (some 13, 0), (some 18, 0), (some 19, 0), (some 4, 0), (some 5, 0), (some 6, 0)], [35, 36, 37, 38, 39, 40, 9, 10, 11, 12, 13, 14, 15, 16]))
set_option maxRecDepth 20000 in
theorem v_keepBest_1_12 {PT : PTy} (hp : HP13 PT) : vcOk PT w_keepBest_1_12 := vc_of (fun ρ α hB hF => by
  obtain ⟨f0, -, f2, f3, f4, f5, f6, f7, f8, f9, f10, f11, f12, f13, f14, f15, -⟩ := hF
  have e78 : PT 78 = P_ly := hp.1.1.1.1.1.1.1.1.1.1.1.2.2.2.2.2.2.2.1
  have e104 : PT 104 = P_ru := hp.1.1.1.1.1.1.1.1.2.2.2.2.2.2.2.2.2.2.1
  have e105 : PT 105 = P_cp2 := hp.1.1.1.1.1.1.1.1.2.2.2.2.2.2.2.2.2.2.2.1
  have e106 : PT 106 = P_rd := hp.1.1.1.1.1.1.1.1.2.2.2.2.2.2.2.2.2.2.2.2.1
  have e174 : PT 174 = P_cnY := hp.1.2.2.2.2.2.2.2.2.2.2.2.2.1
  have e183 : PT 183 = P_kyI := hp.2.2.2.2.1
  simp only [hF0, hF2, hF3, hF20, hF21, hFp_78, hFp_104, hFp_105, hFp_106, hFp_174, hFp_183, e78, e104, e105, e106, e174, e183, P_ly, P_ru, P_cp2, P_rd, P_cnY, P_kyI, den_s, den_c, Int.add_zero, List.map_cons, List.map_nil] at f0 f2 f3 f4 f5 f6 f7 f8 f9 f10 f11 f12 f13 f14 f15 ⊢
  have b4 : (0 : Int) ≤ ρ 4 ∧ ρ 4 ≤ 8 := hB 4 (0, 8) rfl
  have b5 : (0 : Int) ≤ ρ 5 ∧ ρ 5 ≤ 6 := hB 5 (0, 6) rfl
  have b6 : (0 : Int) ≤ ρ 6 ∧ ρ 6 ≤ 6 := hB 6 (0, 6) rfl
  have b13 : (0 : Int) ≤ ρ 13 ∧ ρ 13 ≤ 23 := hB 13 (0, 23) rfl
  have b15 : ((-1) : Int) ≤ ρ 15 ∧ ρ 15 ≤ 9 := hB 15 ((-1), 9) rfl
  have b16 : ((-1) : Int) ≤ ρ 16 ∧ ρ 16 ≤ 7 := hB 16 ((-1), 7) rfl
  have b17 : (0 : Int) ≤ ρ 17 ∧ ρ 17 ≤ 9 := hB 17 (0, 9) rfl
  have b18 : (0 : Int) ≤ ρ 18 ∧ ρ 18 ≤ 8 := hB 18 (0, 8) rfl
  have b19 : (1 : Int) ≤ ρ 19 ∧ ρ 19 ≤ 10 := hB 19 (1, 10) rfl
  have b20 : (0 : Int) ≤ ρ 20 ∧ ρ 20 ≤ 11 := hB 20 (0, 11) rfl
  have b21 : (0 : Int) ≤ ρ 21 ∧ ρ 21 ≤ 9 := hB 21 (0, 9) rfl
  have b22 : ((-2147483648) : Int) ≤ ρ 22 ∧ ρ 22 ≤ 2147483647 := hB 22 ((-2147483648), 2147483647) rfl
  have b23 : ((-2147483648) : Int) ≤ ρ 23 ∧ ρ 23 ≤ 2147483647 := hB 23 ((-2147483648), 2147483647) rfl
  have b24 : (0 : Int) ≤ ρ 24 ∧ ρ 24 ≤ 8 := hB 24 (0, 8) rfl
  clear hB
  generalize ρ 4 = r4, ρ 5 = r5, ρ 6 = r6, ρ 13 = r13, ρ 15 = r15, ρ 16 = r16, ρ 17 = r17, ρ 18 = r18, ρ 19 = r19, ρ 20 = r20, ρ 21 = r21, ρ 22 = r22, ρ 23 = r23, ρ 24 = r24, α 1 = a1, α 2 = a2, α 9 = a9, α 10 = a10, α 11 = a11, α 12 = a12, α 13 = a13, α 14 = a14, α 15 = a15, α 16 = a16, α 35 = a35, α 36 = a36, α 37 = a37, α 38 = a38, α 39 = a39, α 40 = a40, α 41 = a41, α 42 = a42, α 43 = a43, α 44 = a44, α 45 = a45, α 49 = a49, α 50 = a50, α 51 = a51, α 52 = a52, α 53 = a53, α 54 = a54, α 55 = a55 at *
  subst f4
  subst f8
  obtain ⟨h1, h2⟩ := f3
  have e1 : r20 = r19 := by omega
  have e2 : r22 = 0 := by omega
  have e3 : r23 = 0 := by omega
  have e4 : r21 = r4 + 1 := by omega
  rw [e1, e2, e3, e4] at h1 h2
  have hc := (f2).1
  have hp := f7
  have hi := f9
  subst hc
  first
    | (exfalso; omega)
    | exact obS_t hi (by omega) ⟨_, _, _, _, _, _, _, _, fun i i1 i2 => (by rw [updI_ne (by omega)]; exact hp i i1 i2), (by first | rfl | exact updI_at _ _ _ | omega), updI_at _ _ _, ⟨_, _, _, h1, h2⟩, rfl⟩ (by omega) (by rw [cnt_G]; exact (cntG_nn _ _).1)
    | exact obS_k hi (by omega) ⟨_, _, _, _, _, _, _, _, fun i i1 i2 => (by rw [updI_ne (by omega)]; exact hp i i1 i2), (by first | rfl | exact updI_at _ _ _ | omega), updI_at _ _ _, ⟨_, _, _, h1, h2⟩, rfl⟩ (by omega) (by rw [cnt_G]; exact (cntG_nn _ _).1))
def w_keepBest_1_13 : VC := ((bY ++ [(0, 23), (0, 1), ((-1), 9), ((-1), 7), (0, 9), (0, 8), (1, 10), (0, 11), (0, 9), ((-2147483648), 2147483647), ((-2147483648), 2147483647), (0, 8)]), [(2, [(some 16, 0), (some 24, 0)], []), (2, [(some 16, 0), (some 24, 0)], []), (174, [(some 24, 0), (some 18, 0), (none, 23)], [53, 36]), (104, [(none, 24), (some 18, 0), (some 20, 0), (some 19, 0), (some 21, 0), (some 5, 0), (some 6, 0), (some 22, 0), (some 23, 0)], [35, 36, 37, 38, 39, 40, 41, 49, 11, 12, 13, 14, 15, 16, 43, 44, 45, 50, 51, 52, 53, 54, 55]), (21, [(some 4, 0), (some 17, 0)], [49, 42]), (2, [(some 17, 0), (some 19, 0)], []), (106, [(some 18, 0), (some 19, 0)], [1, 2, 35, 36, 37, 38, 39, 40]), (105, [(some 4, 0)], [9, 10, 41, 42]), (20, [(some 13, 0), (some 4, 0)], [41]), (183, [(some 17, 0), (some 15, 0), (some 16, 0), (some 13, 0), (some 18, 0), (some 19, 0), (some 4, 0), (some 5, 0), (some 6, 0)], [35, 36, 37, 38, 39, 40, 9, 10, 11, 12, 13, 14, 15, 16]), (0, [(some 20, 0), (some 19, 0)], []), (0, [(some 22, 0), (none, 0)], []), (0, [(some 23, 0), (none, 0)], []), (0, [(some 21, 0), (some 4, 1)], []), (3, [(some 19, 0), (some 17, 0)], []), (78, [], [1])], (3, [(some 19, 0), (some 17, 1)], []))
set_option maxRecDepth 20000 in
theorem v_keepBest_1_13 {PT : PTy} (hp : HP13 PT) : vcOk PT w_keepBest_1_13 := vc_of (fun ρ α hB hF => by
  obtain ⟨f0, -, f2, f3, f4, f5, f6, f7, f8, f9, f10, f11, f12, f13, f14, f15, -⟩ := hF
  have e78 : PT 78 = P_ly := hp.1.1.1.1.1.1.1.1.1.1.1.2.2.2.2.2.2.2.1
  have e104 : PT 104 = P_ru := hp.1.1.1.1.1.1.1.1.2.2.2.2.2.2.2.2.2.2.1
  have e105 : PT 105 = P_cp2 := hp.1.1.1.1.1.1.1.1.2.2.2.2.2.2.2.2.2.2.2.1
  have e106 : PT 106 = P_rd := hp.1.1.1.1.1.1.1.1.2.2.2.2.2.2.2.2.2.2.2.2.1
  have e174 : PT 174 = P_cnY := hp.1.2.2.2.2.2.2.2.2.2.2.2.2.1
  have e183 : PT 183 = P_kyI := hp.2.2.2.2.1
  simp only [hF0, hF2, hF3, hF20, hF21, hFp_78, hFp_104, hFp_105, hFp_106, hFp_174, hFp_183, e78, e104, e105, e106, e174, e183, P_ly, P_ru, P_cp2, P_rd, P_cnY, P_kyI, den_s, den_c, Int.add_zero, List.map_cons, List.map_nil] at f0 f2 f3 f4 f5 f6 f7 f8 f9 f10 f11 f12 f13 f14 f15 ⊢
  have b4 : (0 : Int) ≤ ρ 4 ∧ ρ 4 ≤ 8 := hB 4 (0, 8) rfl
  have b5 : (0 : Int) ≤ ρ 5 ∧ ρ 5 ≤ 6 := hB 5 (0, 6) rfl
  have b6 : (0 : Int) ≤ ρ 6 ∧ ρ 6 ≤ 6 := hB 6 (0, 6) rfl
  have b13 : (0 : Int) ≤ ρ 13 ∧ ρ 13 ≤ 23 := hB 13 (0, 23) rfl
  have b15 : ((-1) : Int) ≤ ρ 15 ∧ ρ 15 ≤ 9 := hB 15 ((-1), 9) rfl
  have b16 : ((-1) : Int) ≤ ρ 16 ∧ ρ 16 ≤ 7 := hB 16 ((-1), 7) rfl
  have b17 : (0 : Int) ≤ ρ 17 ∧ ρ 17 ≤ 9 := hB 17 (0, 9) rfl
  have b18 : (0 : Int) ≤ ρ 18 ∧ ρ 18 ≤ 8 := hB 18 (0, 8) rfl
  have b19 : (1 : Int) ≤ ρ 19 ∧ ρ 19 ≤ 10 := hB 19 (1, 10) rfl
  have b20 : (0 : Int) ≤ ρ 20 ∧ ρ 20 ≤ 11 := hB 20 (0, 11) rfl
  have b21 : (0 : Int) ≤ ρ 21 ∧ ρ 21 ≤ 9 := hB 21 (0, 9) rfl
  have b22 : ((-2147483648) : Int) ≤ ρ 22 ∧ ρ 22 ≤ 2147483647 := hB 22 ((-2147483648), 2147483647) rfl
  have b23 : ((-2147483648) : Int) ≤ ρ 23 ∧ ρ 23 ≤ 2147483647 := hB 23 ((-2147483648), 2147483647) rfl
  have b24 : (0 : Int) ≤ ρ 24 ∧ ρ 24 ≤ 8 := hB 24 (0, 8) rfl
  clear hB
  generalize ρ 4 = r4, ρ 5 = r5, ρ 6 = r6, ρ 13 = r13, ρ 15 = r15, ρ 16 = r16, ρ 17 = r17, ρ 18 = r18, ρ 19 = r19, ρ 20 = r20, ρ 21 = r21, ρ 22 = r22, ρ 23 = r23, ρ 24 = r24, α 1 = a1, α 2 = a2, α 9 = a9, α 10 = a10, α 11 = a11, α 12 = a12, α 13 = a13, α 14 = a14, α 15 = a15, α 16 = a16, α 35 = a35, α 36 = a36, α 37 = a37, α 38 = a38, α 39 = a39, α 40 = a40, α 41 = a41, α 42 = a42, α 43 = a43, α 44 = a44, α 45 = a45, α 49 = a49, α 50 = a50, α 51 = a51, α 52 = a52, α 53 = a53, α 54 = a54, α 55 = a55 at *
  subst f4
  subst f8
  omega)
set_option maxRecDepth 1000000 in
theorem k_keepBest {PT : PTy} (hp : HP13 PT) : wfX c_keepBest = true ∧ xcOk PT c_keepBest := xctr (xl (k_runs hp.1.1.1.1.1.1.1.1) (xl (k_asTold hp.1.1.1.1.1.1.1.1) (xl (k_fitMany hp.1) (xl0)))) c_keepBest 51 mX7_keepBest rfl h_keepBest (by decide +kernel) (by decide +kernel) (by decide) (vcs_by [w_keepBest_0_0, w_keepBest_0_1, w_keepBest_0_2, w_keepBest_0_3, w_keepBest_0_4] (by decide +kernel) (vc (v_keepBest_0_0 hp) (vc (v_keepBest_0_1 hp) (vc (v_keepBest_0_2 hp) (vc (v_keepBest_0_3 hp) (vc (v_keepBest_0_4 hp) vn)))))) (fmc (vcs_by [w_keepBest_1_0, w_keepBest_1_1, w_keepBest_1_2, w_keepBest_1_3, w_keepBest_1_4, w_keepBest_1_5, w_keepBest_1_6, w_keepBest_1_7, w_keepBest_1_8, w_keepBest_1_9, w_keepBest_1_10, w_keepBest_1_11, w_keepBest_1_12, w_keepBest_1_13] (by decide +kernel) (vc (v_keepBest_1_0 hp) (vc (v_keepBest_1_1 hp) (vc (v_keepBest_1_2 hp) (vc (v_keepBest_1_3 hp) (vc (v_keepBest_1_4 hp) (vc (v_keepBest_1_5 hp) (vc (v_keepBest_1_6 hp) (vc (v_keepBest_1_7 hp) (vc (v_keepBest_1_8 hp) (vc (v_keepBest_1_9 hp) (vc (v_keepBest_1_10 hp) (vc (v_keepBest_1_11 hp) (vc (v_keepBest_1_12 hp) (vc (v_keepBest_1_13 hp) vn))))))))))))))) fmn)
