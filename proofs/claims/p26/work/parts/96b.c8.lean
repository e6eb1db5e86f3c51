/-! ===== sheets; printed by wip/gen/x ===== -/
def P_shX (l : List Int) (a : List (Int → Int)) : Prop := match l, a with
  | [r, s, f, n, g, G], [L, M, r0, r1, r2, r3, L2, M2, q0, q1, q2, q3] => (¬ (0 ≤ s ∧ s ≤ 3 ∧ 0 ≤ f ∧ f ≤ 2 ∧ n ≤ 60) → r = -2 ∧ G = g ∧ L2 = L ∧ M2 = M ∧ q0 = r0 ∧ q1 = r1 ∧ q2 = r2 ∧ q3 = r3) ∧ (0 ≤ s ∧ s ≤ 3 ∧ 0 ≤ f ∧ f ≤ 2 ∧ n ≤ 60 → n < 0 → r = -15 ∧ G = 5 ∧ L2 = L ∧ M2 = M ∧ q0 = r0 ∧ q1 = r1 ∧ q2 = r2 ∧ q3 = r3) ∧ (0 ≤ s ∧ s ≤ 3 ∧ 0 ≤ f ∧ f ≤ 2 ∧ n ≤ 60 → 0 ≤ n → r = n ∧ G = g ∧ L2 = updI L s n ∧ M2 = updI M s f ∧ (s = 0 → (∀ i, 0 ≤ i → i < 60 → q0 i = 0) ∧ q1 = r1 ∧ q2 = r2 ∧ q3 = r3) ∧ (s = 1 → (∀ i, 0 ≤ i → i < 60 → q1 i = 0) ∧ q0 = r0 ∧ q2 = r2 ∧ q3 = r3) ∧ (s = 2 → (∀ i, 0 ≤ i → i < 60 → q2 i = 0) ∧ q0 = r0 ∧ q1 = r1 ∧ q3 = r3) ∧ (s = 3 → (∀ i, 0 ≤ i → i < 60 → q3 i = 0) ∧ q0 = r0 ∧ q1 = r1 ∧ q2 = r2))
  | _, _ => False
theorem hFp_125 {PT : PTy} {ρ : Nat → Int} {α : Nat → Int → Int} (l : List AN) (a : List Nat) : hF PT ρ α (125, l, a) = PT 125 (l.map (den ρ)) (a.map α) := rfl
def P_shY (l : List Int) (a : List (Int → Int)) : Prop := match l, a with
  | [r, s, f, n, g, G], [I, M, L, T, I2, M2, L2, T2] => (¬ (0 ≤ s ∧ s ≤ 3 ∧ 0 ≤ f ∧ f ≤ 2 ∧ n ≤ 60) → r = -2 ∧ G = g ∧ I2 = I ∧ M2 = M ∧ L2 = L ∧ T2 = T) ∧ (0 ≤ s ∧ s ≤ 3 ∧ 0 ≤ f ∧ f ≤ 2 ∧ n ≤ 60 → n < 0 → r = -15 ∧ G = 5 ∧ I2 = I ∧ M2 = M ∧ L2 = L ∧ T2 = T) ∧ (0 ≤ s ∧ s ≤ 3 ∧ 0 ≤ f ∧ f ≤ 2 ∧ n ≤ 60 → 0 ≤ n → r = n ∧ G = g ∧ I2 = updI I s 1 ∧ L2 = updI L s n ∧ M2 = updI M s f ∧ T2 = upF T (60 * s) (fun _ => 0) 60)
  | _, _ => False
theorem hFp_126 {PT : PTy} {ρ : Nat → Int} {α : Nat → Int → Int} (l : List AN) (a : List Nat) : hF PT ρ α (126, l, a) = PT 126 (l.map (den ρ)) (a.map α) := rfl
def P_shI (l : List Int) (a : List (Int → Int)) : Prop := match l, a with
  | [i, s], [T, T2] => T2 = upF T (60 * s) (fun _ => 0) i.toNat
  | _, _ => False
theorem hFp_127 {PT : PTy} {ρ : Nat → Int} {α : Nat → Int → Int} (l : List AN) (a : List Nat) : hF PT ρ α (127, l, a) = PT 127 (l.map (den ρ)) (a.map α) := rfl
def P_fl60 (l : List Int) (a : List (Int → Int)) : Prop := match l, a with
  | [i], [A] => ∀ j, 0 ≤ j → j < i → A j = 0
  | _, _ => False
theorem hFp_128 {PT : PTy} {ρ : Nat → Int} {α : Nat → Int → Int} (l : List AN) (a : List Nat) : hF PT ρ α (128, l, a) = PT 128 (l.map (den ρ)) (a.map α) := rfl
def P_loX (l : List Int) (a : List (Int → Int)) : Prop := match l, a with
  | [r, s, g, G], [L, M, M2] => (¬ (0 ≤ s ∧ s ≤ 3) → r = -2 ∧ G = g ∧ M2 = M) ∧ (0 ≤ s ∧ s ≤ 3 → M s = -1 → r = -11 ∧ G = 1 ∧ M2 = M) ∧ (0 ≤ s ∧ s ≤ 3 → ¬ M s = -1 → r = L s ∧ G = g ∧ M2 = updI M s (-1))
  | _, _ => False
theorem hFp_129 {PT : PTy} {ρ : Nat → Int} {α : Nat → Int → Int} (l : List AN) (a : List Nat) : hF PT ρ α (129, l, a) = PT 129 (l.map (den ρ)) (a.map α) := rfl
def P_loY (l : List Int) (a : List (Int → Int)) : Prop := match l, a with
  | [r, s, g, G], [I, L, I2] => (¬ (0 ≤ s ∧ s ≤ 3) → r = -2 ∧ G = g ∧ I2 = I) ∧ (0 ≤ s ∧ s ≤ 3 → I s = 0 → r = -11 ∧ G = 1 ∧ I2 = I) ∧ (0 ≤ s ∧ s ≤ 3 → ¬ I s = 0 → r = L s ∧ G = g ∧ I2 = updI I s 0)
  | _, _ => False
theorem hFp_130 {PT : PTy} {ρ : Nat → Int} {α : Nat → Int → Int} (l : List AN) (a : List Nat) : hF PT ρ α (130, l, a) = PT 130 (l.map (den ρ)) (a.map α) := rfl
def P_puX (l : List Int) (a : List (Int → Int)) : Prop := match l, a with
  | [r, s, f, i, v, g, G], [L, M, r0, r1, r2, r3, q0, q1, q2, q3] => (¬ (0 ≤ s ∧ s ≤ 3 ∧ 0 ≤ f ∧ f ≤ 2) → r = -2 ∧ G = g ∧ q0 = r0 ∧ q1 = r1 ∧ q2 = r2 ∧ q3 = r3) ∧ (0 ≤ s ∧ s ≤ 3 ∧ 0 ≤ f ∧ f ≤ 2 → M s = -1 → r = -11 ∧ G = 1 ∧ q0 = r0 ∧ q1 = r1 ∧ q2 = r2 ∧ q3 = r3) ∧ (0 ≤ s ∧ s ≤ 3 ∧ 0 ≤ f ∧ f ≤ 2 → ¬ M s = -1 → ¬ M s = f → r = -13 ∧ G = 3 ∧ q0 = r0 ∧ q1 = r1 ∧ q2 = r2 ∧ q3 = r3) ∧ (0 ≤ s ∧ s ≤ 3 ∧ 0 ≤ f ∧ f ≤ 2 → ¬ M s = -1 → M s = f → ¬ (0 ≤ i ∧ i < L s) → r = -12 ∧ G = 2 ∧ q0 = r0 ∧ q1 = r1 ∧ q2 = r2 ∧ q3 = r3) ∧ (0 ≤ s ∧ s ≤ 3 ∧ 0 ≤ f ∧ f ≤ 2 → ¬ M s = -1 → M s = f → 0 ≤ i ∧ i < L s → r = 1 ∧ G = g ∧ (s = 0 → q0 = updI r0 i (if M s = 0 then mI2b v else if M s = 1 then mI2s v else v) ∧ q1 = r1 ∧ q2 = r2 ∧ q3 = r3) ∧ (s = 1 → q1 = updI r1 i (if M s = 0 then mI2b v else if M s = 1 then mI2s v else v) ∧ q0 = r0 ∧ q2 = r2 ∧ q3 = r3) ∧ (s = 2 → q2 = updI r2 i (if M s = 0 then mI2b v else if M s = 1 then mI2s v else v) ∧ q0 = r0 ∧ q1 = r1 ∧ q3 = r3) ∧ (s = 3 → q3 = updI r3 i (if M s = 0 then mI2b v else if M s = 1 then mI2s v else v) ∧ q0 = r0 ∧ q1 = r1 ∧ q2 = r2))
  | _, _ => False
theorem hFp_131 {PT : PTy} {ρ : Nat → Int} {α : Nat → Int → Int} (l : List AN) (a : List Nat) : hF PT ρ α (131, l, a) = PT 131 (l.map (den ρ)) (a.map α) := rfl
def P_puY (l : List Int) (a : List (Int → Int)) : Prop := match l, a with
  | [r, s, f, i, v, g, G], [I, M, L, T, T2] => (¬ (0 ≤ s ∧ s ≤ 3 ∧ 0 ≤ f ∧ f ≤ 2) → r = -2 ∧ G = g ∧ T2 = T) ∧ (0 ≤ s ∧ s ≤ 3 ∧ 0 ≤ f ∧ f ≤ 2 → I s = 0 → r = -11 ∧ G = 1 ∧ T2 = T) ∧ (0 ≤ s ∧ s ≤ 3 ∧ 0 ≤ f ∧ f ≤ 2 → ¬ I s = 0 → ¬ M s = f → r = -13 ∧ G = 3 ∧ T2 = T) ∧ (0 ≤ s ∧ s ≤ 3 ∧ 0 ≤ f ∧ f ≤ 2 → ¬ I s = 0 → M s = f → ¬ (0 ≤ i ∧ i < L s) → r = -12 ∧ G = 2 ∧ T2 = T) ∧ (0 ≤ s ∧ s ≤ 3 ∧ 0 ≤ f ∧ f ≤ 2 → ¬ I s = 0 → M s = f → 0 ≤ i ∧ i < L s → r = 1 ∧ G = g ∧ T2 = updI T (60 * s + i) (if M s = 0 then mI2b v else if M s = 1 then mI2s v else v))
  | _, _ => False
theorem hFp_132 {PT : PTy} {ρ : Nat → Int} {α : Nat → Int → Int} (l : List AN) (a : List Nat) : hF PT ρ α (132, l, a) = PT 132 (l.map (den ρ)) (a.map α) := rfl
def P_geX (l : List Int) (a : List (Int → Int)) : Prop := match l, a with
  | [r, s, f, i, g, G], [L, M, r0, r1, r2, r3] => (¬ (0 ≤ s ∧ s ≤ 3 ∧ 0 ≤ f ∧ f ≤ 2) → r = -2147483648 ∧ G = g) ∧ (0 ≤ s ∧ s ≤ 3 ∧ 0 ≤ f ∧ f ≤ 2 → M s = -1 → r = -2147483648 ∧ G = 1) ∧ (0 ≤ s ∧ s ≤ 3 ∧ 0 ≤ f ∧ f ≤ 2 → ¬ M s = -1 → ¬ M s = f → r = -2147483648 ∧ G = 3) ∧ (0 ≤ s ∧ s ≤ 3 ∧ 0 ≤ f ∧ f ≤ 2 → ¬ M s = -1 → M s = f → ¬ (0 ≤ i ∧ i < L s) → r = -2147483648 ∧ G = 2) ∧ (0 ≤ s ∧ s ≤ 3 ∧ 0 ≤ f ∧ f ≤ 2 → ¬ M s = -1 → M s = f → 0 ≤ i ∧ i < L s → G = g ∧ (s = 0 → r = r0 i) ∧ (s = 1 → r = r1 i) ∧ (s = 2 → r = r2 i) ∧ (s = 3 → r = r3 i))
  | _, _ => False
theorem hFp_133 {PT : PTy} {ρ : Nat → Int} {α : Nat → Int → Int} (l : List AN) (a : List Nat) : hF PT ρ α (133, l, a) = PT 133 (l.map (den ρ)) (a.map α) := rfl
def P_geY (l : List Int) (a : List (Int → Int)) : Prop := match l, a with
  | [r, s, f, i, g, G], [I, M, L, T] => (¬ (0 ≤ s ∧ s ≤ 3 ∧ 0 ≤ f ∧ f ≤ 2) → r = -2147483648 ∧ G = g) ∧ (0 ≤ s ∧ s ≤ 3 ∧ 0 ≤ f ∧ f ≤ 2 → I s = 0 → r = -2147483648 ∧ G = 1) ∧ (0 ≤ s ∧ s ≤ 3 ∧ 0 ≤ f ∧ f ≤ 2 → ¬ I s = 0 → ¬ M s = f → r = -2147483648 ∧ G = 3) ∧ (0 ≤ s ∧ s ≤ 3 ∧ 0 ≤ f ∧ f ≤ 2 → ¬ I s = 0 → M s = f → ¬ (0 ≤ i ∧ i < L s) → r = -2147483648 ∧ G = 2) ∧ (0 ≤ s ∧ s ≤ 3 ∧ 0 ≤ f ∧ f ≤ 2 → ¬ I s = 0 → M s = f → 0 ≤ i ∧ i < L s → G = g ∧ r = T (60 * s + i))
  | _, _ => False
theorem hFp_134 {PT : PTy} {ρ : Nat → Int} {α : Nat → Int → Int} (l : List AN) (a : List Nat) : hF PT ρ α (134, l, a) = PT 134 (l.map (den ρ)) (a.map α) := rfl
def HP8 (PT : PTy) : Prop := HP7 PT ∧ (PT 125 = P_shX ∧ PT 126 = P_shY ∧ PT 127 = P_shI ∧ PT 128 = P_fl60 ∧ PT 129 = P_loX ∧ PT 130 = P_loY ∧ PT 131 = P_puX ∧ PT 132 = P_puY ∧ PT 133 = P_geX ∧ PT 134 = P_geY ∧ True)
def c_fill41 : XC := (202, 0, (bT), [.inr (.inl 41), .inl (none, 0)], (gX 999), [], [((bT), none, (gX 999), (ansT 58 [(41, 58)]), 59, [(128, [(none, 60)], [58])])])
def h_fill41 : List XH := [(5, (bT ++ [(0, 60)]), [some (.inr (.inl 41)), some (.inl (none, 0)), some (.inl (some 14, 0)), some (.inl (none, 60))], (gX 999), (ansT 58 [(41, 58)]), 59, [(128, [(some 14, 0)], [58])], [(true, (none, 1)), (true, (some 14, 0))])]
def w_fill41_0_0 : VC := ((bT), [], (128, [(none, 0)], [41]))
theorem pe128_8 {PT : PTy} (hp : HP8 PT) : PT 128 = P_fl60 := hp.2.2.2.2.1
set_option maxRecDepth 20000 in
theorem v_fill41_0_0 {PT : PTy} (hp : HP8 PT) : vcOk PT w_fill41_0_0 := vc_in [] (by decide +kernel) (fun ρ α => by
  intro tt
  have e128 : PT 128 = P_fl60 := pe128_8 hp
  simp only [hFp_128, e128, P_fl60, den_s, den_c, Int.add_zero, List.map_cons, List.map_nil] at ⊢
  intro i h1 h2; omega)
def w_fill41_1_0 : VC := ((bT ++ [(60, 60)]), [(3, [(some 14, 0), (none, 60)], []), (128, [(some 14, 0)], [58])], (128, [(none, 60)], [58]))
set_option maxRecDepth 20000 in
theorem v_fill41_1_0 {PT : PTy} (hp : HP8 PT) : vcOk PT w_fill41_1_0 := vc_iv [(14, 60, 60)] [58] (by decide +kernel) (fun ρ α => by
  intro r14 g14 b14 a58 h58 f0 f1 tt
  clear f0
  have e128 : PT 128 = P_fl60 := pe128_8 hp
  simp only [hFp_128, e128, P_fl60, den_s, den_c, Int.add_zero, List.map_cons, List.map_nil, g14.eq, h58] at f1 ⊢
  first
    | (intro i h1 h2; exact f1 i h1 (by omega))
    | (intro i h1 h2; by_cases q : i = r14; (rw [q, updI_at]); (rw [updI_ne q]; exact f1 i h1 (by omega))))
def w_fill41_1_1 : VC := ((bT ++ [(0, 59)]), [(21, [(some 14, 0), (none, 0)], [59, 58]), (2, [(some 14, 0), (none, 60)], []), (128, [(some 14, 0)], [58])], (128, [(some 14, 1)], [59]))
set_option maxRecDepth 20000 in
theorem v_fill41_1_1 {PT : PTy} (hp : HP8 PT) : vcOk PT w_fill41_1_1 := vc_iv [(14, 0, 59)] [58, 59] (by decide +kernel) (fun ρ α => by
  intro r14 g14 b14 a58 h58 a59 h59 f0 f1 f2 tt
  clear f1
  have e128 : PT 128 = P_fl60 := pe128_8 hp
  simp only [hF21, hFp_128, e128, P_fl60, den_s, den_c, Int.add_zero, List.map_cons, List.map_nil, g14.eq, h58, h59] at f0 f2 ⊢
  subst f0
  first
    | (intro i h1 h2; exact f2 i h1 (by omega))
    | (intro i h1 h2; by_cases q : i = r14; (rw [q, updI_at]); (rw [updI_ne q]; exact f2 i h1 (by omega))))
set_option maxRecDepth 1000000 in
theorem k_fill41 {PT : PTy} (hp : HP8 PT) : wfX c_fill41 = true ∧ xcOk PT c_fill41 := xctr (xl0) c_fill41 30 mJ7_fill_53178 rfl h_fill41 (by decide +kernel) (by decide +kernel) (by decide) (vcs_by [w_fill41_0_0] (by decide +kernel) (vc (v_fill41_0_0 hp) vn)) (fmc (vcs_by [w_fill41_1_0, w_fill41_1_1] (by decide +kernel) (vc (v_fill41_1_0 hp) (vc (v_fill41_1_1 hp) vn))) fmn)
def c_fill42 : XC := (202, 0, (bT), [.inr (.inl 42), .inl (none, 0)], (gX 999), [], [((bT), none, (gX 999), (ansT 58 [(42, 58)]), 59, [(128, [(none, 60)], [58])])])
def h_fill42 : List XH := [(5, (bT ++ [(0, 60)]), [some (.inr (.inl 42)), some (.inl (none, 0)), some (.inl (some 14, 0)), some (.inl (none, 60))], (gX 999), (ansT 58 [(42, 58)]), 59, [(128, [(some 14, 0)], [58])], [(true, (none, 1)), (true, (some 14, 0))])]
def w_fill42_0_0 : VC := ((bT), [], (128, [(none, 0)], [42]))
set_option maxRecDepth 20000 in
theorem v_fill42_0_0 {PT : PTy} (hp : HP8 PT) : vcOk PT w_fill42_0_0 := vc_in [] (by decide +kernel) (fun ρ α => by
  intro tt
  have e128 : PT 128 = P_fl60 := pe128_8 hp
  simp only [hFp_128, e128, P_fl60, den_s, den_c, Int.add_zero, List.map_cons, List.map_nil] at ⊢
  intro i h1 h2; omega)
def w_fill42_1_0 : VC := ((bT ++ [(60, 60)]), [(3, [(some 14, 0), (none, 60)], []), (128, [(some 14, 0)], [58])], (128, [(none, 60)], [58]))
set_option maxRecDepth 20000 in
theorem v_fill42_1_0 {PT : PTy} (hp : HP8 PT) : vcOk PT w_fill42_1_0 := vc_iv [(14, 60, 60)] [58] (by decide +kernel) (fun ρ α => by
  intro r14 g14 b14 a58 h58 f0 f1 tt
  clear f0
  have e128 : PT 128 = P_fl60 := pe128_8 hp
  simp only [hFp_128, e128, P_fl60, den_s, den_c, Int.add_zero, List.map_cons, List.map_nil, g14.eq, h58] at f1 ⊢
  first
    | (intro i h1 h2; exact f1 i h1 (by omega))
    | (intro i h1 h2; by_cases q : i = r14; (rw [q, updI_at]); (rw [updI_ne q]; exact f1 i h1 (by omega))))
def w_fill42_1_1 : VC := ((bT ++ [(0, 59)]), [(21, [(some 14, 0), (none, 0)], [59, 58]), (2, [(some 14, 0), (none, 60)], []), (128, [(some 14, 0)], [58])], (128, [(some 14, 1)], [59]))
set_option maxRecDepth 20000 in
theorem v_fill42_1_1 {PT : PTy} (hp : HP8 PT) : vcOk PT w_fill42_1_1 := vc_iv [(14, 0, 59)] [58, 59] (by decide +kernel) (fun ρ α => by
  intro r14 g14 b14 a58 h58 a59 h59 f0 f1 f2 tt
  clear f1
  have e128 : PT 128 = P_fl60 := pe128_8 hp
  simp only [hF21, hFp_128, e128, P_fl60, den_s, den_c, Int.add_zero, List.map_cons, List.map_nil, g14.eq, h58, h59] at f0 f2 ⊢
  subst f0
  first
    | (intro i h1 h2; exact f2 i h1 (by omega))
    | (intro i h1 h2; by_cases q : i = r14; (rw [q, updI_at]); (rw [updI_ne q]; exact f2 i h1 (by omega))))
set_option maxRecDepth 1000000 in
theorem k_fill42 {PT : PTy} (hp : HP8 PT) : wfX c_fill42 = true ∧ xcOk PT c_fill42 := xctr (xl0) c_fill42 30 mJ7_fill_53178 rfl h_fill42 (by decide +kernel) (by decide +kernel) (by decide) (vcs_by [w_fill42_0_0] (by decide +kernel) (vc (v_fill42_0_0 hp) vn)) (fmc (vcs_by [w_fill42_1_0, w_fill42_1_1] (by decide +kernel) (vc (v_fill42_1_0 hp) (vc (v_fill42_1_1 hp) vn))) fmn)
def c_fill43 : XC := (202, 0, (bT), [.inr (.inl 43), .inl (none, 0)], (gX 999), [], [((bT), none, (gX 999), (ansT 58 [(43, 58)]), 59, [(128, [(none, 60)], [58])])])
def h_fill43 : List XH := [(5, (bT ++ [(0, 60)]), [some (.inr (.inl 43)), some (.inl (none, 0)), some (.inl (some 14, 0)), some (.inl (none, 60))], (gX 999), (ansT 58 [(43, 58)]), 59, [(128, [(some 14, 0)], [58])], [(true, (none, 1)), (true, (some 14, 0))])]
def w_fill43_0_0 : VC := ((bT), [], (128, [(none, 0)], [43]))
set_option maxRecDepth 20000 in
theorem v_fill43_0_0 {PT : PTy} (hp : HP8 PT) : vcOk PT w_fill43_0_0 := vc_in [] (by decide +kernel) (fun ρ α => by
  intro tt
  have e128 : PT 128 = P_fl60 := pe128_8 hp
  simp only [hFp_128, e128, P_fl60, den_s, den_c, Int.add_zero, List.map_cons, List.map_nil] at ⊢
  intro i h1 h2; omega)
def w_fill43_1_0 : VC := ((bT ++ [(60, 60)]), [(3, [(some 14, 0), (none, 60)], []), (128, [(some 14, 0)], [58])], (128, [(none, 60)], [58]))
set_option maxRecDepth 20000 in
theorem v_fill43_1_0 {PT : PTy} (hp : HP8 PT) : vcOk PT w_fill43_1_0 := vc_iv [(14, 60, 60)] [58] (by decide +kernel) (fun ρ α => by
  intro r14 g14 b14 a58 h58 f0 f1 tt
  clear f0
  have e128 : PT 128 = P_fl60 := pe128_8 hp
  simp only [hFp_128, e128, P_fl60, den_s, den_c, Int.add_zero, List.map_cons, List.map_nil, g14.eq, h58] at f1 ⊢
  first
    | (intro i h1 h2; exact f1 i h1 (by omega))
    | (intro i h1 h2; by_cases q : i = r14; (rw [q, updI_at]); (rw [updI_ne q]; exact f1 i h1 (by omega))))
def w_fill43_1_1 : VC := ((bT ++ [(0, 59)]), [(21, [(some 14, 0), (none, 0)], [59, 58]), (2, [(some 14, 0), (none, 60)], []), (128, [(some 14, 0)], [58])], (128, [(some 14, 1)], [59]))
set_option maxRecDepth 20000 in
theorem v_fill43_1_1 {PT : PTy} (hp : HP8 PT) : vcOk PT w_fill43_1_1 := vc_iv [(14, 0, 59)] [58, 59] (by decide +kernel) (fun ρ α => by
  intro r14 g14 b14 a58 h58 a59 h59 f0 f1 f2 tt
  clear f1
  have e128 : PT 128 = P_fl60 := pe128_8 hp
  simp only [hF21, hFp_128, e128, P_fl60, den_s, den_c, Int.add_zero, List.map_cons, List.map_nil, g14.eq, h58, h59] at f0 f2 ⊢
  subst f0
  first
    | (intro i h1 h2; exact f2 i h1 (by omega))
    | (intro i h1 h2; by_cases q : i = r14; (rw [q, updI_at]); (rw [updI_ne q]; exact f2 i h1 (by omega))))
set_option maxRecDepth 1000000 in
theorem k_fill43 {PT : PTy} (hp : HP8 PT) : wfX c_fill43 = true ∧ xcOk PT c_fill43 := xctr (xl0) c_fill43 30 mJ7_fill_53178 rfl h_fill43 (by decide +kernel) (by decide +kernel) (by decide) (vcs_by [w_fill43_0_0] (by decide +kernel) (vc (v_fill43_0_0 hp) vn)) (fmc (vcs_by [w_fill43_1_0, w_fill43_1_1] (by decide +kernel) (vc (v_fill43_1_0 hp) (vc (v_fill43_1_1 hp) vn))) fmn)
def c_fill44 : XC := (202, 0, (bT), [.inr (.inl 44), .inl (none, 0)], (gX 999), [], [((bT), none, (gX 999), (ansT 58 [(44, 58)]), 59, [(128, [(none, 60)], [58])])])
def h_fill44 : List XH := [(5, (bT ++ [(0, 60)]), [some (.inr (.inl 44)), some (.inl (none, 0)), some (.inl (some 14, 0)), some (.inl (none, 60))], (gX 999), (ansT 58 [(44, 58)]), 59, [(128, [(some 14, 0)], [58])], [(true, (none, 1)), (true, (some 14, 0))])]
def w_fill44_0_0 : VC := ((bT), [], (128, [(none, 0)], [44]))
set_option maxRecDepth 20000 in
theorem v_fill44_0_0 {PT : PTy} (hp : HP8 PT) : vcOk PT w_fill44_0_0 := vc_in [] (by decide +kernel) (fun ρ α => by
  intro tt
  have e128 : PT 128 = P_fl60 := pe128_8 hp
  simp only [hFp_128, e128, P_fl60, den_s, den_c, Int.add_zero, List.map_cons, List.map_nil] at ⊢
  intro i h1 h2; omega)
def w_fill44_1_0 : VC := ((bT ++ [(60, 60)]), [(3, [(some 14, 0), (none, 60)], []), (128, [(some 14, 0)], [58])], (128, [(none, 60)], [58]))
set_option maxRecDepth 20000 in
theorem v_fill44_1_0 {PT : PTy} (hp : HP8 PT) : vcOk PT w_fill44_1_0 := vc_iv [(14, 60, 60)] [58] (by decide +kernel) (fun ρ α => by
  intro r14 g14 b14 a58 h58 f0 f1 tt
  clear f0
  have e128 : PT 128 = P_fl60 := pe128_8 hp
  simp only [hFp_128, e128, P_fl60, den_s, den_c, Int.add_zero, List.map_cons, List.map_nil, g14.eq, h58] at f1 ⊢
  first
    | (intro i h1 h2; exact f1 i h1 (by omega))
    | (intro i h1 h2; by_cases q : i = r14; (rw [q, updI_at]); (rw [updI_ne q]; exact f1 i h1 (by omega))))
def w_fill44_1_1 : VC := ((bT ++ [(0, 59)]), [(21, [(some 14, 0), (none, 0)], [59, 58]), (2, [(some 14, 0), (none, 60)], []), (128, [(some 14, 0)], [58])], (128, [(some 14, 1)], [59]))
set_option maxRecDepth 20000 in
theorem v_fill44_1_1 {PT : PTy} (hp : HP8 PT) : vcOk PT w_fill44_1_1 := vc_iv [(14, 0, 59)] [58, 59] (by decide +kernel) (fun ρ α => by
  intro r14 g14 b14 a58 h58 a59 h59 f0 f1 f2 tt
  clear f1
  have e128 : PT 128 = P_fl60 := pe128_8 hp
  simp only [hF21, hFp_128, e128, P_fl60, den_s, den_c, Int.add_zero, List.map_cons, List.map_nil, g14.eq, h58, h59] at f0 f2 ⊢
  subst f0
  first
    | (intro i h1 h2; exact f2 i h1 (by omega))
    | (intro i h1 h2; by_cases q : i = r14; (rw [q, updI_at]); (rw [updI_ne q]; exact f2 i h1 (by omega))))
set_option maxRecDepth 1000000 in
theorem k_fill44 {PT : PTy} (hp : HP8 PT) : wfX c_fill44 = true ∧ xcOk PT c_fill44 := xctr (xl0) c_fill44 30 mJ7_fill_53178 rfl h_fill44 (by decide +kernel) (by decide +kernel) (by decide) (vcs_by [w_fill44_0_0] (by decide +kernel) (vc (v_fill44_0_0 hp) vn)) (fmc (vcs_by [w_fill44_1_0, w_fill44_1_1] (by decide +kernel) (vc (v_fill44_1_0 hp) (vc (v_fill44_1_1 hp) vn))) fmn)
def c_xo_sheet : XC := (72, 2, (bT ++ [((-2147483648), 2147483647), ((-2147483648), 2147483647), ((-2147483648), 2147483647)]), [.inr (.inl 0), .inl (some 14, 0), .inl (some 15, 0), .inl (some 16, 0)], (gX 999), [], [((bT ++ [((-2147483648), 2147483647), ((-2147483648), 2147483647), ((-2147483648), 2147483647), ((-15), 60), (0, 5)]), some (.inl (some 17, 0)), (hst (gX 999) [(0, .inr (.inr (.inr (6, [.inr (.inl 1), .inr (.inl 3), .inr (.inl 5), .inr (.inl 6), .inr (.inl 9), .inr (.inl 14), .inr (.inl 18), .inr (.inl 22), .inr (.inl 31), .inr (.inl 35), .inr (.inl 39), .inr (.inl 47), .inl (some 18, 0)]))))]), (ansT 58 [(41, 58), (42, 59), (43, 60), (44, 61), (45, 62), (46, 63)]), 64, [(125, [(some 17, 0), (some 14, 0), (some 15, 0), (some 16, 0), (some 13, 0), (some 18, 0)], [45, 46, 41, 42, 43, 44, 62, 63, 58, 59, 60, 61])])])
def h_xo_sheet : List XH := []
def w_xo_sheet_0_0 : VC := ((bT ++ [((-2147483648), (-1)), ((-2147483648), 2147483647), ((-2147483648), 2147483647)]), [(0, [(none, 0), (none, 0)], []), (2, [(some 14, 0), (none, 0)], [])], (125, [(none, (-2)), (some 14, 0), (some 15, 0), (some 16, 0), (some 13, 0), (some 13, 0)], [45, 46, 41, 42, 43, 44, 45, 46, 41, 42, 43, 44]))
theorem pe125_8 {PT : PTy} (hp : HP8 PT) : PT 125 = P_shX := hp.2.1
set_option maxRecDepth 20000 in
theorem v_xo_sheet_0_0 {PT : PTy} (hp : HP8 PT) : vcOk PT w_xo_sheet_0_0 := vc_iv [(13, 0, 5), (14, (-2147483648), (-1)), (15, (-2147483648), 2147483647), (16, (-2147483648), 2147483647)] [41, 42, 43, 44, 45, 46] (by decide +kernel) (fun ρ α => by
  intro r13 g13 b13 r14 g14 b14 r15 g15 b15 r16 g16 b16 a41 h41 a42 h42 a43 h43 a44 h44 a45 h45 a46 h46 f0 f1 tt
  have e125 : PT 125 = P_shX := pe125_8 hp
  simp only [hF0, hF2, hFp_125, e125, P_shX, den_s, den_c, Int.add_zero, List.map_cons, List.map_nil, g13.eq, g14.eq, g15.eq, g16.eq, h41, h42, h43, h44, h45, h46] at f0 f1 ⊢
  clear g13 g14 g15 g16 h41 h42 h43 h44 h45 h46 e125 tt
  ((repeat' (first | apply And.intro | intro h)) <;> first | omega | rfl | trivial | (exfalso; omega) | (congr 1; omega) | exact MISSING _ (by assumption) (by assumption)))
def w_xo_sheet_0_1 : VC := ((bT ++ [(4, 2147483647), ((-2147483648), 2147483647), ((-2147483648), 2147483647)]), [(0, [(none, 0), (none, 0)], []), (2, [(none, 3), (some 14, 0)], []), (3, [(some 14, 0), (none, 0)], [])], (125, [(none, (-2)), (some 14, 0), (some 15, 0), (some 16, 0), (some 13, 0), (some 13, 0)], [45, 46, 41, 42, 43, 44, 45, 46, 41, 42, 43, 44]))
set_option maxRecDepth 20000 in
theorem v_xo_sheet_0_1 {PT : PTy} (hp : HP8 PT) : vcOk PT w_xo_sheet_0_1 := vc_iv [(13, 0, 5), (14, 4, 2147483647), (15, (-2147483648), 2147483647), (16, (-2147483648), 2147483647)] [41, 42, 43, 44, 45, 46] (by decide +kernel) (fun ρ α => by
  intro r13 g13 b13 r14 g14 b14 r15 g15 b15 r16 g16 b16 a41 h41 a42 h42 a43 h43 a44 h44 a45 h45 a46 h46 f0 f1 f2 tt
  have e125 : PT 125 = P_shX := pe125_8 hp
  simp only [hF0, hF2, hF3, hFp_125, e125, P_shX, den_s, den_c, Int.add_zero, List.map_cons, List.map_nil, g13.eq, g14.eq, g15.eq, g16.eq, h41, h42, h43, h44, h45, h46] at f0 f1 f2 ⊢
  clear g13 g14 g15 g16 h41 h42 h43 h44 h45 h46 e125 tt
  ((repeat' (first | apply And.intro | intro h)) <;> first | omega | rfl | trivial | (exfalso; omega) | (congr 1; omega) | exact MISSING _ (by assumption) (by assumption)))
def w_xo_sheet_0_2 : VC := ((bT ++ [(0, 3), ((-2147483648), (-1)), ((-2147483648), 2147483647)]), [(0, [(none, 0), (none, 0)], []), (2, [(some 15, 0), (none, 0)], []), (1, [(none, 1), (none, 0)], []), (3, [(none, 3), (some 14, 0)], []), (3, [(some 14, 0), (none, 0)], [])], (125, [(none, (-2)), (some 14, 0), (some 15, 0), (some 16, 0), (some 13, 0), (some 13, 0)], [45, 46, 41, 42, 43, 44, 45, 46, 41, 42, 43, 44]))
set_option maxRecDepth 20000 in
theorem v_xo_sheet_0_2 {PT : PTy} (hp : HP8 PT) : vcOk PT w_xo_sheet_0_2 := vc_iv [(13, 0, 5), (14, 0, 3), (15, (-2147483648), (-1)), (16, (-2147483648), 2147483647)] [41, 42, 43, 44, 45, 46] (by decide +kernel) (fun ρ α => by
  intro r13 g13 b13 r14 g14 b14 r15 g15 b15 r16 g16 b16 a41 h41 a42 h42 a43 h43 a44 h44 a45 h45 a46 h46 f0 f1 f2 f3 f4 tt
  have e125 : PT 125 = P_shX := pe125_8 hp
  simp only [hF0, hF1, hF2, hF3, hFp_125, e125, P_shX, den_s, den_c, Int.add_zero, List.map_cons, List.map_nil, g13.eq, g14.eq, g15.eq, g16.eq, h41, h42, h43, h44, h45, h46] at f0 f1 f2 f3 f4 ⊢
  clear g13 g14 g15 g16 h41 h42 h43 h44 h45 h46 e125 tt
  ((repeat' (first | apply And.intro | intro h)) <;> first | omega | rfl | trivial | (exfalso; omega) | (congr 1; omega) | exact MISSING _ (by assumption) (by assumption)))
def w_xo_sheet_0_3 : VC := ((bT ++ [(0, 3), (3, 2147483647), ((-2147483648), 2147483647)]), [(0, [(none, 0), (none, 0)], []), (2, [(none, 2), (some 15, 0)], []), (3, [(some 15, 0), (none, 0)], []), (1, [(none, 1), (none, 0)], []), (3, [(none, 3), (some 14, 0)], []), (3, [(some 14, 0), (none, 0)], [])], (125, [(none, (-2)), (some 14, 0), (some 15, 0), (some 16, 0), (some 13, 0), (some 13, 0)], [45, 46, 41, 42, 43, 44, 45, 46, 41, 42, 43, 44]))
set_option maxRecDepth 20000 in
theorem v_xo_sheet_0_3 {PT : PTy} (hp : HP8 PT) : vcOk PT w_xo_sheet_0_3 := vc_iv [(13, 0, 5), (14, 0, 3), (15, 3, 2147483647), (16, (-2147483648), 2147483647)] [41, 42, 43, 44, 45, 46] (by decide +kernel) (fun ρ α => by
  intro r13 g13 b13 r14 g14 b14 r15 g15 b15 r16 g16 b16 a41 h41 a42 h42 a43 h43 a44 h44 a45 h45 a46 h46 f0 f1 f2 f3 f4 f5 tt
  have e125 : PT 125 = P_shX := pe125_8 hp
  simp only [hF0, hF1, hF2, hF3, hFp_125, e125, P_shX, den_s, den_c, Int.add_zero, List.map_cons, List.map_nil, g13.eq, g14.eq, g15.eq, g16.eq, h41, h42, h43, h44, h45, h46] at f0 f1 f2 f3 f4 f5 ⊢
  clear g13 g14 g15 g16 h41 h42 h43 h44 h45 h46 e125 tt
  ((repeat' (first | apply And.intro | intro h)) <;> first | omega | rfl | trivial | (exfalso; omega) | (congr 1; omega) | exact MISSING _ (by assumption) (by assumption)))
def w_xo_sheet_0_4 : VC := ((bT ++ [(0, 0), (0, 2), (0, 60)]), [(128, [(none, 60)], [60]), (0, [(some 14, 0), (none, 0)], []), (21, [(some 14, 0), (some 16, 0)], [59, 45]), (21, [(some 14, 0), (some 15, 0)], [58, 46]), (3, [(some 16, 0), (none, 0)], []), (3, [(none, 60), (some 16, 0)], []), (1, [(none, 1), (none, 0)], []), (3, [(none, 2), (some 15, 0)], []), (3, [(some 15, 0), (none, 0)], []), (1, [(none, 1), (none, 0)], []), (3, [(none, 3), (some 14, 0)], []), (3, [(some 14, 0), (none, 0)], [])], (125, [(some 16, 0), (some 14, 0), (some 15, 0), (some 16, 0), (some 13, 0), (some 13, 0)], [45, 46, 41, 42, 43, 44, 59, 58, 60, 42, 43, 44]))
set_option maxRecDepth 20000 in
theorem v_xo_sheet_0_4 {PT : PTy} (hp : HP8 PT) : vcOk PT w_xo_sheet_0_4 := vc_iv [(13, 0, 5), (14, 0, 0), (15, 0, 2), (16, 0, 60)] [41, 42, 43, 44, 45, 46, 58, 59, 60] (by decide +kernel) (fun ρ α => by
  intro r13 g13 b13 r14 g14 b14 r15 g15 b15 r16 g16 b16 a41 h41 a42 h42 a43 h43 a44 h44 a45 h45 a46 h46 a58 h58 a59 h59 a60 h60 f0 f1 f2 f3 f4 f5 f6 f7 f8 f9 f10 f11 tt
  have e125 : PT 125 = P_shX := pe125_8 hp
  have e128 : PT 128 = P_fl60 := pe128_8 hp
  simp only [hF0, hF1, hF3, hF21, hFp_125, hFp_128, e125, e128, P_shX, P_fl60, den_s, den_c, Int.add_zero, List.map_cons, List.map_nil, g13.eq, g14.eq, g15.eq, g16.eq, h41, h42, h43, h44, h45, h46, h58, h59, h60] at f0 f1 f2 f3 f4 f5 f6 f7 f8 f9 f10 f11 ⊢
  clear g13 g14 g15 g16 h41 h42 h43 h44 h45 h46 h58 h59 h60 e125 e128 tt
  subst f2
  subst f3
  ((repeat' (first | apply And.intro | intro h)) <;> first | omega | rfl | trivial | (exfalso; omega) | (congr 1; omega) | exact f0 _ (by assumption) (by assumption)))
def w_xo_sheet_0_5 : VC := ((bT ++ [(1, 1), (0, 2), (0, 60)]), [(128, [(none, 60)], [60]), (0, [(some 14, 0), (none, 1)], []), (21, [(some 14, 0), (some 16, 0)], [59, 45]), (21, [(some 14, 0), (some 15, 0)], [58, 46]), (3, [(some 16, 0), (none, 0)], []), (3, [(none, 60), (some 16, 0)], []), (1, [(none, 1), (none, 0)], []), (3, [(none, 2), (some 15, 0)], []), (3, [(some 15, 0), (none, 0)], []), (1, [(none, 1), (none, 0)], []), (3, [(none, 3), (some 14, 0)], []), (3, [(some 14, 0), (none, 0)], [])], (125, [(some 16, 0), (some 14, 0), (some 15, 0), (some 16, 0), (some 13, 0), (some 13, 0)], [45, 46, 41, 42, 43, 44, 59, 58, 41, 60, 43, 44]))
set_option maxRecDepth 20000 in
theorem v_xo_sheet_0_5 {PT : PTy} (hp : HP8 PT) : vcOk PT w_xo_sheet_0_5 := vc_iv [(13, 0, 5), (14, 1, 1), (15, 0, 2), (16, 0, 60)] [41, 42, 43, 44, 45, 46, 58, 59, 60] (by decide +kernel) (fun ρ α => by
  intro r13 g13 b13 r14 g14 b14 r15 g15 b15 r16 g16 b16 a41 h41 a42 h42 a43 h43 a44 h44 a45 h45 a46 h46 a58 h58 a59 h59 a60 h60 f0 f1 f2 f3 f4 f5 f6 f7 f8 f9 f10 f11 tt
  have e125 : PT 125 = P_shX := pe125_8 hp
  have e128 : PT 128 = P_fl60 := pe128_8 hp
  simp only [hF0, hF1, hF3, hF21, hFp_125, hFp_128, e125, e128, P_shX, P_fl60, den_s, den_c, Int.add_zero, List.map_cons, List.map_nil, g13.eq, g14.eq, g15.eq, g16.eq, h41, h42, h43, h44, h45, h46, h58, h59, h60] at f0 f1 f2 f3 f4 f5 f6 f7 f8 f9 f10 f11 ⊢
  clear g13 g14 g15 g16 h41 h42 h43 h44 h45 h46 h58 h59 h60 e125 e128 tt
  subst f2
  subst f3
  ((repeat' (first | apply And.intro | intro h)) <;> first | omega | rfl | trivial | (exfalso; omega) | (congr 1; omega) | exact f0 _ (by assumption) (by assumption)))
def w_xo_sheet_0_6 : VC := ((bT ++ [(2, 2), (0, 2), (0, 60)]), [(128, [(none, 60)], [60]), (0, [(some 14, 0), (none, 2)], []), (21, [(some 14, 0), (some 16, 0)], [59, 45]), (21, [(some 14, 0), (some 15, 0)], [58, 46]), (3, [(some 16, 0), (none, 0)], []), (3, [(none, 60), (some 16, 0)], []), (1, [(none, 1), (none, 0)], []), (3, [(none, 2), (some 15, 0)], []), (3, [(some 15, 0), (none, 0)], []), (1, [(none, 1), (none, 0)], []), (3, [(none, 3), (some 14, 0)], []), (3, [(some 14, 0), (none, 0)], [])], (125, [(some 16, 0), (some 14, 0), (some 15, 0), (some 16, 0), (some 13, 0), (some 13, 0)], [45, 46, 41, 42, 43, 44, 59, 58, 41, 42, 60, 44]))
set_option maxRecDepth 20000 in
theorem v_xo_sheet_0_6 {PT : PTy} (hp : HP8 PT) : vcOk PT w_xo_sheet_0_6 := vc_iv [(13, 0, 5), (14, 2, 2), (15, 0, 2), (16, 0, 60)] [41, 42, 43, 44, 45, 46, 58, 59, 60] (by decide +kernel) (fun ρ α => by
  intro r13 g13 b13 r14 g14 b14 r15 g15 b15 r16 g16 b16 a41 h41 a42 h42 a43 h43 a44 h44 a45 h45 a46 h46 a58 h58 a59 h59 a60 h60 f0 f1 f2 f3 f4 f5 f6 f7 f8 f9 f10 f11 tt
  have e125 : PT 125 = P_shX := pe125_8 hp
  have e128 : PT 128 = P_fl60 := pe128_8 hp
  simp only [hF0, hF1, hF3, hF21, hFp_125, hFp_128, e125, e128, P_shX, P_fl60, den_s, den_c, Int.add_zero, List.map_cons, List.map_nil, g13.eq, g14.eq, g15.eq, g16.eq, h41, h42, h43, h44, h45, h46, h58, h59, h60] at f0 f1 f2 f3 f4 f5 f6 f7 f8 f9 f10 f11 ⊢
  clear g13 g14 g15 g16 h41 h42 h43 h44 h45 h46 h58 h59 h60 e125 e128 tt
  subst f2
  subst f3
  ((repeat' (first | apply And.intro | intro h)) <;> first | omega | rfl | trivial | (exfalso; omega) | (congr 1; omega) | exact f0 _ (by assumption) (by assumption)))
def w_xo_sheet_0_7 : VC := ((bT ++ [(3, 3), (0, 2), (0, 60)]), [(128, [(none, 60)], [60]), (0, [(some 14, 0), (none, 3)], []), (21, [(some 14, 0), (some 16, 0)], [59, 45]), (21, [(some 14, 0), (some 15, 0)], [58, 46]), (3, [(some 16, 0), (none, 0)], []), (3, [(none, 60), (some 16, 0)], []), (1, [(none, 1), (none, 0)], []), (3, [(none, 2), (some 15, 0)], []), (3, [(some 15, 0), (none, 0)], []), (1, [(none, 1), (none, 0)], []), (3, [(none, 3), (some 14, 0)], []), (3, [(some 14, 0), (none, 0)], [])], (125, [(some 16, 0), (some 14, 0), (some 15, 0), (some 16, 0), (some 13, 0), (some 13, 0)], [45, 46, 41, 42, 43, 44, 59, 58, 41, 42, 43, 60]))
set_option maxRecDepth 20000 in
theorem v_xo_sheet_0_7 {PT : PTy} (hp : HP8 PT) : vcOk PT w_xo_sheet_0_7 := vc_iv [(13, 0, 5), (14, 3, 3), (15, 0, 2), (16, 0, 60)] [41, 42, 43, 44, 45, 46, 58, 59, 60] (by decide +kernel) (fun ρ α => by
  intro r13 g13 b13 r14 g14 b14 r15 g15 b15 r16 g16 b16 a41 h41 a42 h42 a43 h43 a44 h44 a45 h45 a46 h46 a58 h58 a59 h59 a60 h60 f0 f1 f2 f3 f4 f5 f6 f7 f8 f9 f10 f11 tt
  have e125 : PT 125 = P_shX := pe125_8 hp
  have e128 : PT 128 = P_fl60 := pe128_8 hp
  simp only [hF0, hF1, hF3, hF21, hFp_125, hFp_128, e125, e128, P_shX, P_fl60, den_s, den_c, Int.add_zero, List.map_cons, List.map_nil, g13.eq, g14.eq, g15.eq, g16.eq, h41, h42, h43, h44, h45, h46, h58, h59, h60] at f0 f1 f2 f3 f4 f5 f6 f7 f8 f9 f10 f11 ⊢
  clear g13 g14 g15 g16 h41 h42 h43 h44 h45 h46 h58 h59 h60 e125 e128 tt
  subst f2
  subst f3
  ((repeat' (first | apply And.intro | intro h)) <;> first | omega | rfl | trivial | (exfalso; omega) | (congr 1; omega) | exact f0 _ (by assumption) (by assumption)))
def w_xo_sheet_0_8 : VC := ((bT ++ [(0, 3), (0, 2), ((-2147483648), (-1))]), [(2, [(some 16, 0), (none, 0)], []), (3, [(none, 60), (some 16, 0)], []), (1, [(none, 1), (none, 0)], []), (3, [(none, 2), (some 15, 0)], []), (3, [(some 15, 0), (none, 0)], []), (1, [(none, 1), (none, 0)], []), (3, [(none, 3), (some 14, 0)], []), (3, [(some 14, 0), (none, 0)], [])], (125, [(none, (-15)), (some 14, 0), (some 15, 0), (some 16, 0), (some 13, 0), (none, 5)], [45, 46, 41, 42, 43, 44, 45, 46, 41, 42, 43, 44]))
set_option maxRecDepth 20000 in
theorem v_xo_sheet_0_8 {PT : PTy} (hp : HP8 PT) : vcOk PT w_xo_sheet_0_8 := vc_iv [(13, 0, 5), (14, 0, 3), (15, 0, 2), (16, (-2147483648), (-1))] [41, 42, 43, 44, 45, 46] (by decide +kernel) (fun ρ α => by
  intro r13 g13 b13 r14 g14 b14 r15 g15 b15 r16 g16 b16 a41 h41 a42 h42 a43 h43 a44 h44 a45 h45 a46 h46 f0 f1 f2 f3 f4 f5 f6 f7 tt
  have e125 : PT 125 = P_shX := pe125_8 hp
  simp only [hF1, hF2, hF3, hFp_125, e125, P_shX, den_s, den_c, Int.add_zero, List.map_cons, List.map_nil, g13.eq, g14.eq, g15.eq, g16.eq, h41, h42, h43, h44, h45, h46] at f0 f1 f2 f3 f4 f5 f6 f7 ⊢
  clear g13 g14 g15 g16 h41 h42 h43 h44 h45 h46 e125 tt
  ((repeat' (first | apply And.intro | intro h)) <;> first | omega | rfl | trivial | (exfalso; omega) | (congr 1; omega) | exact MISSING _ (by assumption) (by assumption)))
def w_xo_sheet_0_9 : VC := ((bT ++ [(0, 3), (0, 2), (61, 2147483647)]), [(2, [(none, 60), (some 16, 0)], []), (1, [(none, 1), (none, 0)], []), (3, [(none, 2), (some 15, 0)], []), (3, [(some 15, 0), (none, 0)], []), (1, [(none, 1), (none, 0)], []), (3, [(none, 3), (some 14, 0)], []), (3, [(some 14, 0), (none, 0)], [])], (125, [(none, (-2)), (some 14, 0), (some 15, 0), (some 16, 0), (some 13, 0), (some 13, 0)], [45, 46, 41, 42, 43, 44, 45, 46, 41, 42, 43, 44]))
set_option maxRecDepth 20000 in
theorem v_xo_sheet_0_9 {PT : PTy} (hp : HP8 PT) : vcOk PT w_xo_sheet_0_9 := vc_iv [(13, 0, 5), (14, 0, 3), (15, 0, 2), (16, 61, 2147483647)] [41, 42, 43, 44, 45, 46] (by decide +kernel) (fun ρ α => by
  intro r13 g13 b13 r14 g14 b14 r15 g15 b15 r16 g16 b16 a41 h41 a42 h42 a43 h43 a44 h44 a45 h45 a46 h46 f0 f1 f2 f3 f4 f5 f6 tt
  have e125 : PT 125 = P_shX := pe125_8 hp
  simp only [hF1, hF2, hF3, hFp_125, e125, P_shX, den_s, den_c, Int.add_zero, List.map_cons, List.map_nil, g13.eq, g14.eq, g15.eq, g16.eq, h41, h42, h43, h44, h45, h46] at f0 f1 f2 f3 f4 f5 f6 ⊢
  clear g13 g14 g15 g16 h41 h42 h43 h44 h45 h46 e125 tt
  ((repeat' (first | apply And.intro | intro h)) <;> first | omega | rfl | trivial | (exfalso; omega) | (congr 1; omega) | exact MISSING _ (by assumption) (by assumption)))
set_option maxRecDepth 1000000 in
theorem k_xo_sheet {PT : PTy} (hp : HP8 PT) : wfX c_xo_sheet = true ∧ xcOk PT c_xo_sheet := xctr (xl (k_fill41 hp) (xl (k_fill42 hp) (xl (k_fill43 hp) (xl (k_fill44 hp) (xl0))))) c_xo_sheet 80 mX6_sheet rfl h_xo_sheet (by decide +kernel) (by decide +kernel) (by decide) (vcs_by [w_xo_sheet_0_0, w_xo_sheet_0_1, w_xo_sheet_0_2, w_xo_sheet_0_3, w_xo_sheet_0_4, w_xo_sheet_0_5, w_xo_sheet_0_6, w_xo_sheet_0_7, w_xo_sheet_0_8, w_xo_sheet_0_9] (by decide +kernel) (vc (v_xo_sheet_0_0 hp) (vc (v_xo_sheet_0_1 hp) (vc (v_xo_sheet_0_2 hp) (vc (v_xo_sheet_0_3 hp) (vc (v_xo_sheet_0_4 hp) (vc (v_xo_sheet_0_5 hp) (vc (v_xo_sheet_0_6 hp) (vc (v_xo_sheet_0_7 hp) (vc (v_xo_sheet_0_8 hp) (vc (v_xo_sheet_0_9 hp) vn))))))))))) fmn
def c_yo_sheet : XC := (186, 2, (bY ++ [((-2147483648), 2147483647), ((-2147483648), 2147483647), ((-2147483648), 2147483647)]), [.inr (.inl 0), .inl (some 13, 0), .inl (some 14, 0), .inl (some 15, 0)], gY2, [], [((bY ++ [((-2147483648), 2147483647), ((-2147483648), 2147483647), ((-2147483648), 2147483647), ((-15), 60), (0, 5)]), some (.inl (some 16, 0)), (hst gY2 [(0, .inr (.inr (.inr (7, [.inr (.inl 1), .inr (.inl 2), .inl (some 2, 0), .inr (.inl 3), .inr (.inl 4), .inl (some 3, 0), .inr (.inl 5), .inr (.inl 6), .inr (.inl 7), .inr (.inl 8), .inl (some 4, 0), .inr (.inl 9), .inr (.inl 10), .inl (some 5, 0), .inr (.inl 11), .inr (.inl 12), .inr (.inl 13), .inl (some 6, 0), .inr (.inl 14), .inr (.inl 15), .inr (.inl 16), .inl (some 8, 0), .inl (some 9, 0), .inr (.inl 17), .inr (.inl 18), .inl (some 10, 0), .inl (some 11, 0), .inr (.inl 19), .inr (.inl 20), .inr (.inl 21), .inr (.inl 22), .inr (.inl 23), .inr (.inl 24), .inr (.inl 25), .inl (some 7, 0), .inr (.inl 26), .inr (.inl 27), .inr (.inl 28), .inr (.inl 29), .inr (.inl 30), .inr (.inl 31), .inr (.inl 32), .inr (.inl 33), .inr (.inl 34), .inl (some 17, 0)]))))]), (ansT 35 [(30, 35), (31, 36), (32, 37), (33, 38)]), 39, [(126, [(some 16, 0), (some 13, 0), (some 14, 0), (some 15, 0), (some 12, 0), (some 17, 0)], [30, 31, 32, 33, 35, 36, 37, 38])])])
def h_yo_sheet : List XH := [(59, (bY ++ [(0, 3), (0, 2), (0, 60), (0, 60)]), [some (.inr (.inl 0)), some (.inl (some 13, 0)), some (.inl (some 14, 0)), some (.inl (some 15, 0)), some (.inl (some 16, 0))], gY2, (ansT 35 [(30, 35), (31, 36), (32, 37), (33, 38)]), 39, [(127, [(some 16, 0), (some 13, 0)], [33, 38]), (21, [(some 13, 0), (none, 1)], [35, 30]), (21, [(some 13, 0), (some 14, 0)], [36, 31]), (21, [(some 13, 0), (some 15, 0)], [37, 32]), (3, [(none, 60), (some 16, 0)], [])], [(true, (none, 1)), (true, (some 16, 0))])]
def w_yo_sheet_0_0 : VC := ((bY ++ [((-2147483648), (-1)), ((-2147483648), 2147483647), ((-2147483648), 2147483647)]), [(0, [(none, 0), (none, 0)], []), (2, [(some 13, 0), (none, 0)], [])], (126, [(none, (-2)), (some 13, 0), (some 14, 0), (some 15, 0), (some 12, 0), (some 12, 0)], [30, 31, 32, 33, 30, 31, 32, 33]))
theorem pe126_8 {PT : PTy} (hp : HP8 PT) : PT 126 = P_shY := hp.2.2.1
set_option maxRecDepth 20000 in
theorem v_yo_sheet_0_0 {PT : PTy} (hp : HP8 PT) : vcOk PT w_yo_sheet_0_0 := vc_iv [(12, 0, 5), (13, (-2147483648), (-1)), (14, (-2147483648), 2147483647), (15, (-2147483648), 2147483647)] [30, 31, 32, 33] (by decide +kernel) (fun ρ α => by
  intro r12 g12 b12 r13 g13 b13 r14 g14 b14 r15 g15 b15 a30 h30 a31 h31 a32 h32 a33 h33 f0 f1 tt
  clear f0 f1
  have e126 : PT 126 = P_shY := pe126_8 hp
  simp only [hFp_126, e126, P_shY, den_s, den_c, Int.add_zero, List.map_cons, List.map_nil, g12.eq, g13.eq, g14.eq, g15.eq, h30, h31, h32, h33] at ⊢
  first
    | rfl
    | ((repeat' (first | apply And.intro | intro h)) <;> first | omega | rfl | trivial | (exfalso; omega) | (congr 1; omega) | (congr 1; (repeat' split) <;> first | rfl | (exfalso; omega))))
def w_yo_sheet_0_1 : VC := ((bY ++ [(4, 2147483647), ((-2147483648), 2147483647), ((-2147483648), 2147483647)]), [(0, [(none, 0), (none, 0)], []), (2, [(none, 3), (some 13, 0)], []), (3, [(some 13, 0), (none, 0)], [])], (126, [(none, (-2)), (some 13, 0), (some 14, 0), (some 15, 0), (some 12, 0), (some 12, 0)], [30, 31, 32, 33, 30, 31, 32, 33]))
set_option maxRecDepth 20000 in
theorem v_yo_sheet_0_1 {PT : PTy} (hp : HP8 PT) : vcOk PT w_yo_sheet_0_1 := vc_iv [(12, 0, 5), (13, 4, 2147483647), (14, (-2147483648), 2147483647), (15, (-2147483648), 2147483647)] [30, 31, 32, 33] (by decide +kernel) (fun ρ α => by
  intro r12 g12 b12 r13 g13 b13 r14 g14 b14 r15 g15 b15 a30 h30 a31 h31 a32 h32 a33 h33 f0 f1 f2 tt
  clear f0 f1 f2
  have e126 : PT 126 = P_shY := pe126_8 hp
  simp only [hFp_126, e126, P_shY, den_s, den_c, Int.add_zero, List.map_cons, List.map_nil, g12.eq, g13.eq, g14.eq, g15.eq, h30, h31, h32, h33] at ⊢
  first
    | rfl
    | ((repeat' (first | apply And.intro | intro h)) <;> first | omega | rfl | trivial | (exfalso; omega) | (congr 1; omega) | (congr 1; (repeat' split) <;> first | rfl | (exfalso; omega))))
def w_yo_sheet_0_2 : VC := ((bY ++ [(0, 3), ((-2147483648), (-1)), ((-2147483648), 2147483647)]), [(0, [(none, 0), (none, 0)], []), (2, [(some 14, 0), (none, 0)], []), (1, [(none, 1), (none, 0)], []), (3, [(none, 3), (some 13, 0)], []), (3, [(some 13, 0), (none, 0)], [])], (126, [(none, (-2)), (some 13, 0), (some 14, 0), (some 15, 0), (some 12, 0), (some 12, 0)], [30, 31, 32, 33, 30, 31, 32, 33]))
set_option maxRecDepth 20000 in
theorem v_yo_sheet_0_2 {PT : PTy} (hp : HP8 PT) : vcOk PT w_yo_sheet_0_2 := vc_iv [(12, 0, 5), (13, 0, 3), (14, (-2147483648), (-1)), (15, (-2147483648), 2147483647)] [30, 31, 32, 33] (by decide +kernel) (fun ρ α => by
  intro r12 g12 b12 r13 g13 b13 r14 g14 b14 r15 g15 b15 a30 h30 a31 h31 a32 h32 a33 h33 f0 f1 f2 f3 f4 tt
  clear f0 f1 f2 f3 f4
  have e126 : PT 126 = P_shY := pe126_8 hp
  simp only [hFp_126, e126, P_shY, den_s, den_c, Int.add_zero, List.map_cons, List.map_nil, g12.eq, g13.eq, g14.eq, g15.eq, h30, h31, h32, h33] at ⊢
  first
    | rfl
    | ((repeat' (first | apply And.intro | intro h)) <;> first | omega | rfl | trivial | (exfalso; omega) | (congr 1; omega) | (congr 1; (repeat' split) <;> first | rfl | (exfalso; omega))))
def w_yo_sheet_0_3 : VC := ((bY ++ [(0, 3), (3, 2147483647), ((-2147483648), 2147483647)]), [(0, [(none, 0), (none, 0)], []), (2, [(none, 2), (some 14, 0)], []), (3, [(some 14, 0), (none, 0)], []), (1, [(none, 1), (none, 0)], []), (3, [(none, 3), (some 13, 0)], []), (3, [(some 13, 0), (none, 0)], [])], (126, [(none, (-2)), (some 13, 0), (some 14, 0), (some 15, 0), (some 12, 0), (some 12, 0)], [30, 31, 32, 33, 30, 31, 32, 33]))
set_option maxRecDepth 20000 in
theorem v_yo_sheet_0_3 {PT : PTy} (hp : HP8 PT) : vcOk PT w_yo_sheet_0_3 := vc_iv [(12, 0, 5), (13, 0, 3), (14, 3, 2147483647), (15, (-2147483648), 2147483647)] [30, 31, 32, 33] (by decide +kernel) (fun ρ α => by
  intro r12 g12 b12 r13 g13 b13 r14 g14 b14 r15 g15 b15 a30 h30 a31 h31 a32 h32 a33 h33 f0 f1 f2 f3 f4 f5 tt
  clear f0 f1 f2 f3 f4 f5
  have e126 : PT 126 = P_shY := pe126_8 hp
  simp only [hFp_126, e126, P_shY, den_s, den_c, Int.add_zero, List.map_cons, List.map_nil, g12.eq, g13.eq, g14.eq, g15.eq, h30, h31, h32, h33] at ⊢
  first
    | rfl
    | ((repeat' (first | apply And.intro | intro h)) <;> first | omega | rfl | trivial | (exfalso; omega) | (congr 1; omega) | (congr 1; (repeat' split) <;> first | rfl | (exfalso; omega))))
def w_yo_sheet_0_4 : VC := ((bY ++ [(0, 3), (0, 2), (0, 60)]), [(21, [(some 13, 0), (some 15, 0)], [37, 32]), (21, [(some 13, 0), (some 14, 0)], [36, 31]), (21, [(some 13, 0), (none, 1)], [35, 30]), (3, [(some 15, 0), (none, 0)], []), (3, [(none, 60), (some 15, 0)], []), (1, [(none, 1), (none, 0)], []), (3, [(none, 2), (some 14, 0)], []), (3, [(some 14, 0), (none, 0)], []), (1, [(none, 1), (none, 0)], []), (3, [(none, 3), (some 13, 0)], []), (3, [(some 13, 0), (none, 0)], [])], (127, [(none, 0), (some 13, 0)], [33, 33]))
theorem pe127_8 {PT : PTy} (hp : HP8 PT) : PT 127 = P_shI := hp.2.2.2.1
set_option maxRecDepth 20000 in
theorem v_yo_sheet_0_4 {PT : PTy} (hp : HP8 PT) : vcOk PT w_yo_sheet_0_4 := vc_iv [(13, 0, 3), (14, 0, 2), (15, 0, 60)] [30, 31, 32, 33, 35, 36, 37] (by decide +kernel) (fun ρ α => by
  intro r13 g13 b13 r14 g14 b14 r15 g15 b15 a30 h30 a31 h31 a32 h32 a33 h33 a35 h35 a36 h36 a37 h37 f0 f1 f2 f3 f4 f5 f6 f7 f8 f9 f10 tt
  clear f3 f4 f5 f6 f7 f8 f9 f10
  have e127 : PT 127 = P_shI := pe127_8 hp
  simp only [hF21, hFp_127, e127, P_shI, den_s, den_c, Int.add_zero, List.map_cons, List.map_nil, g13.eq, g14.eq, g15.eq, h30, h31, h32, h33, h35, h36, h37] at f0 f1 f2 ⊢
  subst f0
  subst f1
  subst f2
  first
    | rfl
    | ((repeat' (first | apply And.intro | intro h)) <;> first | omega | rfl | trivial | (exfalso; omega) | (congr 1; omega) | (congr 1; (repeat' split) <;> first | rfl | (exfalso; omega))))
def w_yo_sheet_0_5 : VC := ((bY ++ [(0, 3), (0, 2), (0, 60)]), [(21, [(some 13, 0), (some 15, 0)], [37, 32]), (21, [(some 13, 0), (some 14, 0)], [36, 31]), (21, [(some 13, 0), (none, 1)], [35, 30]), (3, [(some 15, 0), (none, 0)], []), (3, [(none, 60), (some 15, 0)], []), (1, [(none, 1), (none, 0)], []), (3, [(none, 2), (some 14, 0)], []), (3, [(some 14, 0), (none, 0)], []), (1, [(none, 1), (none, 0)], []), (3, [(none, 3), (some 13, 0)], []), (3, [(some 13, 0), (none, 0)], [])], (3, [(none, 60), (none, 0)], []))
theorem v_yo_sheet_0_5 {PT : PTy} (_ : HP8 PT) : vcOk PT w_yo_sheet_0_5 := vc_of (fun ρ α _ _ => by simp only [hF3, den_c] <;> omega)
def w_yo_sheet_0_6 : VC := ((bY ++ [(0, 3), (0, 2), ((-2147483648), (-1))]), [(2, [(some 15, 0), (none, 0)], []), (3, [(none, 60), (some 15, 0)], []), (1, [(none, 1), (none, 0)], []), (3, [(none, 2), (some 14, 0)], []), (3, [(some 14, 0), (none, 0)], []), (1, [(none, 1), (none, 0)], []), (3, [(none, 3), (some 13, 0)], []), (3, [(some 13, 0), (none, 0)], [])], (126, [(none, (-15)), (some 13, 0), (some 14, 0), (some 15, 0), (some 12, 0), (none, 5)], [30, 31, 32, 33, 30, 31, 32, 33]))
set_option maxRecDepth 20000 in
theorem v_yo_sheet_0_6 {PT : PTy} (hp : HP8 PT) : vcOk PT w_yo_sheet_0_6 := vc_iv [(12, 0, 5), (13, 0, 3), (14, 0, 2), (15, (-2147483648), (-1))] [30, 31, 32, 33] (by decide +kernel) (fun ρ α => by
  intro r12 g12 b12 r13 g13 b13 r14 g14 b14 r15 g15 b15 a30 h30 a31 h31 a32 h32 a33 h33 f0 f1 f2 f3 f4 f5 f6 f7 tt
  clear f0 f1 f2 f3 f4 f5 f6 f7
  have e126 : PT 126 = P_shY := pe126_8 hp
  simp only [hFp_126, e126, P_shY, den_s, den_c, Int.add_zero, List.map_cons, List.map_nil, g12.eq, g13.eq, g14.eq, g15.eq, h30, h31, h32, h33] at ⊢
  first
    | rfl
    | ((repeat' (first | apply And.intro | intro h)) <;> first | omega | rfl | trivial | (exfalso; omega) | (congr 1; omega) | (congr 1; (repeat' split) <;> first | rfl | (exfalso; omega))))
def w_yo_sheet_0_7 : VC := ((bY ++ [(0, 3), (0, 2), (61, 2147483647)]), [(2, [(none, 60), (some 15, 0)], []), (1, [(none, 1), (none, 0)], []), (3, [(none, 2), (some 14, 0)], []), (3, [(some 14, 0), (none, 0)], []), (1, [(none, 1), (none, 0)], []), (3, [(none, 3), (some 13, 0)], []), (3, [(some 13, 0), (none, 0)], [])], (126, [(none, (-2)), (some 13, 0), (some 14, 0), (some 15, 0), (some 12, 0), (some 12, 0)], [30, 31, 32, 33, 30, 31, 32, 33]))
set_option maxRecDepth 20000 in
theorem v_yo_sheet_0_7 {PT : PTy} (hp : HP8 PT) : vcOk PT w_yo_sheet_0_7 := vc_iv [(12, 0, 5), (13, 0, 3), (14, 0, 2), (15, 61, 2147483647)] [30, 31, 32, 33] (by decide +kernel) (fun ρ α => by
  intro r12 g12 b12 r13 g13 b13 r14 g14 b14 r15 g15 b15 a30 h30 a31 h31 a32 h32 a33 h33 f0 f1 f2 f3 f4 f5 f6 tt
  clear f0 f1 f2 f3 f4 f5 f6
  have e126 : PT 126 = P_shY := pe126_8 hp
  simp only [hFp_126, e126, P_shY, den_s, den_c, Int.add_zero, List.map_cons, List.map_nil, g12.eq, g13.eq, g14.eq, g15.eq, h30, h31, h32, h33] at ⊢
  first
    | rfl
    | ((repeat' (first | apply And.intro | intro h)) <;> first | omega | rfl | trivial | (exfalso; omega) | (congr 1; omega) | (congr 1; (repeat' split) <;> first | rfl | (exfalso; omega))))
def w_yo_sheet_1_0 : VC := ((bY ++ [(0, 3), (0, 2), (0, 60), (60, 60)]), [(3, [(some 16, 0), (none, 60)], []), (127, [(some 16, 0), (some 13, 0)], [33, 38]), (21, [(some 13, 0), (none, 1)], [35, 30]), (21, [(some 13, 0), (some 14, 0)], [36, 31]), (21, [(some 13, 0), (some 15, 0)], [37, 32]), (3, [(none, 60), (some 16, 0)], [])], (126, [(some 15, 0), (some 13, 0), (some 14, 0), (some 15, 0), (some 12, 0), (some 12, 0)], [30, 31, 32, 33, 35, 36, 37, 38]))
set_option maxRecDepth 20000 in
theorem v_yo_sheet_1_0 {PT : PTy} (hp : HP8 PT) : vcOk PT w_yo_sheet_1_0 := vc_iv [(12, 0, 5), (13, 0, 3), (14, 0, 2), (15, 0, 60), (16, 60, 60)] [30, 31, 32, 33, 35, 36, 37, 38] (by decide +kernel) (fun ρ α => by
  intro r12 g12 b12 r13 g13 b13 r14 g14 b14 r15 g15 b15 r16 g16 b16 a30 h30 a31 h31 a32 h32 a33 h33 a35 h35 a36 h36 a37 h37 a38 h38 f0 f1 f2 f3 f4 f5 tt
  clear f0 f5
  have e126 : PT 126 = P_shY := pe126_8 hp
  have e127 : PT 127 = P_shI := pe127_8 hp
  simp only [hF21, hFp_126, hFp_127, e126, e127, P_shY, P_shI, den_s, den_c, Int.add_zero, List.map_cons, List.map_nil, g12.eq, g13.eq, g14.eq, g15.eq, g16.eq, h30, h31, h32, h33, h35, h36, h37, h38] at f1 f2 f3 f4 ⊢
  subst f2
  subst f3
  subst f4
  first
    | omega
    | (rw [upF_s (by omega), ← f1])
    | (have e := f1; rw [show r16 = 60 by omega] at e; ((repeat' (first | apply And.intro | intro h)) <;> first | omega | exact e | rfl | trivial | (exfalso; omega))))
def w_yo_sheet_1_1 : VC := ((bY ++ [(0, 3), (0, 2), (0, 60), (0, 59), (0, 180), (0, 239)]), [(21, [(some 18, 0), (none, 0)], [39, 38]), (4, [(some 18, 0), (some 17, 0), (some 16, 0)], []), (6, [(some 17, 0), (none, 60), (some 13, 0)], []), (2, [(some 16, 0), (none, 60)], []), (127, [(some 16, 0), (some 13, 0)], [33, 38]), (21, [(some 13, 0), (none, 1)], [35, 30]), (21, [(some 13, 0), (some 14, 0)], [36, 31]), (21, [(some 13, 0), (some 15, 0)], [37, 32]), (3, [(none, 60), (some 16, 0)], [])], (127, [(some 16, 1), (some 13, 0)], [33, 39]))
set_option maxRecDepth 20000 in
theorem v_yo_sheet_1_1 {PT : PTy} (hp : HP8 PT) : vcOk PT w_yo_sheet_1_1 := vc_iv [(13, 0, 3), (14, 0, 2), (15, 0, 60), (16, 0, 59), (17, 0, 180), (18, 0, 239)] [30, 31, 32, 33, 35, 36, 37, 38, 39] (by decide +kernel) (fun ρ α => by
  intro r13 g13 b13 r14 g14 b14 r15 g15 b15 r16 g16 b16 r17 g17 b17 r18 g18 b18 a30 h30 a31 h31 a32 h32 a33 h33 a35 h35 a36 h36 a37 h37 a38 h38 a39 h39 f0 f1 f2 f3 f4 f5 f6 f7 f8 tt
  clear f3 f8
  have e127 : PT 127 = P_shI := pe127_8 hp
  simp only [hF4, hF6, hF21, hFp_127, e127, P_shI, den_s, den_c, Int.add_zero, List.map_cons, List.map_nil, g13.eq, g14.eq, g15.eq, g16.eq, g17.eq, g18.eq, h30, h31, h32, h33, h35, h36, h37, h38, h39] at f0 f1 f2 f4 f5 f6 f7 ⊢
  subst f0
  subst f1
  subst f2
  subst f5
  subst f6
  subst f7
  first
    | omega
    | (rw [upF_s (by omega), ← f4])
    | (have e := f4; rw [show r16 = 60 by omega] at e; ((repeat' (first | apply And.intro | intro h)) <;> first | omega | exact e | rfl | trivial | (exfalso; omega))))
def w_yo_sheet_1_2 : VC := ((bY ++ [(0, 3), (0, 2), (0, 60), (0, 59), (0, 180), (0, 239)]), [(21, [(some 18, 0), (none, 0)], [39, 38]), (4, [(some 18, 0), (some 17, 0), (some 16, 0)], []), (6, [(some 17, 0), (none, 60), (some 13, 0)], []), (2, [(some 16, 0), (none, 60)], []), (127, [(some 16, 0), (some 13, 0)], [33, 38]), (21, [(some 13, 0), (none, 1)], [35, 30]), (21, [(some 13, 0), (some 14, 0)], [36, 31]), (21, [(some 13, 0), (some 15, 0)], [37, 32]), (3, [(none, 60), (some 16, 0)], [])], (3, [(none, 60), (some 16, 1)], []))
set_option maxRecDepth 20000 in
theorem v_yo_sheet_1_2 {PT : PTy} (hp : HP8 PT) : vcOk PT w_yo_sheet_1_2 := vc_iv [(13, 0, 3), (14, 0, 2), (15, 0, 60), (16, 0, 59), (17, 0, 180), (18, 0, 239)] [30, 31, 32, 33, 35, 36, 37, 38, 39] (by decide +kernel) (fun ρ α => by
  intro r13 g13 b13 r14 g14 b14 r15 g15 b15 r16 g16 b16 r17 g17 b17 r18 g18 b18 a30 h30 a31 h31 a32 h32 a33 h33 a35 h35 a36 h36 a37 h37 a38 h38 a39 h39 f0 f1 f2 f3 f4 f5 f6 f7 f8 tt
  clear f3 f8
  have e127 : PT 127 = P_shI := pe127_8 hp
  simp only [hF3, hF4, hF6, hF21, hFp_127, e127, P_shI, den_s, den_c, Int.add_zero, List.map_cons, List.map_nil, g13.eq, g14.eq, g15.eq, g16.eq, g17.eq, g18.eq, h30, h31, h32, h33, h35, h36, h37, h38, h39] at f0 f1 f2 f4 f5 f6 f7 ⊢
  subst f0
  subst f1
  subst f2
  subst f5
  subst f6
  subst f7
  first
    | omega
    | (rw [upF_s (by omega), ← f4])
    | (have e := f4; rw [show r16 = 60 by omega] at e; ((repeat' (first | apply And.intro | intro h)) <;> first | omega | exact e | rfl | trivial | (exfalso; omega))))
set_option maxRecDepth 1000000 in
theorem k_yo_sheet {PT : PTy} (hp : HP8 PT) : wfX c_yo_sheet = true ∧ xcOk PT c_yo_sheet := xctr (xl0) c_yo_sheet 74 mX7_sheet rfl h_yo_sheet (by decide +kernel) (by decide +kernel) (by decide) (vcs_by [w_yo_sheet_0_0, w_yo_sheet_0_1, w_yo_sheet_0_2, w_yo_sheet_0_3, w_yo_sheet_0_4, w_yo_sheet_0_5, w_yo_sheet_0_6, w_yo_sheet_0_7] (by decide +kernel) (vc (v_yo_sheet_0_0 hp) (vc (v_yo_sheet_0_1 hp) (vc (v_yo_sheet_0_2 hp) (vc (v_yo_sheet_0_3 hp) (vc (v_yo_sheet_0_4 hp) (vc (v_yo_sheet_0_5 hp) (vc (v_yo_sheet_0_6 hp) (vc (v_yo_sheet_0_7 hp) vn))))))))) (fmc (vcs_by [w_yo_sheet_1_0, w_yo_sheet_1_1, w_yo_sheet_1_2] (by decide +kernel) (vc (v_yo_sheet_1_0 hp) (vc (v_yo_sheet_1_1 hp) (vc (v_yo_sheet_1_2 hp) vn)))) fmn)
def c_xo_lose : XC := (73, 2, (bT ++ [((-2147483648), 2147483647)]), [.inr (.inl 0), .inl (some 14, 0)], (gX 999), [], [((bT ++ [((-2147483648), 2147483647), ((-11), 60), (0, 5)]), some (.inl (some 15, 0)), (hst (gX 999) [(0, .inr (.inr (.inr (6, [.inr (.inl 1), .inr (.inl 3), .inr (.inl 5), .inr (.inl 6), .inr (.inl 9), .inr (.inl 14), .inr (.inl 18), .inr (.inl 22), .inr (.inl 31), .inr (.inl 35), .inr (.inl 39), .inr (.inl 47), .inl (some 16, 0)]))))]), (ansT 58 [(46, 58)]), 59, [(129, [(some 15, 0), (some 14, 0), (some 13, 0), (some 16, 0)], [45, 46, 58])])])
def h_xo_lose : List XH := []
def w_xo_lose_0_0 : VC := ((bT ++ [((-2147483648), (-1))]), [(0, [(none, 0), (none, 0)], []), (2, [(some 14, 0), (none, 0)], [])], (129, [(none, (-2)), (some 14, 0), (some 13, 0), (some 13, 0)], [45, 46, 46]))
theorem pe129_8 {PT : PTy} (hp : HP8 PT) : PT 129 = P_loX := hp.2.2.2.2.2.1
set_option maxRecDepth 20000 in
theorem v_xo_lose_0_0 {PT : PTy} (hp : HP8 PT) : vcOk PT w_xo_lose_0_0 := vc_iv [(13, 0, 5), (14, (-2147483648), (-1))] [45, 46] (by decide +kernel) (fun ρ α => by
  intro r13 g13 b13 r14 g14 b14 a45 h45 a46 h46 f0 f1 tt
  clear f0 f1
  have e129 : PT 129 = P_loX := pe129_8 hp
  simp only [hFp_129, e129, P_loX, den_s, den_c, Int.add_zero, List.map_cons, List.map_nil, g13.eq, g14.eq, h45, h46] at ⊢
  ((repeat' (first | apply And.intro | intro h)) <;> first | omega | rfl | trivial | (exfalso; omega) | (congr 1; omega) | (congr 1; (repeat' split) <;> first | rfl | (exfalso; omega))))
def w_xo_lose_0_1 : VC := ((bT ++ [(4, 2147483647)]), [(0, [(none, 0), (none, 0)], []), (2, [(none, 3), (some 14, 0)], []), (3, [(some 14, 0), (none, 0)], [])], (129, [(none, (-2)), (some 14, 0), (some 13, 0), (some 13, 0)], [45, 46, 46]))
set_option maxRecDepth 20000 in
theorem v_xo_lose_0_1 {PT : PTy} (hp : HP8 PT) : vcOk PT w_xo_lose_0_1 := vc_iv [(13, 0, 5), (14, 4, 2147483647)] [45, 46] (by decide +kernel) (fun ρ α => by
  intro r13 g13 b13 r14 g14 b14 a45 h45 a46 h46 f0 f1 f2 tt
  clear f0 f1 f2
  have e129 : PT 129 = P_loX := pe129_8 hp
  simp only [hFp_129, e129, P_loX, den_s, den_c, Int.add_zero, List.map_cons, List.map_nil, g13.eq, g14.eq, h45, h46] at ⊢
  ((repeat' (first | apply And.intro | intro h)) <;> first | omega | rfl | trivial | (exfalso; omega) | (congr 1; omega) | (congr 1; (repeat' split) <;> first | rfl | (exfalso; omega))))
def w_xo_lose_0_2 : VC := ((bT ++ [(0, 3), (0, 2), (0, 60)]), [(20, [(some 16, 0), (some 14, 0)], [45]), (21, [(some 14, 0), (none, (-1))], [58, 46]), (0, [(none, 0), (none, 0)], []), (1, [(some 15, 0), (none, (-1))], []), (20, [(some 15, 0), (some 14, 0)], [46]), (1, [(none, 1), (none, 0)], []), (3, [(none, 3), (some 14, 0)], []), (3, [(some 14, 0), (none, 0)], [])], (129, [(some 16, 0), (some 14, 0), (some 13, 0), (some 13, 0)], [45, 46, 58]))
set_option maxRecDepth 20000 in
theorem v_xo_lose_0_2 {PT : PTy} (hp : HP8 PT) : vcOk PT w_xo_lose_0_2 := vc_iv [(13, 0, 5), (14, 0, 3), (15, 0, 2), (16, 0, 60)] [45, 46, 58] (by decide +kernel) (fun ρ α => by
  intro r13 g13 b13 r14 g14 b14 r15 g15 b15 r16 g16 b16 a45 h45 a46 h46 a58 h58 f0 f1 f2 f3 f4 f5 f6 f7 tt
  clear f2 f3 f5 f6 f7
  have e129 : PT 129 = P_loX := pe129_8 hp
  simp only [hF20, hF21, hFp_129, e129, P_loX, den_s, den_c, Int.add_zero, List.map_cons, List.map_nil, g13.eq, g14.eq, g15.eq, g16.eq, h45, h46, h58] at f0 f1 f4 ⊢
  subst f0
  subst f1
  subst f4
  ((repeat' (first | apply And.intro | intro h)) <;> first | omega | rfl | trivial | (exfalso; omega) | (congr 1; omega) | (congr 1; (repeat' split) <;> first | rfl | (exfalso; omega))))
def w_xo_lose_0_3 : VC := ((bT ++ [(0, 3), ((-1), (-1))]), [(1, [(none, 1), (none, 0)], []), (0, [(some 15, 0), (none, (-1))], []), (20, [(some 15, 0), (some 14, 0)], [46]), (1, [(none, 1), (none, 0)], []), (3, [(none, 3), (some 14, 0)], []), (3, [(some 14, 0), (none, 0)], [])], (129, [(none, (-11)), (some 14, 0), (some 13, 0), (none, 1)], [45, 46, 46]))
set_option maxRecDepth 20000 in
theorem v_xo_lose_0_3 {PT : PTy} (hp : HP8 PT) : vcOk PT w_xo_lose_0_3 := vc_iv [(13, 0, 5), (14, 0, 3), (15, (-1), (-1))] [45, 46] (by decide +kernel) (fun ρ α => by
  intro r13 g13 b13 r14 g14 b14 r15 g15 b15 a45 h45 a46 h46 f0 f1 f2 f3 f4 f5 tt
  clear f0 f3 f4 f5
  have e129 : PT 129 = P_loX := pe129_8 hp
  simp only [hF0, hF20, hFp_129, e129, P_loX, den_s, den_c, Int.add_zero, List.map_cons, List.map_nil, g13.eq, g14.eq, g15.eq, h45, h46] at f1 f2 ⊢
  subst f2
  ((repeat' (first | apply And.intro | intro h)) <;> first | omega | rfl | trivial | (exfalso; omega) | (congr 1; omega) | (congr 1; (repeat' split) <;> first | rfl | (exfalso; omega))))
set_option maxRecDepth 1000000 in
theorem k_xo_lose {PT : PTy} (hp : HP8 PT) : wfX c_xo_lose = true ∧ xcOk PT c_xo_lose := xctr (xl0) c_xo_lose 60 mX6_lose rfl h_xo_lose (by decide +kernel) (by decide +kernel) (by decide) (vcs_by [w_xo_lose_0_0, w_xo_lose_0_1, w_xo_lose_0_2, w_xo_lose_0_3] (by decide +kernel) (vc (v_xo_lose_0_0 hp) (vc (v_xo_lose_0_1 hp) (vc (v_xo_lose_0_2 hp) (vc (v_xo_lose_0_3 hp) vn))))) fmn
def c_yo_lose : XC := (187, 2, (bY ++ [((-2147483648), 2147483647)]), [.inr (.inl 0), .inl (some 13, 0)], gY2, [], [((bY ++ [((-2147483648), 2147483647), ((-11), 60), (0, 5)]), some (.inl (some 14, 0)), (hst gY2 [(0, .inr (.inr (.inr (7, [.inr (.inl 1), .inr (.inl 2), .inl (some 2, 0), .inr (.inl 3), .inr (.inl 4), .inl (some 3, 0), .inr (.inl 5), .inr (.inl 6), .inr (.inl 7), .inr (.inl 8), .inl (some 4, 0), .inr (.inl 9), .inr (.inl 10), .inl (some 5, 0), .inr (.inl 11), .inr (.inl 12), .inr (.inl 13), .inl (some 6, 0), .inr (.inl 14), .inr (.inl 15), .inr (.inl 16), .inl (some 8, 0), .inl (some 9, 0), .inr (.inl 17), .inr (.inl 18), .inl (some 10, 0), .inl (some 11, 0), .inr (.inl 19), .inr (.inl 20), .inr (.inl 21), .inr (.inl 22), .inr (.inl 23), .inr (.inl 24), .inr (.inl 25), .inl (some 7, 0), .inr (.inl 26), .inr (.inl 27), .inr (.inl 28), .inr (.inl 29), .inr (.inl 30), .inr (.inl 31), .inr (.inl 32), .inr (.inl 33), .inr (.inl 34), .inl (some 15, 0)]))))]), (ansT 35 [(30, 35)]), 36, [(130, [(some 14, 0), (some 13, 0), (some 12, 0), (some 15, 0)], [30, 32, 35])])])
def h_yo_lose : List XH := []
def w_yo_lose_0_0 : VC := ((bY ++ [((-2147483648), (-1))]), [(0, [(none, 0), (none, 0)], []), (2, [(some 13, 0), (none, 0)], [])], (130, [(none, (-2)), (some 13, 0), (some 12, 0), (some 12, 0)], [30, 32, 30]))
theorem pe130_8 {PT : PTy} (hp : HP8 PT) : PT 130 = P_loY := hp.2.2.2.2.2.2.1
set_option maxRecDepth 20000 in
theorem v_yo_lose_0_0 {PT : PTy} (hp : HP8 PT) : vcOk PT w_yo_lose_0_0 := vc_iv [(12, 0, 5), (13, (-2147483648), (-1))] [30, 32] (by decide +kernel) (fun ρ α => by
  intro r12 g12 b12 r13 g13 b13 a30 h30 a32 h32 f0 f1 tt
  clear f0 f1
  have e130 : PT 130 = P_loY := pe130_8 hp
  simp only [hFp_130, e130, P_loY, den_s, den_c, Int.add_zero, List.map_cons, List.map_nil, g12.eq, g13.eq, h30, h32] at ⊢
  ((repeat' (first | apply And.intro | intro h)) <;> first | omega | rfl | trivial | (exfalso; omega) | (congr 1; omega) | (congr 1; (repeat' split) <;> first | rfl | (exfalso; omega))))
def w_yo_lose_0_1 : VC := ((bY ++ [(4, 2147483647)]), [(0, [(none, 0), (none, 0)], []), (2, [(none, 3), (some 13, 0)], []), (3, [(some 13, 0), (none, 0)], [])], (130, [(none, (-2)), (some 13, 0), (some 12, 0), (some 12, 0)], [30, 32, 30]))
set_option maxRecDepth 20000 in
theorem v_yo_lose_0_1 {PT : PTy} (hp : HP8 PT) : vcOk PT w_yo_lose_0_1 := vc_iv [(12, 0, 5), (13, 4, 2147483647)] [30, 32] (by decide +kernel) (fun ρ α => by
  intro r12 g12 b12 r13 g13 b13 a30 h30 a32 h32 f0 f1 f2 tt
  clear f0 f1 f2
  have e130 : PT 130 = P_loY := pe130_8 hp
  simp only [hFp_130, e130, P_loY, den_s, den_c, Int.add_zero, List.map_cons, List.map_nil, g12.eq, g13.eq, h30, h32] at ⊢
  ((repeat' (first | apply And.intro | intro h)) <;> first | omega | rfl | trivial | (exfalso; omega) | (congr 1; omega) | (congr 1; (repeat' split) <;> first | rfl | (exfalso; omega))))
def w_yo_lose_0_2 : VC := ((bY ++ [(0, 3), (1, 1), (0, 60)]), [(20, [(some 15, 0), (some 13, 0)], [32]), (21, [(some 13, 0), (none, 0)], [35, 30]), (1, [(some 14, 0), (none, 0)], []), (20, [(some 14, 0), (some 13, 0)], [30]), (1, [(none, 1), (none, 0)], []), (3, [(none, 3), (some 13, 0)], []), (3, [(some 13, 0), (none, 0)], [])], (130, [(some 15, 0), (some 13, 0), (some 12, 0), (some 12, 0)], [30, 32, 35]))
set_option maxRecDepth 20000 in
theorem v_yo_lose_0_2 {PT : PTy} (hp : HP8 PT) : vcOk PT w_yo_lose_0_2 := vc_iv [(12, 0, 5), (13, 0, 3), (14, 1, 1), (15, 0, 60)] [30, 32, 35] (by decide +kernel) (fun ρ α => by
  intro r12 g12 b12 r13 g13 b13 r14 g14 b14 r15 g15 b15 a30 h30 a32 h32 a35 h35 f0 f1 f2 f3 f4 f5 f6 tt
  clear f2 f4 f5 f6
  have e130 : PT 130 = P_loY := pe130_8 hp
  simp only [hF20, hF21, hFp_130, e130, P_loY, den_s, den_c, Int.add_zero, List.map_cons, List.map_nil, g12.eq, g13.eq, g14.eq, g15.eq, h30, h32, h35] at f0 f1 f3 ⊢
  subst f0
  subst f1
  subst f3
  ((repeat' (first | apply And.intro | intro h)) <;> first | omega | rfl | trivial | (exfalso; omega) | (congr 1; omega) | (congr 1; (repeat' split) <;> first | rfl | (exfalso; omega))))
def w_yo_lose_0_3 : VC := ((bY ++ [(0, 3), (0, 0)]), [(0, [(some 14, 0), (none, 0)], []), (20, [(some 14, 0), (some 13, 0)], [30]), (1, [(none, 1), (none, 0)], []), (3, [(none, 3), (some 13, 0)], []), (3, [(some 13, 0), (none, 0)], [])], (130, [(none, (-11)), (some 13, 0), (some 12, 0), (none, 1)], [30, 32, 30]))
set_option maxRecDepth 20000 in
theorem v_yo_lose_0_3 {PT : PTy} (hp : HP8 PT) : vcOk PT w_yo_lose_0_3 := vc_iv [(12, 0, 5), (13, 0, 3), (14, 0, 0)] [30, 32] (by decide +kernel) (fun ρ α => by
  intro r12 g12 b12 r13 g13 b13 r14 g14 b14 a30 h30 a32 h32 f0 f1 f2 f3 f4 tt
  clear f2 f3 f4
  have e130 : PT 130 = P_loY := pe130_8 hp
  simp only [hF0, hF20, hFp_130, e130, P_loY, den_s, den_c, Int.add_zero, List.map_cons, List.map_nil, g12.eq, g13.eq, g14.eq, h30, h32] at f0 f1 ⊢
  subst f1
  ((repeat' (first | apply And.intro | intro h)) <;> first | omega | rfl | trivial | (exfalso; omega) | (congr 1; omega) | (congr 1; (repeat' split) <;> first | rfl | (exfalso; omega))))
set_option maxRecDepth 1000000 in
theorem k_yo_lose {PT : PTy} (hp : HP8 PT) : wfX c_yo_lose = true ∧ xcOk PT c_yo_lose := xctr (xl0) c_yo_lose 53 mX7_lose rfl h_yo_lose (by decide +kernel) (by decide +kernel) (by decide) (vcs_by [w_yo_lose_0_0, w_yo_lose_0_1, w_yo_lose_0_2, w_yo_lose_0_3] (by decide +kernel) (vc (v_yo_lose_0_0 hp) (vc (v_yo_lose_0_1 hp) (vc (v_yo_lose_0_2 hp) (vc (v_yo_lose_0_3 hp) vn))))) fmn
def c_xo_put : XC := (74, 2, (bT ++ [((-2147483648), 2147483647), ((-2147483648), 2147483647), ((-2147483648), 2147483647), ((-2147483648), 2147483647)]), [.inr (.inl 0), .inl (some 14, 0), .inl (some 15, 0), .inl (some 16, 0), .inl (some 17, 0)], (gX 999), [], [((bT ++ [((-2147483648), 2147483647), ((-2147483648), 2147483647), ((-2147483648), 2147483647), ((-2147483648), 2147483647), ((-13), 1), (0, 5)]), some (.inl (some 18, 0)), (hst (gX 999) [(0, .inr (.inr (.inr (6, [.inr (.inl 1), .inr (.inl 3), .inr (.inl 5), .inr (.inl 6), .inr (.inl 9), .inr (.inl 14), .inr (.inl 18), .inr (.inl 22), .inr (.inl 31), .inr (.inl 35), .inr (.inl 39), .inr (.inl 47), .inl (some 19, 0)]))))]), (ansT 58 [(41, 58), (42, 59), (43, 60), (44, 61)]), 62, [(131, [(some 18, 0), (some 14, 0), (some 15, 0), (some 16, 0), (some 17, 0), (some 13, 0), (some 19, 0)], [45, 46, 41, 42, 43, 44, 58, 59, 60, 61])])])
def h_xo_put : List XH := []
def w_xo_put_0_0 : VC := ((bT ++ [((-2147483648), (-1)), ((-2147483648), 2147483647), ((-2147483648), 2147483647), ((-2147483648), 2147483647)]), [(0, [(none, 0), (none, 0)], []), (2, [(some 14, 0), (none, 0)], [])], (131, [(none, (-2)), (some 14, 0), (some 15, 0), (some 16, 0), (some 17, 0), (some 13, 0), (some 13, 0)], [45, 46, 41, 42, 43, 44, 41, 42, 43, 44]))
theorem pe131_8 {PT : PTy} (hp : HP8 PT) : PT 131 = P_puX := hp.2.2.2.2.2.2.2.1
set_option maxRecDepth 20000 in
theorem v_xo_put_0_0 {PT : PTy} (hp : HP8 PT) : vcOk PT w_xo_put_0_0 := vc_iv [(13, 0, 5), (14, (-2147483648), (-1)), (15, (-2147483648), 2147483647), (16, (-2147483648), 2147483647), (17, (-2147483648), 2147483647)] [41, 42, 43, 44, 45, 46] (by decide +kernel) (fun ρ α => by
  intro r13 g13 b13 r14 g14 b14 r15 g15 b15 r16 g16 b16 r17 g17 b17 a41 h41 a42 h42 a43 h43 a44 h44 a45 h45 a46 h46 f0 f1 tt
  clear f0 f1
  have e131 : PT 131 = P_puX := pe131_8 hp
  simp only [hFp_131, e131, P_puX, den_s, den_c, Int.add_zero, List.map_cons, List.map_nil, g13.eq, g14.eq, g15.eq, g16.eq, g17.eq, h41, h42, h43, h44, h45, h46] at ⊢
  ((repeat' (first | apply And.intro | intro h)) <;> first | omega | rfl | trivial | (exfalso; omega) | (congr 1; omega) | (congr 1; (repeat' split) <;> first | rfl | (exfalso; omega))))
def w_xo_put_0_1 : VC := ((bT ++ [(4, 2147483647), ((-2147483648), 2147483647), ((-2147483648), 2147483647), ((-2147483648), 2147483647)]), [(0, [(none, 0), (none, 0)], []), (2, [(none, 3), (some 14, 0)], []), (3, [(some 14, 0), (none, 0)], [])], (131, [(none, (-2)), (some 14, 0), (some 15, 0), (some 16, 0), (some 17, 0), (some 13, 0), (some 13, 0)], [45, 46, 41, 42, 43, 44, 41, 42, 43, 44]))
set_option maxRecDepth 20000 in
theorem v_xo_put_0_1 {PT : PTy} (hp : HP8 PT) : vcOk PT w_xo_put_0_1 := vc_iv [(13, 0, 5), (14, 4, 2147483647), (15, (-2147483648), 2147483647), (16, (-2147483648), 2147483647), (17, (-2147483648), 2147483647)] [41, 42, 43, 44, 45, 46] (by decide +kernel) (fun ρ α => by
  intro r13 g13 b13 r14 g14 b14 r15 g15 b15 r16 g16 b16 r17 g17 b17 a41 h41 a42 h42 a43 h43 a44 h44 a45 h45 a46 h46 f0 f1 f2 tt
  clear f0 f1 f2
  have e131 : PT 131 = P_puX := pe131_8 hp
  simp only [hFp_131, e131, P_puX, den_s, den_c, Int.add_zero, List.map_cons, List.map_nil, g13.eq, g14.eq, g15.eq, g16.eq, g17.eq, h41, h42, h43, h44, h45, h46] at ⊢
  ((repeat' (first | apply And.intro | intro h)) <;> first | omega | rfl | trivial | (exfalso; omega) | (congr 1; omega) | (congr 1; (repeat' split) <;> first | rfl | (exfalso; omega))))
def w_xo_put_0_2 : VC := ((bT ++ [(0, 3), ((-2147483648), (-1)), ((-2147483648), 2147483647), ((-2147483648), 2147483647)]), [(0, [(none, 0), (none, 0)], []), (2, [(some 15, 0), (none, 0)], []), (1, [(none, 1), (none, 0)], []), (3, [(none, 3), (some 14, 0)], []), (3, [(some 14, 0), (none, 0)], [])], (131, [(none, (-2)), (some 14, 0), (some 15, 0), (some 16, 0), (some 17, 0), (some 13, 0), (some 13, 0)], [45, 46, 41, 42, 43, 44, 41, 42, 43, 44]))
set_option maxRecDepth 20000 in
theorem v_xo_put_0_2 {PT : PTy} (hp : HP8 PT) : vcOk PT w_xo_put_0_2 := vc_iv [(13, 0, 5), (14, 0, 3), (15, (-2147483648), (-1)), (16, (-2147483648), 2147483647), (17, (-2147483648), 2147483647)] [41, 42, 43, 44, 45, 46] (by decide +kernel) (fun ρ α => by
  intro r13 g13 b13 r14 g14 b14 r15 g15 b15 r16 g16 b16 r17 g17 b17 a41 h41 a42 h42 a43 h43 a44 h44 a45 h45 a46 h46 f0 f1 f2 f3 f4 tt
  clear f0 f1 f2 f3 f4
  have e131 : PT 131 = P_puX := pe131_8 hp
  simp only [hFp_131, e131, P_puX, den_s, den_c, Int.add_zero, List.map_cons, List.map_nil, g13.eq, g14.eq, g15.eq, g16.eq, g17.eq, h41, h42, h43, h44, h45, h46] at ⊢
  ((repeat' (first | apply And.intro | intro h)) <;> first | omega | rfl | trivial | (exfalso; omega) | (congr 1; omega) | (congr 1; (repeat' split) <;> first | rfl | (exfalso; omega))))
def w_xo_put_0_3 : VC := ((bT ++ [(0, 3), (3, 2147483647), ((-2147483648), 2147483647), ((-2147483648), 2147483647)]), [(0, [(none, 0), (none, 0)], []), (2, [(none, 2), (some 15, 0)], []), (3, [(some 15, 0), (none, 0)], []), (1, [(none, 1), (none, 0)], []), (3, [(none, 3), (some 14, 0)], []), (3, [(some 14, 0), (none, 0)], [])], (131, [(none, (-2)), (some 14, 0), (some 15, 0), (some 16, 0), (some 17, 0), (some 13, 0), (some 13, 0)], [45, 46, 41, 42, 43, 44, 41, 42, 43, 44]))
set_option maxRecDepth 20000 in
theorem v_xo_put_0_3 {PT : PTy} (hp : HP8 PT) : vcOk PT w_xo_put_0_3 := vc_iv [(13, 0, 5), (14, 0, 3), (15, 3, 2147483647), (16, (-2147483648), 2147483647), (17, (-2147483648), 2147483647)] [41, 42, 43, 44, 45, 46] (by decide +kernel) (fun ρ α => by
  intro r13 g13 b13 r14 g14 b14 r15 g15 b15 r16 g16 b16 r17 g17 b17 a41 h41 a42 h42 a43 h43 a44 h44 a45 h45 a46 h46 f0 f1 f2 f3 f4 f5 tt
  clear f0 f1 f2 f3 f4 f5
  have e131 : PT 131 = P_puX := pe131_8 hp
  simp only [hFp_131, e131, P_puX, den_s, den_c, Int.add_zero, List.map_cons, List.map_nil, g13.eq, g14.eq, g15.eq, g16.eq, g17.eq, h41, h42, h43, h44, h45, h46] at ⊢
  ((repeat' (first | apply And.intro | intro h)) <;> first | omega | rfl | trivial | (exfalso; omega) | (congr 1; omega) | (congr 1; (repeat' split) <;> first | rfl | (exfalso; omega))))
def w_xo_put_0_4 : VC := ((bT ++ [(0, 3), (0, 2), ((-2147483648), (-1)), ((-2147483648), 2147483647), (0, 2), (0, 2)]), [(1, [(none, 2), (none, 0)], []), (0, [(none, 0), (none, 0)], []), (2, [(some 16, 0), (none, 0)], []), (0, [(some 19, 0), (some 15, 0)], []), (20, [(some 19, 0), (some 14, 0)], [46]), (0, [(none, 0), (none, 0)], []), (1, [(some 18, 0), (none, (-1))], []), (20, [(some 18, 0), (some 14, 0)], [46]), (1, [(none, 1), (none, 0)], []), (3, [(none, 2), (some 15, 0)], []), (3, [(some 15, 0), (none, 0)], []), (1, [(none, 1), (none, 0)], []), (3, [(none, 3), (some 14, 0)], []), (3, [(some 14, 0), (none, 0)], [])], (131, [(none, (-12)), (some 14, 0), (some 15, 0), (some 16, 0), (some 17, 0), (some 13, 0), (none, 2)], [45, 46, 41, 42, 43, 44, 41, 42, 43, 44]))
set_option maxRecDepth 20000 in
theorem v_xo_put_0_4 {PT : PTy} (hp : HP8 PT) : vcOk PT w_xo_put_0_4 := vc_iv [(13, 0, 5), (14, 0, 3), (15, 0, 2), (16, (-2147483648), (-1)), (17, (-2147483648), 2147483647), (18, 0, 2), (19, 0, 2)] [41, 42, 43, 44, 45, 46] (by decide +kernel) (fun ρ α => by
  intro r13 g13 b13 r14 g14 b14 r15 g15 b15 r16 g16 b16 r17 g17 b17 r18 g18 b18 r19 g19 b19 a41 h41 a42 h42 a43 h43 a44 h44 a45 h45 a46 h46 f0 f1 f2 f3 f4 f5 f6 f7 f8 f9 f10 f11 f12 f13 tt
  clear f0 f1 f2 f5 f6 f8 f9 f10 f11 f12 f13
  have e131 : PT 131 = P_puX := pe131_8 hp
  simp only [hF0, hF20, hFp_131, e131, P_puX, den_s, den_c, Int.add_zero, List.map_cons, List.map_nil, g13.eq, g14.eq, g15.eq, g16.eq, g17.eq, g18.eq, g19.eq, h41, h42, h43, h44, h45, h46] at f3 f4 f7 ⊢
  subst f4
  subst f7
  ((repeat' (first | apply And.intro | intro h)) <;> first | omega | rfl | trivial | (exfalso; omega) | (congr 1; omega) | (congr 1; (repeat' split) <;> first | rfl | (exfalso; omega))))
def w_xo_put_0_5 : VC := ((bT ++ [(0, 3), (0, 2), (0, 2147483647), ((-2147483648), 2147483647), (0, 2), (0, 2), (0, 0)]), [(1, [(none, 2), (none, 0)], []), (0, [(none, 0), (none, 0)], []), (2, [(some 20, 0), (none, 1)], []), (20, [(some 20, 0), (some 14, 0)], [45]), (3, [(none, 1), (none, 0)], []), (3, [(some 16, 0), (none, 0)], []), (0, [(some 19, 0), (some 15, 0)], []), (20, [(some 19, 0), (some 14, 0)], [46]), (0, [(none, 0), (none, 0)], []), (1, [(some 18, 0), (none, (-1))], []), (20, [(some 18, 0), (some 14, 0)], [46]), (1, [(none, 1), (none, 0)], []), (3, [(none, 2), (some 15, 0)], []), (3, [(some 15, 0), (none, 0)], []), (1, [(none, 1), (none, 0)], []), (3, [(none, 3), (some 14, 0)], []), (3, [(some 14, 0), (none, 0)], [])], (131, [(none, (-12)), (some 14, 0), (some 15, 0), (some 16, 0), (some 17, 0), (some 13, 0), (none, 2)], [45, 46, 41, 42, 43, 44, 41, 42, 43, 44]))
set_option maxRecDepth 20000 in
theorem v_xo_put_0_5 {PT : PTy} (hp : HP8 PT) : vcOk PT w_xo_put_0_5 := vc_iv [(13, 0, 5), (14, 0, 3), (15, 0, 2), (16, 0, 2147483647), (17, (-2147483648), 2147483647), (18, 0, 2), (19, 0, 2), (20, 0, 0)] [41, 42, 43, 44, 45, 46] (by decide +kernel) (fun ρ α => by
  intro r13 g13 b13 r14 g14 b14 r15 g15 b15 r16 g16 b16 r17 g17 b17 r18 g18 b18 r19 g19 b19 r20 g20 b20 a41 h41 a42 h42 a43 h43 a44 h44 a45 h45 a46 h46 f0 f1 f2 f3 f4 f5 f6 f7 f8 f9 f10 f11 f12 f13 f14 f15 f16 tt
  clear f0 f1 f2 f4 f5 f8 f9 f11 f12 f13 f14 f15 f16
  have e131 : PT 131 = P_puX := pe131_8 hp
  simp only [hF0, hF20, hFp_131, e131, P_puX, den_s, den_c, Int.add_zero, List.map_cons, List.map_nil, g13.eq, g14.eq, g15.eq, g16.eq, g17.eq, g18.eq, g19.eq, g20.eq, h41, h42, h43, h44, h45, h46] at f3 f6 f7 f10 ⊢
  subst f3
  subst f7
  subst f10
  ((repeat' (first | apply And.intro | intro h)) <;> first | omega | rfl | trivial | (exfalso; omega) | (congr 1; omega) | (congr 1; (repeat' split) <;> first | rfl | (exfalso; omega))))
def w_xo_put_0_6 : VC := ((bT ++ [(0, 3), (0, 2), (0, 2147483647), ((-2147483648), 2147483647), (0, 2), (0, 2), (1, 60), (0, 60)]), [(1, [(none, 2), (none, 0)], []), (0, [(none, 0), (none, 0)], []), (2, [(some 21, (-1)), (some 16, 0)], []), (20, [(some 21, 0), (some 14, 0)], [45]), (3, [(some 20, 0), (none, 1)], []), (20, [(some 20, 0), (some 14, 0)], [45]), (3, [(none, 1), (none, 0)], []), (3, [(some 16, 0), (none, 0)], []), (0, [(some 19, 0), (some 15, 0)], []), (20, [(some 19, 0), (some 14, 0)], [46]), (0, [(none, 0), (none, 0)], []), (1, [(some 18, 0), (none, (-1))], []), (20, [(some 18, 0), (some 14, 0)], [46]), (1, [(none, 1), (none, 0)], []), (3, [(none, 2), (some 15, 0)], []), (3, [(some 15, 0), (none, 0)], []), (1, [(none, 1), (none, 0)], []), (3, [(none, 3), (some 14, 0)], []), (3, [(some 14, 0), (none, 0)], [])], (131, [(none, (-12)), (some 14, 0), (some 15, 0), (some 16, 0), (some 17, 0), (some 13, 0), (none, 2)], [45, 46, 41, 42, 43, 44, 41, 42, 43, 44]))
set_option maxRecDepth 20000 in
theorem v_xo_put_0_6 {PT : PTy} (hp : HP8 PT) : vcOk PT w_xo_put_0_6 := vc_iv [(13, 0, 5), (14, 0, 3), (15, 0, 2), (16, 0, 2147483647), (17, (-2147483648), 2147483647), (18, 0, 2), (19, 0, 2), (20, 1, 60), (21, 0, 60)] [41, 42, 43, 44, 45, 46] (by decide +kernel) (fun ρ α => by
  intro r13 g13 b13 r14 g14 b14 r15 g15 b15 r16 g16 b16 r17 g17 b17 r18 g18 b18 r19 g19 b19 r20 g20 b20 r21 g21 b21 a41 h41 a42 h42 a43 h43 a44 h44 a45 h45 a46 h46 f0 f1 f2 f3 f4 f5 f6 f7 f8 f9 f10 f11 f12 f13 f14 f15 f16 f17 f18 tt
  clear f0 f1 f4 f6 f7 f10 f11 f13 f14 f15 f16 f17 f18
  have e131 : PT 131 = P_puX := pe131_8 hp
  simp only [hF0, hF2, hF20, hFp_131, e131, P_puX, den_s, den_c, Int.add_zero, List.map_cons, List.map_nil, g13.eq, g14.eq, g15.eq, g16.eq, g17.eq, g18.eq, g19.eq, g20.eq, g21.eq, h41, h42, h43, h44, h45, h46] at f2 f3 f5 f8 f9 f12 ⊢
  subst f3
  subst f5
  subst f9
  subst f12
  ((repeat' (first | apply And.intro | intro h)) <;> first | omega | rfl | trivial | (exfalso; omega) | (congr 1; omega) | (congr 1; (repeat' split) <;> first | rfl | (exfalso; omega))))
def w_xo_put_0_7 : VC := ((bT ++ [(0, 0), (0, 2), (0, 59), ((-2147483648), 2147483647), (0, 2), (0, 2), (1, 60), (1, 60), ((-1), 2), ((-1), 2)]), [(21, [(some 16, 0), (some 17, 0)], [58, 41]), (1, [(some 23, 0), (none, 1)], []), (20, [(some 23, 0), (some 14, 0)], [46]), (1, [(some 22, 0), (none, 0)], []), (20, [(some 22, 0), (some 14, 0)], [46]), (0, [(some 14, 0), (none, 0)], []), (0, [(none, 0), (none, 0)], []), (1, [(none, 1), (none, 0)], []), (3, [(some 21, (-1)), (some 16, 0)], []), (20, [(some 21, 0), (some 14, 0)], [45]), (3, [(some 20, 0), (none, 1)], []), (20, [(some 20, 0), (some 14, 0)], [45]), (3, [(none, 1), (none, 0)], []), (3, [(some 16, 0), (none, 0)], []), (0, [(some 19, 0), (some 15, 0)], []), (20, [(some 19, 0), (some 14, 0)], [46]), (0, [(none, 0), (none, 0)], []), (1, [(some 18, 0), (none, (-1))], []), (20, [(some 18, 0), (some 14, 0)], [46]), (1, [(none, 1), (none, 0)], []), (3, [(none, 2), (some 15, 0)], []), (3, [(some 15, 0), (none, 0)], []), (1, [(none, 1), (none, 0)], []), (3, [(none, 3), (some 14, 0)], []), (3, [(some 14, 0), (none, 0)], [])], (131, [(none, 1), (some 14, 0), (some 15, 0), (some 16, 0), (some 17, 0), (some 13, 0), (some 13, 0)], [45, 46, 41, 42, 43, 44, 58, 42, 43, 44]))
set_option maxRecDepth 20000 in
theorem v_xo_put_0_7 {PT : PTy} (hp : HP8 PT) : vcOk PT w_xo_put_0_7 := vc_iv [(13, 0, 5), (14, 0, 0), (15, 0, 2), (16, 0, 59), (17, (-2147483648), 2147483647), (18, 0, 2), (19, 0, 2), (20, 1, 60), (21, 1, 60), (22, (-1), 2), (23, (-1), 2)] [41, 42, 43, 44, 45, 46, 58] (by decide +kernel) (fun ρ α => by
  intro r13 g13 b13 r14 g14 b14 r15 g15 b15 r16 g16 b16 r17 g17 b17 r18 g18 b18 r19 g19 b19 r20 g20 b20 r21 g21 b21 r22 g22 b22 r23 g23 b23 a41 h41 a42 h42 a43 h43 a44 h44 a45 h45 a46 h46 a58 h58 f0 f1 f2 f3 f4 f5 f6 f7 f8 f9 f10 f11 f12 f13 f14 f15 f16 f17 f18 f19 f20 f21 f22 f23 f24 tt
  clear f6 f7 f10 f12 f13 f16 f17 f19 f20 f21 f22 f23 f24
  have e131 : PT 131 = P_puX := pe131_8 hp
  simp only [hF0, hF1, hF3, hF20, hF21, hFp_131, e131, P_puX, den_s, den_c, Int.add_zero, List.map_cons, List.map_nil, g13.eq, g14.eq, g15.eq, g16.eq, g17.eq, g18.eq, g19.eq, g20.eq, g21.eq, g22.eq, g23.eq, h41, h42, h43, h44, h45, h46, h58] at f0 f1 f2 f3 f4 f5 f8 f9 f11 f14 f15 f18 ⊢
  subst f0
  subst f2
  subst f4
  subst f9
  subst f11
  subst f15
  subst f18
  ((repeat' (first | apply And.intro | intro h)) <;> first | omega | rfl | trivial | (exfalso; omega) | (congr 1; omega) | (congr 1; (repeat' split) <;> first | rfl | (exfalso; omega))))
def w_xo_put_0_8 : VC := ((bT ++ [(0, 0), (0, 2), (0, 59), ((-2147483648), 2147483647), (0, 2), (0, 2), (1, 60), (1, 60), ((-1), 2), (1, 1), ((-2147483648), 2147483647)]), [(21, [(some 16, 0), (some 24, 0)], [58, 41]), (19, [(some 24, 0), (some 17, 0)], []), (0, [(some 23, 0), (none, 1)], []), (20, [(some 23, 0), (some 14, 0)], [46]), (1, [(some 22, 0), (none, 0)], []), (20, [(some 22, 0), (some 14, 0)], [46]), (0, [(some 14, 0), (none, 0)], []), (0, [(none, 0), (none, 0)], []), (1, [(none, 1), (none, 0)], []), (3, [(some 21, (-1)), (some 16, 0)], []), (20, [(some 21, 0), (some 14, 0)], [45]), (3, [(some 20, 0), (none, 1)], []), (20, [(some 20, 0), (some 14, 0)], [45]), (3, [(none, 1), (none, 0)], []), (3, [(some 16, 0), (none, 0)], []), (0, [(some 19, 0), (some 15, 0)], []), (20, [(some 19, 0), (some 14, 0)], [46]), (0, [(none, 0), (none, 0)], []), (1, [(some 18, 0), (none, (-1))], []), (20, [(some 18, 0), (some 14, 0)], [46]), (1, [(none, 1), (none, 0)], []), (3, [(none, 2), (some 15, 0)], []), (3, [(some 15, 0), (none, 0)], []), (1, [(none, 1), (none, 0)], []), (3, [(none, 3), (some 14, 0)], []), (3, [(some 14, 0), (none, 0)], [])], (131, [(none, 1), (some 14, 0), (some 15, 0), (some 16, 0), (some 17, 0), (some 13, 0), (some 13, 0)], [45, 46, 41, 42, 43, 44, 58, 42, 43, 44]))
set_option maxRecDepth 20000 in
theorem v_xo_put_0_8 {PT : PTy} (hp : HP8 PT) : vcOk PT w_xo_put_0_8 := vc_iv [(13, 0, 5), (14, 0, 0), (15, 0, 2), (16, 0, 59), (17, (-2147483648), 2147483647), (18, 0, 2), (19, 0, 2), (20, 1, 60), (21, 1, 60), (22, (-1), 2), (23, 1, 1), (24, (-2147483648), 2147483647)] [41, 42, 43, 44, 45, 46, 58] (by decide +kernel) (fun ρ α => by
  intro r13 g13 b13 r14 g14 b14 r15 g15 b15 r16 g16 b16 r17 g17 b17 r18 g18 b18 r19 g19 b19 r20 g20 b20 r21 g21 b21 r22 g22 b22 r23 g23 b23 r24 g24 b24 a41 h41 a42 h42 a43 h43 a44 h44 a45 h45 a46 h46 a58 h58 f0 f1 f2 f3 f4 f5 f6 f7 f8 f9 f10 f11 f12 f13 f14 f15 f16 f17 f18 f19 f20 f21 f22 f23 f24 f25 tt
  clear f7 f8 f11 f13 f14 f17 f18 f20 f21 f22 f23 f24 f25
  have e131 : PT 131 = P_puX := pe131_8 hp
  simp only [hF0, hF1, hF3, hF19, hF20, hF21, hFp_131, e131, P_puX, den_s, den_c, Int.add_zero, List.map_cons, List.map_nil, g13.eq, g14.eq, g15.eq, g16.eq, g17.eq, g18.eq, g19.eq, g20.eq, g21.eq, g22.eq, g23.eq, g24.eq, h41, h42, h43, h44, h45, h46, h58] at f0 f1 f2 f3 f4 f5 f6 f9 f10 f12 f15 f16 f19 ⊢
  subst f0
  subst f1
  subst f3
  subst f5
  subst f10
  subst f12
  subst f16
  subst f19
  ((repeat' (first | apply And.intro | intro h)) <;> first | omega | rfl | trivial | (exfalso; omega) | (congr 1; omega) | (congr 1; (repeat' split) <;> first | rfl | (exfalso; omega))))
def w_xo_put_0_9 : VC := ((bT ++ [(0, 0), (0, 2), (0, 59), ((-2147483648), 2147483647), (0, 2), (0, 2), (1, 60), (1, 60), (0, 0), ((-2147483648), 2147483647)]), [(21, [(some 16, 0), (some 23, 0)], [58, 41]), (18, [(some 23, 0), (some 17, 0)], []), (0, [(some 22, 0), (none, 0)], []), (20, [(some 22, 0), (some 14, 0)], [46]), (0, [(some 14, 0), (none, 0)], []), (0, [(none, 0), (none, 0)], []), (1, [(none, 1), (none, 0)], []), (3, [(some 21, (-1)), (some 16, 0)], []), (20, [(some 21, 0), (some 14, 0)], [45]), (3, [(some 20, 0), (none, 1)], []), (20, [(some 20, 0), (some 14, 0)], [45]), (3, [(none, 1), (none, 0)], []), (3, [(some 16, 0), (none, 0)], []), (0, [(some 19, 0), (some 15, 0)], []), (20, [(some 19, 0), (some 14, 0)], [46]), (0, [(none, 0), (none, 0)], []), (1, [(some 18, 0), (none, (-1))], []), (20, [(some 18, 0), (some 14, 0)], [46]), (1, [(none, 1), (none, 0)], []), (3, [(none, 2), (some 15, 0)], []), (3, [(some 15, 0), (none, 0)], []), (1, [(none, 1), (none, 0)], []), (3, [(none, 3), (some 14, 0)], []), (3, [(some 14, 0), (none, 0)], [])], (131, [(none, 1), (some 14, 0), (some 15, 0), (some 16, 0), (some 17, 0), (some 13, 0), (some 13, 0)], [45, 46, 41, 42, 43, 44, 58, 42, 43, 44]))
set_option maxRecDepth 20000 in
theorem v_xo_put_0_9 {PT : PTy} (hp : HP8 PT) : vcOk PT w_xo_put_0_9 := vc_iv [(13, 0, 5), (14, 0, 0), (15, 0, 2), (16, 0, 59), (17, (-2147483648), 2147483647), (18, 0, 2), (19, 0, 2), (20, 1, 60), (21, 1, 60), (22, 0, 0), (23, (-2147483648), 2147483647)] [41, 42, 43, 44, 45, 46, 58] (by decide +kernel) (fun ρ α => by
  intro r13 g13 b13 r14 g14 b14 r15 g15 b15 r16 g16 b16 r17 g17 b17 r18 g18 b18 r19 g19 b19 r20 g20 b20 r21 g21 b21 r22 g22 b22 r23 g23 b23 a41 h41 a42 h42 a43 h43 a44 h44 a45 h45 a46 h46 a58 h58 f0 f1 f2 f3 f4 f5 f6 f7 f8 f9 f10 f11 f12 f13 f14 f15 f16 f17 f18 f19 f20 f21 f22 f23 tt
  clear f5 f6 f9 f11 f12 f15 f16 f18 f19 f20 f21 f22 f23
  have e131 : PT 131 = P_puX := pe131_8 hp
  simp only [hF0, hF3, hF18, hF20, hF21, hFp_131, e131, P_puX, den_s, den_c, Int.add_zero, List.map_cons, List.map_nil, g13.eq, g14.eq, g15.eq, g16.eq, g17.eq, g18.eq, g19.eq, g20.eq, g21.eq, g22.eq, g23.eq, h41, h42, h43, h44, h45, h46, h58] at f0 f1 f2 f3 f4 f7 f8 f10 f13 f14 f17 ⊢
  subst f0
  subst f1
  subst f3
  subst f8
  subst f10
  subst f14
  subst f17
  ((repeat' (first | apply And.intro | intro h)) <;> first | omega | rfl | trivial | (exfalso; omega) | (congr 1; omega) | (congr 1; (repeat' split) <;> first | rfl | (exfalso; omega))))
def w_xo_put_0_10 : VC := ((bT ++ [(1, 1), (0, 2), (0, 59), ((-2147483648), 2147483647), (0, 2), (0, 2), (1, 60), (1, 60), ((-1), 2), ((-1), 2)]), [(21, [(some 16, 0), (some 17, 0)], [58, 42]), (1, [(some 23, 0), (none, 1)], []), (20, [(some 23, 0), (some 14, 0)], [46]), (1, [(some 22, 0), (none, 0)], []), (20, [(some 22, 0), (some 14, 0)], [46]), (0, [(some 14, 0), (none, 1)], []), (0, [(none, 0), (none, 0)], []), (1, [(none, 1), (none, 0)], []), (3, [(some 21, (-1)), (some 16, 0)], []), (20, [(some 21, 0), (some 14, 0)], [45]), (3, [(some 20, 0), (none, 1)], []), (20, [(some 20, 0), (some 14, 0)], [45]), (3, [(none, 1), (none, 0)], []), (3, [(some 16, 0), (none, 0)], []), (0, [(some 19, 0), (some 15, 0)], []), (20, [(some 19, 0), (some 14, 0)], [46]), (0, [(none, 0), (none, 0)], []), (1, [(some 18, 0), (none, (-1))], []), (20, [(some 18, 0), (some 14, 0)], [46]), (1, [(none, 1), (none, 0)], []), (3, [(none, 2), (some 15, 0)], []), (3, [(some 15, 0), (none, 0)], []), (1, [(none, 1), (none, 0)], []), (3, [(none, 3), (some 14, 0)], []), (3, [(some 14, 0), (none, 0)], [])], (131, [(none, 1), (some 14, 0), (some 15, 0), (some 16, 0), (some 17, 0), (some 13, 0), (some 13, 0)], [45, 46, 41, 42, 43, 44, 41, 58, 43, 44]))
set_option maxRecDepth 20000 in
theorem v_xo_put_0_10 {PT : PTy} (hp : HP8 PT) : vcOk PT w_xo_put_0_10 := vc_iv [(13, 0, 5), (14, 1, 1), (15, 0, 2), (16, 0, 59), (17, (-2147483648), 2147483647), (18, 0, 2), (19, 0, 2), (20, 1, 60), (21, 1, 60), (22, (-1), 2), (23, (-1), 2)] [41, 42, 43, 44, 45, 46, 58] (by decide +kernel) (fun ρ α => by
  intro r13 g13 b13 r14 g14 b14 r15 g15 b15 r16 g16 b16 r17 g17 b17 r18 g18 b18 r19 g19 b19 r20 g20 b20 r21 g21 b21 r22 g22 b22 r23 g23 b23 a41 h41 a42 h42 a43 h43 a44 h44 a45 h45 a46 h46 a58 h58 f0 f1 f2 f3 f4 f5 f6 f7 f8 f9 f10 f11 f12 f13 f14 f15 f16 f17 f18 f19 f20 f21 f22 f23 f24 tt
  clear f6 f7 f10 f12 f13 f16 f17 f19 f20 f21 f22 f23 f24
  have e131 : PT 131 = P_puX := pe131_8 hp
  simp only [hF0, hF1, hF3, hF20, hF21, hFp_131, e131, P_puX, den_s, den_c, Int.add_zero, List.map_cons, List.map_nil, g13.eq, g14.eq, g15.eq, g16.eq, g17.eq, g18.eq, g19.eq, g20.eq, g21.eq, g22.eq, g23.eq, h41, h42, h43, h44, h45, h46, h58] at f0 f1 f2 f3 f4 f5 f8 f9 f11 f14 f15 f18 ⊢
  subst f0
  subst f2
  subst f4
  subst f9
  subst f11
  subst f15
  subst f18
  ((repeat' (first | apply And.intro | intro h)) <;> first | omega | rfl | trivial | (exfalso; omega) | (congr 1; omega) | (congr 1; (repeat' split) <;> first | rfl | (exfalso; omega))))
def w_xo_put_0_11 : VC := ((bT ++ [(1, 1), (0, 2), (0, 59), ((-2147483648), 2147483647), (0, 2), (0, 2), (1, 60), (1, 60), ((-1), 2), (1, 1), ((-2147483648), 2147483647)]), [(21, [(some 16, 0), (some 24, 0)], [58, 42]), (19, [(some 24, 0), (some 17, 0)], []), (0, [(some 23, 0), (none, 1)], []), (20, [(some 23, 0), (some 14, 0)], [46]), (1, [(some 22, 0), (none, 0)], []), (20, [(some 22, 0), (some 14, 0)], [46]), (0, [(some 14, 0), (none, 1)], []), (0, [(none, 0), (none, 0)], []), (1, [(none, 1), (none, 0)], []), (3, [(some 21, (-1)), (some 16, 0)], []), (20, [(some 21, 0), (some 14, 0)], [45]), (3, [(some 20, 0), (none, 1)], []), (20, [(some 20, 0), (some 14, 0)], [45]), (3, [(none, 1), (none, 0)], []), (3, [(some 16, 0), (none, 0)], []), (0, [(some 19, 0), (some 15, 0)], []), (20, [(some 19, 0), (some 14, 0)], [46]), (0, [(none, 0), (none, 0)], []), (1, [(some 18, 0), (none, (-1))], []), (20, [(some 18, 0), (some 14, 0)], [46]), (1, [(none, 1), (none, 0)], []), (3, [(none, 2), (some 15, 0)], []), (3, [(some 15, 0), (none, 0)], []), (1, [(none, 1), (none, 0)], []), (3, [(none, 3), (some 14, 0)], []), (3, [(some 14, 0), (none, 0)], [])], (131, [(none, 1), (some 14, 0), (some 15, 0), (some 16, 0), (some 17, 0), (some 13, 0), (some 13, 0)], [45, 46, 41, 42, 43, 44, 41, 58, 43, 44]))
set_option maxRecDepth 20000 in
theorem v_xo_put_0_11 {PT : PTy} (hp : HP8 PT) : vcOk PT w_xo_put_0_11 := vc_iv [(13, 0, 5), (14, 1, 1), (15, 0, 2), (16, 0, 59), (17, (-2147483648), 2147483647), (18, 0, 2), (19, 0, 2), (20, 1, 60), (21, 1, 60), (22, (-1), 2), (23, 1, 1), (24, (-2147483648), 2147483647)] [41, 42, 43, 44, 45, 46, 58] (by decide +kernel) (fun ρ α => by
  intro r13 g13 b13 r14 g14 b14 r15 g15 b15 r16 g16 b16 r17 g17 b17 r18 g18 b18 r19 g19 b19 r20 g20 b20 r21 g21 b21 r22 g22 b22 r23 g23 b23 r24 g24 b24 a41 h41 a42 h42 a43 h43 a44 h44 a45 h45 a46 h46 a58 h58 f0 f1 f2 f3 f4 f5 f6 f7 f8 f9 f10 f11 f12 f13 f14 f15 f16 f17 f18 f19 f20 f21 f22 f23 f24 f25 tt
  clear f7 f8 f11 f13 f14 f17 f18 f20 f21 f22 f23 f24 f25
  have e131 : PT 131 = P_puX := pe131_8 hp
  simp only [hF0, hF1, hF3, hF19, hF20, hF21, hFp_131, e131, P_puX, den_s, den_c, Int.add_zero, List.map_cons, List.map_nil, g13.eq, g14.eq, g15.eq, g16.eq, g17.eq, g18.eq, g19.eq, g20.eq, g21.eq, g22.eq, g23.eq, g24.eq, h41, h42, h43, h44, h45, h46, h58] at f0 f1 f2 f3 f4 f5 f6 f9 f10 f12 f15 f16 f19 ⊢
  subst f0
  subst f1
  subst f3
  subst f5
  subst f10
  subst f12
  subst f16
  subst f19
  ((repeat' (first | apply And.intro | intro h)) <;> first | omega | rfl | trivial | (exfalso; omega) | (congr 1; omega) | (congr 1; (repeat' split) <;> first | rfl | (exfalso; omega))))
def w_xo_put_0_12 : VC := ((bT ++ [(1, 1), (0, 2), (0, 59), ((-2147483648), 2147483647), (0, 2), (0, 2), (1, 60), (1, 60), (0, 0), ((-2147483648), 2147483647)]), [(21, [(some 16, 0), (some 23, 0)], [58, 42]), (18, [(some 23, 0), (some 17, 0)], []), (0, [(some 22, 0), (none, 0)], []), (20, [(some 22, 0), (some 14, 0)], [46]), (0, [(some 14, 0), (none, 1)], []), (0, [(none, 0), (none, 0)], []), (1, [(none, 1), (none, 0)], []), (3, [(some 21, (-1)), (some 16, 0)], []), (20, [(some 21, 0), (some 14, 0)], [45]), (3, [(some 20, 0), (none, 1)], []), (20, [(some 20, 0), (some 14, 0)], [45]), (3, [(none, 1), (none, 0)], []), (3, [(some 16, 0), (none, 0)], []), (0, [(some 19, 0), (some 15, 0)], []), (20, [(some 19, 0), (some 14, 0)], [46]), (0, [(none, 0), (none, 0)], []), (1, [(some 18, 0), (none, (-1))], []), (20, [(some 18, 0), (some 14, 0)], [46]), (1, [(none, 1), (none, 0)], []), (3, [(none, 2), (some 15, 0)], []), (3, [(some 15, 0), (none, 0)], []), (1, [(none, 1), (none, 0)], []), (3, [(none, 3), (some 14, 0)], []), (3, [(some 14, 0), (none, 0)], [])], (131, [(none, 1), (some 14, 0), (some 15, 0), (some 16, 0), (some 17, 0), (some 13, 0), (some 13, 0)], [45, 46, 41, 42, 43, 44, 41, 58, 43, 44]))
set_option maxRecDepth 20000 in
theorem v_xo_put_0_12 {PT : PTy} (hp : HP8 PT) : vcOk PT w_xo_put_0_12 := vc_iv [(13, 0, 5), (14, 1, 1), (15, 0, 2), (16, 0, 59), (17, (-2147483648), 2147483647), (18, 0, 2), (19, 0, 2), (20, 1, 60), (21, 1, 60), (22, 0, 0), (23, (-2147483648), 2147483647)] [41, 42, 43, 44, 45, 46, 58] (by decide +kernel) (fun ρ α => by
  intro r13 g13 b13 r14 g14 b14 r15 g15 b15 r16 g16 b16 r17 g17 b17 r18 g18 b18 r19 g19 b19 r20 g20 b20 r21 g21 b21 r22 g22 b22 r23 g23 b23 a41 h41 a42 h42 a43 h43 a44 h44 a45 h45 a46 h46 a58 h58 f0 f1 f2 f3 f4 f5 f6 f7 f8 f9 f10 f11 f12 f13 f14 f15 f16 f17 f18 f19 f20 f21 f22 f23 tt
  clear f5 f6 f9 f11 f12 f15 f16 f18 f19 f20 f21 f22 f23
  have e131 : PT 131 = P_puX := pe131_8 hp
  simp only [hF0, hF3, hF18, hF20, hF21, hFp_131, e131, P_puX, den_s, den_c, Int.add_zero, List.map_cons, List.map_nil, g13.eq, g14.eq, g15.eq, g16.eq, g17.eq, g18.eq, g19.eq, g20.eq, g21.eq, g22.eq, g23.eq, h41, h42, h43, h44, h45, h46, h58] at f0 f1 f2 f3 f4 f7 f8 f10 f13 f14 f17 ⊢
  subst f0
  subst f1
  subst f3
  subst f8
  subst f10
  subst f14
  subst f17
  ((repeat' (first | apply And.intro | intro h)) <;> first | omega | rfl | trivial | (exfalso; omega) | (congr 1; omega) | (congr 1; (repeat' split) <;> first | rfl | (exfalso; omega))))
def w_xo_put_0_13 : VC := ((bT ++ [(2, 2), (0, 2), (0, 59), ((-2147483648), 2147483647), (0, 2), (0, 2), (1, 60), (1, 60), ((-1), 2), ((-1), 2)]), [(21, [(some 16, 0), (some 17, 0)], [58, 43]), (1, [(some 23, 0), (none, 1)], []), (20, [(some 23, 0), (some 14, 0)], [46]), (1, [(some 22, 0), (none, 0)], []), (20, [(some 22, 0), (some 14, 0)], [46]), (0, [(some 14, 0), (none, 2)], []), (0, [(none, 0), (none, 0)], []), (1, [(none, 1), (none, 0)], []), (3, [(some 21, (-1)), (some 16, 0)], []), (20, [(some 21, 0), (some 14, 0)], [45]), (3, [(some 20, 0), (none, 1)], []), (20, [(some 20, 0), (some 14, 0)], [45]), (3, [(none, 1), (none, 0)], []), (3, [(some 16, 0), (none, 0)], []), (0, [(some 19, 0), (some 15, 0)], []), (20, [(some 19, 0), (some 14, 0)], [46]), (0, [(none, 0), (none, 0)], []), (1, [(some 18, 0), (none, (-1))], []), (20, [(some 18, 0), (some 14, 0)], [46]), (1, [(none, 1), (none, 0)], []), (3, [(none, 2), (some 15, 0)], []), (3, [(some 15, 0), (none, 0)], []), (1, [(none, 1), (none, 0)], []), (3, [(none, 3), (some 14, 0)], []), (3, [(some 14, 0), (none, 0)], [])], (131, [(none, 1), (some 14, 0), (some 15, 0), (some 16, 0), (some 17, 0), (some 13, 0), (some 13, 0)], [45, 46, 41, 42, 43, 44, 41, 42, 58, 44]))
set_option maxRecDepth 20000 in
theorem v_xo_put_0_13 {PT : PTy} (hp : HP8 PT) : vcOk PT w_xo_put_0_13 := vc_iv [(13, 0, 5), (14, 2, 2), (15, 0, 2), (16, 0, 59), (17, (-2147483648), 2147483647), (18, 0, 2), (19, 0, 2), (20, 1, 60), (21, 1, 60), (22, (-1), 2), (23, (-1), 2)] [41, 42, 43, 44, 45, 46, 58] (by decide +kernel) (fun ρ α => by
  intro r13 g13 b13 r14 g14 b14 r15 g15 b15 r16 g16 b16 r17 g17 b17 r18 g18 b18 r19 g19 b19 r20 g20 b20 r21 g21 b21 r22 g22 b22 r23 g23 b23 a41 h41 a42 h42 a43 h43 a44 h44 a45 h45 a46 h46 a58 h58 f0 f1 f2 f3 f4 f5 f6 f7 f8 f9 f10 f11 f12 f13 f14 f15 f16 f17 f18 f19 f20 f21 f22 f23 f24 tt
  clear f6 f7 f10 f12 f13 f16 f17 f19 f20 f21 f22 f23 f24
  have e131 : PT 131 = P_puX := pe131_8 hp
  simp only [hF0, hF1, hF3, hF20, hF21, hFp_131, e131, P_puX, den_s, den_c, Int.add_zero, List.map_cons, List.map_nil, g13.eq, g14.eq, g15.eq, g16.eq, g17.eq, g18.eq, g19.eq, g20.eq, g21.eq, g22.eq, g23.eq, h41, h42, h43, h44, h45, h46, h58] at f0 f1 f2 f3 f4 f5 f8 f9 f11 f14 f15 f18 ⊢
  subst f0
  subst f2
  subst f4
  subst f9
  subst f11
  subst f15
  subst f18
  ((repeat' (first | apply And.intro | intro h)) <;> first | omega | rfl | trivial | (exfalso; omega) | (congr 1; omega) | (congr 1; (repeat' split) <;> first | rfl | (exfalso; omega))))
def w_xo_put_0_14 : VC := ((bT ++ [(2, 2), (0, 2), (0, 59), ((-2147483648), 2147483647), (0, 2), (0, 2), (1, 60), (1, 60), ((-1), 2), (1, 1), ((-2147483648), 2147483647)]), [(21, [(some 16, 0), (some 24, 0)], [58, 43]), (19, [(some 24, 0), (some 17, 0)], []), (0, [(some 23, 0), (none, 1)], []), (20, [(some 23, 0), (some 14, 0)], [46]), (1, [(some 22, 0), (none, 0)], []), (20, [(some 22, 0), (some 14, 0)], [46]), (0, [(some 14, 0), (none, 2)], []), (0, [(none, 0), (none, 0)], []), (1, [(none, 1), (none, 0)], []), (3, [(some 21, (-1)), (some 16, 0)], []), (20, [(some 21, 0), (some 14, 0)], [45]), (3, [(some 20, 0), (none, 1)], []), (20, [(some 20, 0), (some 14, 0)], [45]), (3, [(none, 1), (none, 0)], []), (3, [(some 16, 0), (none, 0)], []), (0, [(some 19, 0), (some 15, 0)], []), (20, [(some 19, 0), (some 14, 0)], [46]), (0, [(none, 0), (none, 0)], []), (1, [(some 18, 0), (none, (-1))], []), (20, [(some 18, 0), (some 14, 0)], [46]), (1, [(none, 1), (none, 0)], []), (3, [(none, 2), (some 15, 0)], []), (3, [(some 15, 0), (none, 0)], []), (1, [(none, 1), (none, 0)], []), (3, [(none, 3), (some 14, 0)], []), (3, [(some 14, 0), (none, 0)], [])], (131, [(none, 1), (some 14, 0), (some 15, 0), (some 16, 0), (some 17, 0), (some 13, 0), (some 13, 0)], [45, 46, 41, 42, 43, 44, 41, 42, 58, 44]))
set_option maxRecDepth 20000 in
theorem v_xo_put_0_14 {PT : PTy} (hp : HP8 PT) : vcOk PT w_xo_put_0_14 := vc_iv [(13, 0, 5), (14, 2, 2), (15, 0, 2), (16, 0, 59), (17, (-2147483648), 2147483647), (18, 0, 2), (19, 0, 2), (20, 1, 60), (21, 1, 60), (22, (-1), 2), (23, 1, 1), (24, (-2147483648), 2147483647)] [41, 42, 43, 44, 45, 46, 58] (by decide +kernel) (fun ρ α => by
  intro r13 g13 b13 r14 g14 b14 r15 g15 b15 r16 g16 b16 r17 g17 b17 r18 g18 b18 r19 g19 b19 r20 g20 b20 r21 g21 b21 r22 g22 b22 r23 g23 b23 r24 g24 b24 a41 h41 a42 h42 a43 h43 a44 h44 a45 h45 a46 h46 a58 h58 f0 f1 f2 f3 f4 f5 f6 f7 f8 f9 f10 f11 f12 f13 f14 f15 f16 f17 f18 f19 f20 f21 f22 f23 f24 f25 tt
  clear f7 f8 f11 f13 f14 f17 f18 f20 f21 f22 f23 f24 f25
  have e131 : PT 131 = P_puX := pe131_8 hp
  simp only [hF0, hF1, hF3, hF19, hF20, hF21, hFp_131, e131, P_puX, den_s, den_c, Int.add_zero, List.map_cons, List.map_nil, g13.eq, g14.eq, g15.eq, g16.eq, g17.eq, g18.eq, g19.eq, g20.eq, g21.eq, g22.eq, g23.eq, g24.eq, h41, h42, h43, h44, h45, h46, h58] at f0 f1 f2 f3 f4 f5 f6 f9 f10 f12 f15 f16 f19 ⊢
  subst f0
  subst f1
  subst f3
  subst f5
  subst f10
  subst f12
  subst f16
  subst f19
  ((repeat' (first | apply And.intro | intro h)) <;> first | omega | rfl | trivial | (exfalso; omega) | (congr 1; omega) | (congr 1; (repeat' split) <;> first | rfl | (exfalso; omega))))
def w_xo_put_0_15 : VC := ((bT ++ [(2, 2), (0, 2), (0, 59), ((-2147483648), 2147483647), (0, 2), (0, 2), (1, 60), (1, 60), (0, 0), ((-2147483648), 2147483647)]), [(21, [(some 16, 0), (some 23, 0)], [58, 43]), (18, [(some 23, 0), (some 17, 0)], []), (0, [(some 22, 0), (none, 0)], []), (20, [(some 22, 0), (some 14, 0)], [46]), (0, [(some 14, 0), (none, 2)], []), (0, [(none, 0), (none, 0)], []), (1, [(none, 1), (none, 0)], []), (3, [(some 21, (-1)), (some 16, 0)], []), (20, [(some 21, 0), (some 14, 0)], [45]), (3, [(some 20, 0), (none, 1)], []), (20, [(some 20, 0), (some 14, 0)], [45]), (3, [(none, 1), (none, 0)], []), (3, [(some 16, 0), (none, 0)], []), (0, [(some 19, 0), (some 15, 0)], []), (20, [(some 19, 0), (some 14, 0)], [46]), (0, [(none, 0), (none, 0)], []), (1, [(some 18, 0), (none, (-1))], []), (20, [(some 18, 0), (some 14, 0)], [46]), (1, [(none, 1), (none, 0)], []), (3, [(none, 2), (some 15, 0)], []), (3, [(some 15, 0), (none, 0)], []), (1, [(none, 1), (none, 0)], []), (3, [(none, 3), (some 14, 0)], []), (3, [(some 14, 0), (none, 0)], [])], (131, [(none, 1), (some 14, 0), (some 15, 0), (some 16, 0), (some 17, 0), (some 13, 0), (some 13, 0)], [45, 46, 41, 42, 43, 44, 41, 42, 58, 44]))
set_option maxRecDepth 20000 in
theorem v_xo_put_0_15 {PT : PTy} (hp : HP8 PT) : vcOk PT w_xo_put_0_15 := vc_iv [(13, 0, 5), (14, 2, 2), (15, 0, 2), (16, 0, 59), (17, (-2147483648), 2147483647), (18, 0, 2), (19, 0, 2), (20, 1, 60), (21, 1, 60), (22, 0, 0), (23, (-2147483648), 2147483647)] [41, 42, 43, 44, 45, 46, 58] (by decide +kernel) (fun ρ α => by
  intro r13 g13 b13 r14 g14 b14 r15 g15 b15 r16 g16 b16 r17 g17 b17 r18 g18 b18 r19 g19 b19 r20 g20 b20 r21 g21 b21 r22 g22 b22 r23 g23 b23 a41 h41 a42 h42 a43 h43 a44 h44 a45 h45 a46 h46 a58 h58 f0 f1 f2 f3 f4 f5 f6 f7 f8 f9 f10 f11 f12 f13 f14 f15 f16 f17 f18 f19 f20 f21 f22 f23 tt
  clear f5 f6 f9 f11 f12 f15 f16 f18 f19 f20 f21 f22 f23
  have e131 : PT 131 = P_puX := pe131_8 hp
  simp only [hF0, hF3, hF18, hF20, hF21, hFp_131, e131, P_puX, den_s, den_c, Int.add_zero, List.map_cons, List.map_nil, g13.eq, g14.eq, g15.eq, g16.eq, g17.eq, g18.eq, g19.eq, g20.eq, g21.eq, g22.eq, g23.eq, h41, h42, h43, h44, h45, h46, h58] at f0 f1 f2 f3 f4 f7 f8 f10 f13 f14 f17 ⊢
  subst f0
  subst f1
  subst f3
  subst f8
  subst f10
  subst f14
  subst f17
  ((repeat' (first | apply And.intro | intro h)) <;> first | omega | rfl | trivial | (exfalso; omega) | (congr 1; omega) | (congr 1; (repeat' split) <;> first | rfl | (exfalso; omega))))
def w_xo_put_0_16 : VC := ((bT ++ [(3, 3), (0, 2), (0, 59), ((-2147483648), 2147483647), (0, 2), (0, 2), (1, 60), (1, 60), ((-1), 2), ((-1), 2)]), [(21, [(some 16, 0), (some 17, 0)], [58, 44]), (1, [(some 23, 0), (none, 1)], []), (20, [(some 23, 0), (some 14, 0)], [46]), (1, [(some 22, 0), (none, 0)], []), (20, [(some 22, 0), (some 14, 0)], [46]), (0, [(some 14, 0), (none, 3)], []), (0, [(none, 0), (none, 0)], []), (1, [(none, 1), (none, 0)], []), (3, [(some 21, (-1)), (some 16, 0)], []), (20, [(some 21, 0), (some 14, 0)], [45]), (3, [(some 20, 0), (none, 1)], []), (20, [(some 20, 0), (some 14, 0)], [45]), (3, [(none, 1), (none, 0)], []), (3, [(some 16, 0), (none, 0)], []), (0, [(some 19, 0), (some 15, 0)], []), (20, [(some 19, 0), (some 14, 0)], [46]), (0, [(none, 0), (none, 0)], []), (1, [(some 18, 0), (none, (-1))], []), (20, [(some 18, 0), (some 14, 0)], [46]), (1, [(none, 1), (none, 0)], []), (3, [(none, 2), (some 15, 0)], []), (3, [(some 15, 0), (none, 0)], []), (1, [(none, 1), (none, 0)], []), (3, [(none, 3), (some 14, 0)], []), (3, [(some 14, 0), (none, 0)], [])], (131, [(none, 1), (some 14, 0), (some 15, 0), (some 16, 0), (some 17, 0), (some 13, 0), (some 13, 0)], [45, 46, 41, 42, 43, 44, 41, 42, 43, 58]))
set_option maxRecDepth 20000 in
theorem v_xo_put_0_16 {PT : PTy} (hp : HP8 PT) : vcOk PT w_xo_put_0_16 := vc_iv [(13, 0, 5), (14, 3, 3), (15, 0, 2), (16, 0, 59), (17, (-2147483648), 2147483647), (18, 0, 2), (19, 0, 2), (20, 1, 60), (21, 1, 60), (22, (-1), 2), (23, (-1), 2)] [41, 42, 43, 44, 45, 46, 58] (by decide +kernel) (fun ρ α => by
  intro r13 g13 b13 r14 g14 b14 r15 g15 b15 r16 g16 b16 r17 g17 b17 r18 g18 b18 r19 g19 b19 r20 g20 b20 r21 g21 b21 r22 g22 b22 r23 g23 b23 a41 h41 a42 h42 a43 h43 a44 h44 a45 h45 a46 h46 a58 h58 f0 f1 f2 f3 f4 f5 f6 f7 f8 f9 f10 f11 f12 f13 f14 f15 f16 f17 f18 f19 f20 f21 f22 f23 f24 tt
  clear f6 f7 f10 f12 f13 f16 f17 f19 f20 f21 f22 f23 f24
  have e131 : PT 131 = P_puX := pe131_8 hp
  simp only [hF0, hF1, hF3, hF20, hF21, hFp_131, e131, P_puX, den_s, den_c, Int.add_zero, List.map_cons, List.map_nil, g13.eq, g14.eq, g15.eq, g16.eq, g17.eq, g18.eq, g19.eq, g20.eq, g21.eq, g22.eq, g23.eq, h41, h42, h43, h44, h45, h46, h58] at f0 f1 f2 f3 f4 f5 f8 f9 f11 f14 f15 f18 ⊢
  subst f0
  subst f2
  subst f4
  subst f9
  subst f11
  subst f15
  subst f18
  ((repeat' (first | apply And.intro | intro h)) <;> first | omega | rfl | trivial | (exfalso; omega) | (congr 1; omega) | (congr 1; (repeat' split) <;> first | rfl | (exfalso; omega))))
def w_xo_put_0_17 : VC := ((bT ++ [(3, 3), (0, 2), (0, 59), ((-2147483648), 2147483647), (0, 2), (0, 2), (1, 60), (1, 60), ((-1), 2), (1, 1), ((-2147483648), 2147483647)]), [(21, [(some 16, 0), (some 24, 0)], [58, 44]), (19, [(some 24, 0), (some 17, 0)], []), (0, [(some 23, 0), (none, 1)], []), (20, [(some 23, 0), (some 14, 0)], [46]), (1, [(some 22, 0), (none, 0)], []), (20, [(some 22, 0), (some 14, 0)], [46]), (0, [(some 14, 0), (none, 3)], []), (0, [(none, 0), (none, 0)], []), (1, [(none, 1), (none, 0)], []), (3, [(some 21, (-1)), (some 16, 0)], []), (20, [(some 21, 0), (some 14, 0)], [45]), (3, [(some 20, 0), (none, 1)], []), (20, [(some 20, 0), (some 14, 0)], [45]), (3, [(none, 1), (none, 0)], []), (3, [(some 16, 0), (none, 0)], []), (0, [(some 19, 0), (some 15, 0)], []), (20, [(some 19, 0), (some 14, 0)], [46]), (0, [(none, 0), (none, 0)], []), (1, [(some 18, 0), (none, (-1))], []), (20, [(some 18, 0), (some 14, 0)], [46]), (1, [(none, 1), (none, 0)], []), (3, [(none, 2), (some 15, 0)], []), (3, [(some 15, 0), (none, 0)], []), (1, [(none, 1), (none, 0)], []), (3, [(none, 3), (some 14, 0)], []), (3, [(some 14, 0), (none, 0)], [])], (131, [(none, 1), (some 14, 0), (some 15, 0), (some 16, 0), (some 17, 0), (some 13, 0), (some 13, 0)], [45, 46, 41, 42, 43, 44, 41, 42, 43, 58]))
set_option maxRecDepth 20000 in
theorem v_xo_put_0_17 {PT : PTy} (hp : HP8 PT) : vcOk PT w_xo_put_0_17 := vc_iv [(13, 0, 5), (14, 3, 3), (15, 0, 2), (16, 0, 59), (17, (-2147483648), 2147483647), (18, 0, 2), (19, 0, 2), (20, 1, 60), (21, 1, 60), (22, (-1), 2), (23, 1, 1), (24, (-2147483648), 2147483647)] [41, 42, 43, 44, 45, 46, 58] (by decide +kernel) (fun ρ α => by
  intro r13 g13 b13 r14 g14 b14 r15 g15 b15 r16 g16 b16 r17 g17 b17 r18 g18 b18 r19 g19 b19 r20 g20 b20 r21 g21 b21 r22 g22 b22 r23 g23 b23 r24 g24 b24 a41 h41 a42 h42 a43 h43 a44 h44 a45 h45 a46 h46 a58 h58 f0 f1 f2 f3 f4 f5 f6 f7 f8 f9 f10 f11 f12 f13 f14 f15 f16 f17 f18 f19 f20 f21 f22 f23 f24 f25 tt
  clear f7 f8 f11 f13 f14 f17 f18 f20 f21 f22 f23 f24 f25
  have e131 : PT 131 = P_puX := pe131_8 hp
  simp only [hF0, hF1, hF3, hF19, hF20, hF21, hFp_131, e131, P_puX, den_s, den_c, Int.add_zero, List.map_cons, List.map_nil, g13.eq, g14.eq, g15.eq, g16.eq, g17.eq, g18.eq, g19.eq, g20.eq, g21.eq, g22.eq, g23.eq, g24.eq, h41, h42, h43, h44, h45, h46, h58] at f0 f1 f2 f3 f4 f5 f6 f9 f10 f12 f15 f16 f19 ⊢
  subst f0
  subst f1
  subst f3
  subst f5
  subst f10
  subst f12
  subst f16
  subst f19
  ((repeat' (first | apply And.intro | intro h)) <;> first | omega | rfl | trivial | (exfalso; omega) | (congr 1; omega) | (congr 1; (repeat' split) <;> first | rfl | (exfalso; omega))))
def w_xo_put_0_18 : VC := ((bT ++ [(3, 3), (0, 2), (0, 59), ((-2147483648), 2147483647), (0, 2), (0, 2), (1, 60), (1, 60), (0, 0), ((-2147483648), 2147483647)]), [(21, [(some 16, 0), (some 23, 0)], [58, 44]), (18, [(some 23, 0), (some 17, 0)], []), (0, [(some 22, 0), (none, 0)], []), (20, [(some 22, 0), (some 14, 0)], [46]), (0, [(some 14, 0), (none, 3)], []), (0, [(none, 0), (none, 0)], []), (1, [(none, 1), (none, 0)], []), (3, [(some 21, (-1)), (some 16, 0)], []), (20, [(some 21, 0), (some 14, 0)], [45]), (3, [(some 20, 0), (none, 1)], []), (20, [(some 20, 0), (some 14, 0)], [45]), (3, [(none, 1), (none, 0)], []), (3, [(some 16, 0), (none, 0)], []), (0, [(some 19, 0), (some 15, 0)], []), (20, [(some 19, 0), (some 14, 0)], [46]), (0, [(none, 0), (none, 0)], []), (1, [(some 18, 0), (none, (-1))], []), (20, [(some 18, 0), (some 14, 0)], [46]), (1, [(none, 1), (none, 0)], []), (3, [(none, 2), (some 15, 0)], []), (3, [(some 15, 0), (none, 0)], []), (1, [(none, 1), (none, 0)], []), (3, [(none, 3), (some 14, 0)], []), (3, [(some 14, 0), (none, 0)], [])], (131, [(none, 1), (some 14, 0), (some 15, 0), (some 16, 0), (some 17, 0), (some 13, 0), (some 13, 0)], [45, 46, 41, 42, 43, 44, 41, 42, 43, 58]))
set_option maxRecDepth 20000 in
theorem v_xo_put_0_18 {PT : PTy} (hp : HP8 PT) : vcOk PT w_xo_put_0_18 := vc_iv [(13, 0, 5), (14, 3, 3), (15, 0, 2), (16, 0, 59), (17, (-2147483648), 2147483647), (18, 0, 2), (19, 0, 2), (20, 1, 60), (21, 1, 60), (22, 0, 0), (23, (-2147483648), 2147483647)] [41, 42, 43, 44, 45, 46, 58] (by decide +kernel) (fun ρ α => by
  intro r13 g13 b13 r14 g14 b14 r15 g15 b15 r16 g16 b16 r17 g17 b17 r18 g18 b18 r19 g19 b19 r20 g20 b20 r21 g21 b21 r22 g22 b22 r23 g23 b23 a41 h41 a42 h42 a43 h43 a44 h44 a45 h45 a46 h46 a58 h58 f0 f1 f2 f3 f4 f5 f6 f7 f8 f9 f10 f11 f12 f13 f14 f15 f16 f17 f18 f19 f20 f21 f22 f23 tt
  clear f5 f6 f9 f11 f12 f15 f16 f18 f19 f20 f21 f22 f23
  have e131 : PT 131 = P_puX := pe131_8 hp
  simp only [hF0, hF3, hF18, hF20, hF21, hFp_131, e131, P_puX, den_s, den_c, Int.add_zero, List.map_cons, List.map_nil, g13.eq, g14.eq, g15.eq, g16.eq, g17.eq, g18.eq, g19.eq, g20.eq, g21.eq, g22.eq, g23.eq, h41, h42, h43, h44, h45, h46, h58] at f0 f1 f2 f3 f4 f7 f8 f10 f13 f14 f17 ⊢
  subst f0
  subst f1
  subst f3
  subst f8
  subst f10
  subst f14
  subst f17
  ((repeat' (first | apply And.intro | intro h)) <;> first | omega | rfl | trivial | (exfalso; omega) | (congr 1; omega) | (congr 1; (repeat' split) <;> first | rfl | (exfalso; omega))))
def w_xo_put_0_19 : VC := ((bT ++ [(0, 3), (0, 2), ((-2147483648), 2147483647), ((-2147483648), 2147483647), (0, 2), ((-1), 2)]), [(1, [(none, 3), (none, 0)], []), (1, [(some 19, 0), (some 15, 0)], []), (20, [(some 19, 0), (some 14, 0)], [46]), (0, [(none, 0), (none, 0)], []), (1, [(some 18, 0), (none, (-1))], []), (20, [(some 18, 0), (some 14, 0)], [46]), (1, [(none, 1), (none, 0)], []), (3, [(none, 2), (some 15, 0)], []), (3, [(some 15, 0), (none, 0)], []), (1, [(none, 1), (none, 0)], []), (3, [(none, 3), (some 14, 0)], []), (3, [(some 14, 0), (none, 0)], [])], (131, [(none, (-13)), (some 14, 0), (some 15, 0), (some 16, 0), (some 17, 0), (some 13, 0), (none, 3)], [45, 46, 41, 42, 43, 44, 41, 42, 43, 44]))
set_option maxRecDepth 20000 in
theorem v_xo_put_0_19 {PT : PTy} (hp : HP8 PT) : vcOk PT w_xo_put_0_19 := vc_iv [(13, 0, 5), (14, 0, 3), (15, 0, 2), (16, (-2147483648), 2147483647), (17, (-2147483648), 2147483647), (18, 0, 2), (19, (-1), 2)] [41, 42, 43, 44, 45, 46] (by decide +kernel) (fun ρ α => by
  intro r13 g13 b13 r14 g14 b14 r15 g15 b15 r16 g16 b16 r17 g17 b17 r18 g18 b18 r19 g19 b19 a41 h41 a42 h42 a43 h43 a44 h44 a45 h45 a46 h46 f0 f1 f2 f3 f4 f5 f6 f7 f8 f9 f10 f11 tt
  clear f0 f3 f4 f6 f7 f8 f9 f10 f11
  have e131 : PT 131 = P_puX := pe131_8 hp
  simp only [hF1, hF20, hFp_131, e131, P_puX, den_s, den_c, Int.add_zero, List.map_cons, List.map_nil, g13.eq, g14.eq, g15.eq, g16.eq, g17.eq, g18.eq, g19.eq, h41, h42, h43, h44, h45, h46] at f1 f2 f5 ⊢
  subst f2
  subst f5
  ((repeat' (first | apply And.intro | intro h)) <;> first | omega | rfl | trivial | (exfalso; omega) | (congr 1; omega) | (congr 1; (repeat' split) <;> first | rfl | (exfalso; omega))))
def w_xo_put_0_20 : VC := ((bT ++ [(0, 3), (0, 2), ((-2147483648), 2147483647), ((-2147483648), 2147483647), ((-1), (-1))]), [(1, [(none, 1), (none, 0)], []), (1, [(none, 1), (none, 0)], []), (0, [(some 18, 0), (none, (-1))], []), (20, [(some 18, 0), (some 14, 0)], [46]), (1, [(none, 1), (none, 0)], []), (3, [(none, 2), (some 15, 0)], []), (3, [(some 15, 0), (none, 0)], []), (1, [(none, 1), (none, 0)], []), (3, [(none, 3), (some 14, 0)], []), (3, [(some 14, 0), (none, 0)], [])], (131, [(none, (-11)), (some 14, 0), (some 15, 0), (some 16, 0), (some 17, 0), (some 13, 0), (none, 1)], [45, 46, 41, 42, 43, 44, 41, 42, 43, 44]))
set_option maxRecDepth 20000 in
theorem v_xo_put_0_20 {PT : PTy} (hp : HP8 PT) : vcOk PT w_xo_put_0_20 := vc_iv [(13, 0, 5), (14, 0, 3), (15, 0, 2), (16, (-2147483648), 2147483647), (17, (-2147483648), 2147483647), (18, (-1), (-1))] [41, 42, 43, 44, 45, 46] (by decide +kernel) (fun ρ α => by
  intro r13 g13 b13 r14 g14 b14 r15 g15 b15 r16 g16 b16 r17 g17 b17 r18 g18 b18 a41 h41 a42 h42 a43 h43 a44 h44 a45 h45 a46 h46 f0 f1 f2 f3 f4 f5 f6 f7 f8 f9 tt
  clear f0 f1 f4 f5 f6 f7 f8 f9
  have e131 : PT 131 = P_puX := pe131_8 hp
  simp only [hF0, hF20, hFp_131, e131, P_puX, den_s, den_c, Int.add_zero, List.map_cons, List.map_nil, g13.eq, g14.eq, g15.eq, g16.eq, g17.eq, g18.eq, h41, h42, h43, h44, h45, h46] at f2 f3 ⊢
  subst f3
  ((repeat' (first | apply And.intro | intro h)) <;> first | omega | rfl | trivial | (exfalso; omega) | (congr 1; omega) | (congr 1; (repeat' split) <;> first | rfl | (exfalso; omega))))
set_option maxRecDepth 1000000 in
theorem k_xo_put {PT : PTy} (hp : HP8 PT) : wfX c_xo_put = true ∧ xcOk PT c_xo_put := xctr (xl0) c_xo_put 136 mX6_put rfl h_xo_put (by decide +kernel) (by decide +kernel) (by decide) (vcs_by [w_xo_put_0_0, w_xo_put_0_1, w_xo_put_0_2, w_xo_put_0_3, w_xo_put_0_4, w_xo_put_0_5, w_xo_put_0_6, w_xo_put_0_7, w_xo_put_0_8, w_xo_put_0_9, w_xo_put_0_10, w_xo_put_0_11, w_xo_put_0_12, w_xo_put_0_13, w_xo_put_0_14, w_xo_put_0_15, w_xo_put_0_16, w_xo_put_0_17, w_xo_put_0_18, w_xo_put_0_19, w_xo_put_0_20] (by decide +kernel) (vc (v_xo_put_0_0 hp) (vc (v_xo_put_0_1 hp) (vc (v_xo_put_0_2 hp) (vc (v_xo_put_0_3 hp) (vc (v_xo_put_0_4 hp) (vc (v_xo_put_0_5 hp) (vc (v_xo_put_0_6 hp) (vc (v_xo_put_0_7 hp) (vc (v_xo_put_0_8 hp) (vc (v_xo_put_0_9 hp) (vc (v_xo_put_0_10 hp) (vc (v_xo_put_0_11 hp) (vc (v_xo_put_0_12 hp) (vc (v_xo_put_0_13 hp) (vc (v_xo_put_0_14 hp) (vc (v_xo_put_0_15 hp) (vc (v_xo_put_0_16 hp) (vc (v_xo_put_0_17 hp) (vc (v_xo_put_0_18 hp) (vc (v_xo_put_0_19 hp) (vc (v_xo_put_0_20 hp) vn)))))))))))))))))))))) fmn
def c_yo_put : XC := (190, 2, (bY ++ [((-2147483648), 2147483647), ((-2147483648), 2147483647), ((-2147483648), 2147483647), ((-2147483648), 2147483647)]), [.inr (.inl 0), .inl (some 13, 0), .inl (some 14, 0), .inl (some 15, 0), .inl (some 16, 0)], gY2, [], [((bY ++ [((-2147483648), 2147483647), ((-2147483648), 2147483647), ((-2147483648), 2147483647), ((-2147483648), 2147483647), ((-13), 1), (0, 5)]), some (.inl (some 17, 0)), (hst gY2 [(0, .inr (.inr (.inr (7, [.inr (.inl 1), .inr (.inl 2), .inl (some 2, 0), .inr (.inl 3), .inr (.inl 4), .inl (some 3, 0), .inr (.inl 5), .inr (.inl 6), .inr (.inl 7), .inr (.inl 8), .inl (some 4, 0), .inr (.inl 9), .inr (.inl 10), .inl (some 5, 0), .inr (.inl 11), .inr (.inl 12), .inr (.inl 13), .inl (some 6, 0), .inr (.inl 14), .inr (.inl 15), .inr (.inl 16), .inl (some 8, 0), .inl (some 9, 0), .inr (.inl 17), .inr (.inl 18), .inl (some 10, 0), .inl (some 11, 0), .inr (.inl 19), .inr (.inl 20), .inr (.inl 21), .inr (.inl 22), .inr (.inl 23), .inr (.inl 24), .inr (.inl 25), .inl (some 7, 0), .inr (.inl 26), .inr (.inl 27), .inr (.inl 28), .inr (.inl 29), .inr (.inl 30), .inr (.inl 31), .inr (.inl 32), .inr (.inl 33), .inr (.inl 34), .inl (some 18, 0)]))))]), (ansT 35 [(33, 35)]), 36, [(132, [(some 17, 0), (some 13, 0), (some 14, 0), (some 15, 0), (some 16, 0), (some 12, 0), (some 18, 0)], [30, 31, 32, 33, 35])])])
def h_yo_put : List XH := []
def w_yo_put_0_0 : VC := ((bY ++ [((-2147483648), (-1)), ((-2147483648), 2147483647), ((-2147483648), 2147483647), ((-2147483648), 2147483647)]), [(0, [(none, 0), (none, 0)], []), (2, [(some 13, 0), (none, 0)], [])], (132, [(none, (-2)), (some 13, 0), (some 14, 0), (some 15, 0), (some 16, 0), (some 12, 0), (some 12, 0)], [30, 31, 32, 33, 33]))
theorem pe132_8 {PT : PTy} (hp : HP8 PT) : PT 132 = P_puY := hp.2.2.2.2.2.2.2.2.1
set_option maxRecDepth 20000 in
theorem v_yo_put_0_0 {PT : PTy} (hp : HP8 PT) : vcOk PT w_yo_put_0_0 := vc_iv [(12, 0, 5), (13, (-2147483648), (-1)), (14, (-2147483648), 2147483647), (15, (-2147483648), 2147483647), (16, (-2147483648), 2147483647)] [30, 31, 32, 33] (by decide +kernel) (fun ρ α => by
  intro r12 g12 b12 r13 g13 b13 r14 g14 b14 r15 g15 b15 r16 g16 b16 a30 h30 a31 h31 a32 h32 a33 h33 f0 f1 tt
  clear f0 f1
  have e132 : PT 132 = P_puY := pe132_8 hp
  simp only [hFp_132, e132, P_puY, den_s, den_c, Int.add_zero, List.map_cons, List.map_nil, g12.eq, g13.eq, g14.eq, g15.eq, g16.eq, h30, h31, h32, h33] at ⊢
  ((repeat' (first | apply And.intro | intro h)) <;> first | omega | rfl | trivial | (exfalso; omega) | (congr 1; omega) | (congr 1; (repeat' split) <;> first | rfl | (exfalso; omega))))
def w_yo_put_0_1 : VC := ((bY ++ [(4, 2147483647), ((-2147483648), 2147483647), ((-2147483648), 2147483647), ((-2147483648), 2147483647)]), [(0, [(none, 0), (none, 0)], []), (2, [(none, 3), (some 13, 0)], []), (3, [(some 13, 0), (none, 0)], [])], (132, [(none, (-2)), (some 13, 0), (some 14, 0), (some 15, 0), (some 16, 0), (some 12, 0), (some 12, 0)], [30, 31, 32, 33, 33]))
set_option maxRecDepth 20000 in
theorem v_yo_put_0_1 {PT : PTy} (hp : HP8 PT) : vcOk PT w_yo_put_0_1 := vc_iv [(12, 0, 5), (13, 4, 2147483647), (14, (-2147483648), 2147483647), (15, (-2147483648), 2147483647), (16, (-2147483648), 2147483647)] [30, 31, 32, 33] (by decide +kernel) (fun ρ α => by
  intro r12 g12 b12 r13 g13 b13 r14 g14 b14 r15 g15 b15 r16 g16 b16 a30 h30 a31 h31 a32 h32 a33 h33 f0 f1 f2 tt
  clear f0 f1 f2
  have e132 : PT 132 = P_puY := pe132_8 hp
  simp only [hFp_132, e132, P_puY, den_s, den_c, Int.add_zero, List.map_cons, List.map_nil, g12.eq, g13.eq, g14.eq, g15.eq, g16.eq, h30, h31, h32, h33] at ⊢
  ((repeat' (first | apply And.intro | intro h)) <;> first | omega | rfl | trivial | (exfalso; omega) | (congr 1; omega) | (congr 1; (repeat' split) <;> first | rfl | (exfalso; omega))))
def w_yo_put_0_2 : VC := ((bY ++ [(0, 3), ((-2147483648), (-1)), ((-2147483648), 2147483647), ((-2147483648), 2147483647)]), [(0, [(none, 0), (none, 0)], []), (2, [(some 14, 0), (none, 0)], []), (1, [(none, 1), (none, 0)], []), (3, [(none, 3), (some 13, 0)], []), (3, [(some 13, 0), (none, 0)], [])], (132, [(none, (-2)), (some 13, 0), (some 14, 0), (some 15, 0), (some 16, 0), (some 12, 0), (some 12, 0)], [30, 31, 32, 33, 33]))
set_option maxRecDepth 20000 in
theorem v_yo_put_0_2 {PT : PTy} (hp : HP8 PT) : vcOk PT w_yo_put_0_2 := vc_iv [(12, 0, 5), (13, 0, 3), (14, (-2147483648), (-1)), (15, (-2147483648), 2147483647), (16, (-2147483648), 2147483647)] [30, 31, 32, 33] (by decide +kernel) (fun ρ α => by
  intro r12 g12 b12 r13 g13 b13 r14 g14 b14 r15 g15 b15 r16 g16 b16 a30 h30 a31 h31 a32 h32 a33 h33 f0 f1 f2 f3 f4 tt
  clear f0 f1 f2 f3 f4
  have e132 : PT 132 = P_puY := pe132_8 hp
  simp only [hFp_132, e132, P_puY, den_s, den_c, Int.add_zero, List.map_cons, List.map_nil, g12.eq, g13.eq, g14.eq, g15.eq, g16.eq, h30, h31, h32, h33] at ⊢
  ((repeat' (first | apply And.intro | intro h)) <;> first | omega | rfl | trivial | (exfalso; omega) | (congr 1; omega) | (congr 1; (repeat' split) <;> first | rfl | (exfalso; omega))))
def w_yo_put_0_3 : VC := ((bY ++ [(0, 3), (3, 2147483647), ((-2147483648), 2147483647), ((-2147483648), 2147483647)]), [(0, [(none, 0), (none, 0)], []), (2, [(none, 2), (some 14, 0)], []), (3, [(some 14, 0), (none, 0)], []), (1, [(none, 1), (none, 0)], []), (3, [(none, 3), (some 13, 0)], []), (3, [(some 13, 0), (none, 0)], [])], (132, [(none, (-2)), (some 13, 0), (some 14, 0), (some 15, 0), (some 16, 0), (some 12, 0), (some 12, 0)], [30, 31, 32, 33, 33]))
set_option maxRecDepth 20000 in
theorem v_yo_put_0_3 {PT : PTy} (hp : HP8 PT) : vcOk PT w_yo_put_0_3 := vc_iv [(12, 0, 5), (13, 0, 3), (14, 3, 2147483647), (15, (-2147483648), 2147483647), (16, (-2147483648), 2147483647)] [30, 31, 32, 33] (by decide +kernel) (fun ρ α => by
  intro r12 g12 b12 r13 g13 b13 r14 g14 b14 r15 g15 b15 r16 g16 b16 a30 h30 a31 h31 a32 h32 a33 h33 f0 f1 f2 f3 f4 f5 tt
  clear f0 f1 f2 f3 f4 f5
  have e132 : PT 132 = P_puY := pe132_8 hp
  simp only [hFp_132, e132, P_puY, den_s, den_c, Int.add_zero, List.map_cons, List.map_nil, g12.eq, g13.eq, g14.eq, g15.eq, g16.eq, h30, h31, h32, h33] at ⊢
  ((repeat' (first | apply And.intro | intro h)) <;> first | omega | rfl | trivial | (exfalso; omega) | (congr 1; omega) | (congr 1; (repeat' split) <;> first | rfl | (exfalso; omega))))
def w_yo_put_0_4 : VC := ((bY ++ [(0, 3), (0, 2), ((-2147483648), (-1)), ((-2147483648), 2147483647), (1, 1), (0, 2), (0, 60)]), [(2, [(none, 0), (none, 2)], []), (0, [(none, 0), (none, 0)], []), (2, [(some 15, 0), (none, 0)], []), (20, [(some 19, 0), (some 13, 0)], [32]), (0, [(some 18, 0), (some 14, 0)], []), (20, [(some 18, 0), (some 13, 0)], [31]), (1, [(some 17, 0), (none, 0)], []), (20, [(some 17, 0), (some 13, 0)], [30]), (1, [(none, 1), (none, 0)], []), (3, [(none, 2), (some 14, 0)], []), (3, [(some 14, 0), (none, 0)], []), (1, [(none, 1), (none, 0)], []), (3, [(none, 3), (some 13, 0)], []), (3, [(some 13, 0), (none, 0)], [])], (132, [(none, (-12)), (some 13, 0), (some 14, 0), (some 15, 0), (some 16, 0), (some 12, 0), (none, 2)], [30, 31, 32, 33, 33]))
set_option maxRecDepth 20000 in
theorem v_yo_put_0_4 {PT : PTy} (hp : HP8 PT) : vcOk PT w_yo_put_0_4 := vc_iv [(12, 0, 5), (13, 0, 3), (14, 0, 2), (15, (-2147483648), (-1)), (16, (-2147483648), 2147483647), (17, 1, 1), (18, 0, 2), (19, 0, 60)] [30, 31, 32, 33] (by decide +kernel) (fun ρ α => by
  intro r12 g12 b12 r13 g13 b13 r14 g14 b14 r15 g15 b15 r16 g16 b16 r17 g17 b17 r18 g18 b18 r19 g19 b19 a30 h30 a31 h31 a32 h32 a33 h33 f0 f1 f2 f3 f4 f5 f6 f7 f8 f9 f10 f11 f12 f13 tt
  clear f0 f1 f2 f6 f8 f9 f10 f11 f12 f13
  have e132 : PT 132 = P_puY := pe132_8 hp
  simp only [hF0, hF20, hFp_132, e132, P_puY, den_s, den_c, Int.add_zero, List.map_cons, List.map_nil, g12.eq, g13.eq, g14.eq, g15.eq, g16.eq, g17.eq, g18.eq, g19.eq, h30, h31, h32, h33] at f3 f4 f5 f7 ⊢
  subst f3
  subst f5
  subst f7
  ((repeat' (first | apply And.intro | intro h)) <;> first | omega | rfl | trivial | (exfalso; omega) | (congr 1; omega) | (congr 1; (repeat' split) <;> first | rfl | (exfalso; omega))))
def w_yo_put_0_5 : VC := ((bY ++ [(0, 3), (0, 2), (0, 2147483647), ((-2147483648), 2147483647), (1, 1), (0, 2), (0, 60)]), [(2, [(none, 0), (none, 2)], []), (0, [(none, 0), (none, 0)], []), (2, [(some 19, (-1)), (some 15, 0)], []), (3, [(some 15, 0), (none, 0)], []), (20, [(some 19, 0), (some 13, 0)], [32]), (0, [(some 18, 0), (some 14, 0)], []), (20, [(some 18, 0), (some 13, 0)], [31]), (1, [(some 17, 0), (none, 0)], []), (20, [(some 17, 0), (some 13, 0)], [30]), (1, [(none, 1), (none, 0)], []), (3, [(none, 2), (some 14, 0)], []), (3, [(some 14, 0), (none, 0)], []), (1, [(none, 1), (none, 0)], []), (3, [(none, 3), (some 13, 0)], []), (3, [(some 13, 0), (none, 0)], [])], (132, [(none, (-12)), (some 13, 0), (some 14, 0), (some 15, 0), (some 16, 0), (some 12, 0), (none, 2)], [30, 31, 32, 33, 33]))
set_option maxRecDepth 20000 in
theorem v_yo_put_0_5 {PT : PTy} (hp : HP8 PT) : vcOk PT w_yo_put_0_5 := vc_iv [(12, 0, 5), (13, 0, 3), (14, 0, 2), (15, 0, 2147483647), (16, (-2147483648), 2147483647), (17, 1, 1), (18, 0, 2), (19, 0, 60)] [30, 31, 32, 33] (by decide +kernel) (fun ρ α => by
  intro r12 g12 b12 r13 g13 b13 r14 g14 b14 r15 g15 b15 r16 g16 b16 r17 g17 b17 r18 g18 b18 r19 g19 b19 a30 h30 a31 h31 a32 h32 a33 h33 f0 f1 f2 f3 f4 f5 f6 f7 f8 f9 f10 f11 f12 f13 f14 tt
  clear f0 f1 f3 f7 f9 f10 f11 f12 f13 f14
  have e132 : PT 132 = P_puY := pe132_8 hp
  simp only [hF0, hF2, hF20, hFp_132, e132, P_puY, den_s, den_c, Int.add_zero, List.map_cons, List.map_nil, g12.eq, g13.eq, g14.eq, g15.eq, g16.eq, g17.eq, g18.eq, g19.eq, h30, h31, h32, h33] at f2 f4 f5 f6 f8 ⊢
  subst f4
  subst f6
  subst f8
  ((repeat' (first | apply And.intro | intro h)) <;> first | omega | rfl | trivial | (exfalso; omega) | (congr 1; omega) | (congr 1; (repeat' split) <;> first | rfl | (exfalso; omega))))
def w_yo_put_0_6 : VC := ((bY ++ [(0, 3), (0, 2), (0, 59), ((-2147483648), 2147483647), (1, 1), (0, 2), (1, 60), (0, 180), (0, 239), (1, 2), (0, 2)]), [(21, [(some 21, 0), (some 16, 0)], [35, 33]), (1, [(some 23, 0), (none, 1)], []), (20, [(some 23, 0), (some 13, 0)], [31]), (1, [(some 22, 0), (none, 0)], []), (20, [(some 22, 0), (some 13, 0)], [31]), (4, [(some 21, 0), (some 20, 0), (some 15, 0)], []), (6, [(some 20, 0), (none, 60), (some 13, 0)], []), (3, [(none, 0), (none, 0)], []), (1, [(none, 1), (none, 0)], []), (3, [(some 19, (-1)), (some 15, 0)], []), (3, [(some 15, 0), (none, 0)], []), (20, [(some 19, 0), (some 13, 0)], [32]), (0, [(some 18, 0), (some 14, 0)], []), (20, [(some 18, 0), (some 13, 0)], [31]), (1, [(some 17, 0), (none, 0)], []), (20, [(some 17, 0), (some 13, 0)], [30]), (1, [(none, 1), (none, 0)], []), (3, [(none, 2), (some 14, 0)], []), (3, [(some 14, 0), (none, 0)], []), (1, [(none, 1), (none, 0)], []), (3, [(none, 3), (some 13, 0)], []), (3, [(some 13, 0), (none, 0)], [])], (132, [(none, 1), (some 13, 0), (some 14, 0), (some 15, 0), (some 16, 0), (some 12, 0), (some 12, 0)], [30, 31, 32, 33, 35]))
set_option maxRecDepth 20000 in
theorem v_yo_put_0_6 {PT : PTy} (hp : HP8 PT) : vcOk PT w_yo_put_0_6 := vc_iv [(12, 0, 5), (13, 0, 3), (14, 0, 2), (15, 0, 59), (16, (-2147483648), 2147483647), (17, 1, 1), (18, 0, 2), (19, 1, 60), (20, 0, 180), (21, 0, 239), (22, 1, 2), (23, 0, 2)] [30, 31, 32, 33, 35] (by decide +kernel) (fun ρ α => by
  intro r12 g12 b12 r13 g13 b13 r14 g14 b14 r15 g15 b15 r16 g16 b16 r17 g17 b17 r18 g18 b18 r19 g19 b19 r20 g20 b20 r21 g21 b21 r22 g22 b22 r23 g23 b23 a30 h30 a31 h31 a32 h32 a33 h33 a35 h35 f0 f1 f2 f3 f4 f5 f6 f7 f8 f9 f10 f11 f12 f13 f14 f15 f16 f17 f18 f19 f20 f21 tt
  clear f3 f7 f8 f10 f14 f16 f17 f18 f19 f20 f21
  have e132 : PT 132 = P_puY := pe132_8 hp
  simp only [hF0, hF1, hF3, hF4, hF6, hF20, hF21, hFp_132, e132, P_puY, den_s, den_c, Int.add_zero, List.map_cons, List.map_nil, g12.eq, g13.eq, g14.eq, g15.eq, g16.eq, g17.eq, g18.eq, g19.eq, g20.eq, g21.eq, g22.eq, g23.eq, h30, h31, h32, h33, h35] at f0 f1 f2 f4 f5 f6 f9 f11 f12 f13 f15 ⊢
  subst f0
  subst f2
  subst f4
  subst f5
  subst f6
  subst f11
  subst f13
  subst f15
  ((repeat' (first | apply And.intro | intro h)) <;> first | omega | rfl | trivial | (exfalso; omega) | (congr 1; omega) | (congr 1; (repeat' split) <;> first | rfl | (exfalso; omega))))
def w_yo_put_0_7 : VC := ((bY ++ [(0, 3), (0, 2), (0, 59), ((-2147483648), 2147483647), (1, 1), (0, 2), (1, 60), (0, 180), (0, 239), (1, 2), (1, 1), ((-2147483648), 2147483647)]), [(21, [(some 21, 0), (some 24, 0)], [35, 33]), (19, [(some 24, 0), (some 16, 0)], []), (0, [(some 23, 0), (none, 1)], []), (20, [(some 23, 0), (some 13, 0)], [31]), (1, [(some 22, 0), (none, 0)], []), (20, [(some 22, 0), (some 13, 0)], [31]), (4, [(some 21, 0), (some 20, 0), (some 15, 0)], []), (6, [(some 20, 0), (none, 60), (some 13, 0)], []), (3, [(none, 0), (none, 0)], []), (1, [(none, 1), (none, 0)], []), (3, [(some 19, (-1)), (some 15, 0)], []), (3, [(some 15, 0), (none, 0)], []), (20, [(some 19, 0), (some 13, 0)], [32]), (0, [(some 18, 0), (some 14, 0)], []), (20, [(some 18, 0), (some 13, 0)], [31]), (1, [(some 17, 0), (none, 0)], []), (20, [(some 17, 0), (some 13, 0)], [30]), (1, [(none, 1), (none, 0)], []), (3, [(none, 2), (some 14, 0)], []), (3, [(some 14, 0), (none, 0)], []), (1, [(none, 1), (none, 0)], []), (3, [(none, 3), (some 13, 0)], []), (3, [(some 13, 0), (none, 0)], [])], (132, [(none, 1), (some 13, 0), (some 14, 0), (some 15, 0), (some 16, 0), (some 12, 0), (some 12, 0)], [30, 31, 32, 33, 35]))
set_option maxRecDepth 20000 in
theorem v_yo_put_0_7 {PT : PTy} (hp : HP8 PT) : vcOk PT w_yo_put_0_7 := vc_iv [(12, 0, 5), (13, 0, 3), (14, 0, 2), (15, 0, 59), (16, (-2147483648), 2147483647), (17, 1, 1), (18, 0, 2), (19, 1, 60), (20, 0, 180), (21, 0, 239), (22, 1, 2), (23, 1, 1), (24, (-2147483648), 2147483647)] [30, 31, 32, 33, 35] (by decide +kernel) (fun ρ α => by
  intro r12 g12 b12 r13 g13 b13 r14 g14 b14 r15 g15 b15 r16 g16 b16 r17 g17 b17 r18 g18 b18 r19 g19 b19 r20 g20 b20 r21 g21 b21 r22 g22 b22 r23 g23 b23 r24 g24 b24 a30 h30 a31 h31 a32 h32 a33 h33 a35 h35 f0 f1 f2 f3 f4 f5 f6 f7 f8 f9 f10 f11 f12 f13 f14 f15 f16 f17 f18 f19 f20 f21 f22 tt
  clear f4 f8 f9 f11 f15 f17 f18 f19 f20 f21 f22
  have e132 : PT 132 = P_puY := pe132_8 hp
  simp only [hF0, hF3, hF4, hF6, hF19, hF20, hF21, hFp_132, e132, P_puY, den_s, den_c, Int.add_zero, List.map_cons, List.map_nil, g12.eq, g13.eq, g14.eq, g15.eq, g16.eq, g17.eq, g18.eq, g19.eq, g20.eq, g21.eq, g22.eq, g23.eq, g24.eq, h30, h31, h32, h33, h35] at f0 f1 f2 f3 f5 f6 f7 f10 f12 f13 f14 f16 ⊢
  subst f0
  subst f1
  subst f3
  subst f5
  subst f6
  subst f7
  subst f12
  subst f14
  subst f16
  ((repeat' (first | apply And.intro | intro h)) <;> first | omega | rfl | trivial | (exfalso; omega) | (congr 1; omega) | (congr 1; (repeat' split) <;> first | rfl | (exfalso; omega))))
def w_yo_put_0_8 : VC := ((bY ++ [(0, 3), (0, 2), (0, 59), ((-2147483648), 2147483647), (1, 1), (0, 2), (1, 60), (0, 180), (0, 239), (0, 0), ((-2147483648), 2147483647)]), [(21, [(some 21, 0), (some 23, 0)], [35, 33]), (18, [(some 23, 0), (some 16, 0)], []), (0, [(some 22, 0), (none, 0)], []), (20, [(some 22, 0), (some 13, 0)], [31]), (4, [(some 21, 0), (some 20, 0), (some 15, 0)], []), (6, [(some 20, 0), (none, 60), (some 13, 0)], []), (3, [(none, 0), (none, 0)], []), (1, [(none, 1), (none, 0)], []), (3, [(some 19, (-1)), (some 15, 0)], []), (3, [(some 15, 0), (none, 0)], []), (20, [(some 19, 0), (some 13, 0)], [32]), (0, [(some 18, 0), (some 14, 0)], []), (20, [(some 18, 0), (some 13, 0)], [31]), (1, [(some 17, 0), (none, 0)], []), (20, [(some 17, 0), (some 13, 0)], [30]), (1, [(none, 1), (none, 0)], []), (3, [(none, 2), (some 14, 0)], []), (3, [(some 14, 0), (none, 0)], []), (1, [(none, 1), (none, 0)], []), (3, [(none, 3), (some 13, 0)], []), (3, [(some 13, 0), (none, 0)], [])], (132, [(none, 1), (some 13, 0), (some 14, 0), (some 15, 0), (some 16, 0), (some 12, 0), (some 12, 0)], [30, 31, 32, 33, 35]))
set_option maxRecDepth 20000 in
theorem v_yo_put_0_8 {PT : PTy} (hp : HP8 PT) : vcOk PT w_yo_put_0_8 := vc_iv [(12, 0, 5), (13, 0, 3), (14, 0, 2), (15, 0, 59), (16, (-2147483648), 2147483647), (17, 1, 1), (18, 0, 2), (19, 1, 60), (20, 0, 180), (21, 0, 239), (22, 0, 0), (23, (-2147483648), 2147483647)] [30, 31, 32, 33, 35] (by decide +kernel) (fun ρ α => by
  intro r12 g12 b12 r13 g13 b13 r14 g14 b14 r15 g15 b15 r16 g16 b16 r17 g17 b17 r18 g18 b18 r19 g19 b19 r20 g20 b20 r21 g21 b21 r22 g22 b22 r23 g23 b23 a30 h30 a31 h31 a32 h32 a33 h33 a35 h35 f0 f1 f2 f3 f4 f5 f6 f7 f8 f9 f10 f11 f12 f13 f14 f15 f16 f17 f18 f19 f20 tt
  clear f6 f7 f9 f13 f15 f16 f17 f18 f19 f20
  have e132 : PT 132 = P_puY := pe132_8 hp
  simp only [hF0, hF3, hF4, hF6, hF18, hF20, hF21, hFp_132, e132, P_puY, den_s, den_c, Int.add_zero, List.map_cons, List.map_nil, g12.eq, g13.eq, g14.eq, g15.eq, g16.eq, g17.eq, g18.eq, g19.eq, g20.eq, g21.eq, g22.eq, g23.eq, h30, h31, h32, h33, h35] at f0 f1 f2 f3 f4 f5 f8 f10 f11 f12 f14 ⊢
  subst f0
  subst f1
  subst f3
  subst f4
  subst f5
  subst f10
  subst f12
  subst f14
  ((repeat' (first | apply And.intro | intro h)) <;> first | omega | rfl | trivial | (exfalso; omega) | (congr 1; omega) | (congr 1; (repeat' split) <;> first | rfl | (exfalso; omega))))
def w_yo_put_0_9 : VC := ((bY ++ [(0, 3), (0, 2), ((-2147483648), 2147483647), ((-2147483648), 2147483647), (1, 1), (0, 2)]), [(2, [(none, 0), (none, 3)], []), (1, [(some 18, 0), (some 14, 0)], []), (20, [(some 18, 0), (some 13, 0)], [31]), (1, [(some 17, 0), (none, 0)], []), (20, [(some 17, 0), (some 13, 0)], [30]), (1, [(none, 1), (none, 0)], []), (3, [(none, 2), (some 14, 0)], []), (3, [(some 14, 0), (none, 0)], []), (1, [(none, 1), (none, 0)], []), (3, [(none, 3), (some 13, 0)], []), (3, [(some 13, 0), (none, 0)], [])], (132, [(none, (-13)), (some 13, 0), (some 14, 0), (some 15, 0), (some 16, 0), (some 12, 0), (none, 3)], [30, 31, 32, 33, 33]))
set_option maxRecDepth 20000 in
theorem v_yo_put_0_9 {PT : PTy} (hp : HP8 PT) : vcOk PT w_yo_put_0_9 := vc_iv [(12, 0, 5), (13, 0, 3), (14, 0, 2), (15, (-2147483648), 2147483647), (16, (-2147483648), 2147483647), (17, 1, 1), (18, 0, 2)] [30, 31, 32, 33] (by decide +kernel) (fun ρ α => by
  intro r12 g12 b12 r13 g13 b13 r14 g14 b14 r15 g15 b15 r16 g16 b16 r17 g17 b17 r18 g18 b18 a30 h30 a31 h31 a32 h32 a33 h33 f0 f1 f2 f3 f4 f5 f6 f7 f8 f9 f10 tt
  clear f0 f3 f5 f6 f7 f8 f9 f10
  have e132 : PT 132 = P_puY := pe132_8 hp
  simp only [hF1, hF20, hFp_132, e132, P_puY, den_s, den_c, Int.add_zero, List.map_cons, List.map_nil, g12.eq, g13.eq, g14.eq, g15.eq, g16.eq, g17.eq, g18.eq, h30, h31, h32, h33] at f1 f2 f4 ⊢
  subst f2
  subst f4
  ((repeat' (first | apply And.intro | intro h)) <;> first | omega | rfl | trivial | (exfalso; omega) | (congr 1; omega) | (congr 1; (repeat' split) <;> first | rfl | (exfalso; omega))))
def w_yo_put_0_10 : VC := ((bY ++ [(0, 3), (0, 2), ((-2147483648), 2147483647), ((-2147483648), 2147483647), (0, 0)]), [(2, [(none, 0), (none, 1)], []), (0, [(some 17, 0), (none, 0)], []), (20, [(some 17, 0), (some 13, 0)], [30]), (1, [(none, 1), (none, 0)], []), (3, [(none, 2), (some 14, 0)], []), (3, [(some 14, 0), (none, 0)], []), (1, [(none, 1), (none, 0)], []), (3, [(none, 3), (some 13, 0)], []), (3, [(some 13, 0), (none, 0)], [])], (132, [(none, (-11)), (some 13, 0), (some 14, 0), (some 15, 0), (some 16, 0), (some 12, 0), (none, 1)], [30, 31, 32, 33, 33]))
set_option maxRecDepth 20000 in
theorem v_yo_put_0_10 {PT : PTy} (hp : HP8 PT) : vcOk PT w_yo_put_0_10 := vc_iv [(12, 0, 5), (13, 0, 3), (14, 0, 2), (15, (-2147483648), 2147483647), (16, (-2147483648), 2147483647), (17, 0, 0)] [30, 31, 32, 33] (by decide +kernel) (fun ρ α => by
  intro r12 g12 b12 r13 g13 b13 r14 g14 b14 r15 g15 b15 r16 g16 b16 r17 g17 b17 a30 h30 a31 h31 a32 h32 a33 h33 f0 f1 f2 f3 f4 f5 f6 f7 f8 tt
  clear f0 f3 f4 f5 f6 f7 f8
  have e132 : PT 132 = P_puY := pe132_8 hp
  simp only [hF0, hF20, hFp_132, e132, P_puY, den_s, den_c, Int.add_zero, List.map_cons, List.map_nil, g12.eq, g13.eq, g14.eq, g15.eq, g16.eq, g17.eq, h30, h31, h32, h33] at f1 f2 ⊢
  subst f2
  ((repeat' (first | apply And.intro | intro h)) <;> first | omega | rfl | trivial | (exfalso; omega) | (congr 1; omega) | (congr 1; (repeat' split) <;> first | rfl | (exfalso; omega))))
set_option maxRecDepth 1000000 in
theorem k_yo_put {PT : PTy} (hp : HP8 PT) : wfX c_yo_put = true ∧ xcOk PT c_yo_put := xctr (xl0) c_yo_put 122 mX7_put rfl h_yo_put (by decide +kernel) (by decide +kernel) (by decide) (vcs_by [w_yo_put_0_0, w_yo_put_0_1, w_yo_put_0_2, w_yo_put_0_3, w_yo_put_0_4, w_yo_put_0_5, w_yo_put_0_6, w_yo_put_0_7, w_yo_put_0_8, w_yo_put_0_9, w_yo_put_0_10] (by decide +kernel) (vc (v_yo_put_0_0 hp) (vc (v_yo_put_0_1 hp) (vc (v_yo_put_0_2 hp) (vc (v_yo_put_0_3 hp) (vc (v_yo_put_0_4 hp) (vc (v_yo_put_0_5 hp) (vc (v_yo_put_0_6 hp) (vc (v_yo_put_0_7 hp) (vc (v_yo_put_0_8 hp) (vc (v_yo_put_0_9 hp) (vc (v_yo_put_0_10 hp) vn)))))))))))) fmn
def c_xo_get : XC := (75, 2, (bT ++ [((-2147483648), 2147483647), ((-2147483648), 2147483647), ((-2147483648), 2147483647)]), [.inr (.inl 0), .inl (some 14, 0), .inl (some 15, 0), .inl (some 16, 0)], (gX 999), [], [((bT ++ [((-2147483648), 2147483647), ((-2147483648), 2147483647), ((-2147483648), 2147483647), ((-2147483648), 2147483647), (0, 5)]), some (.inl (some 17, 0)), (hst (gX 999) [(0, .inr (.inr (.inr (6, [.inr (.inl 1), .inr (.inl 3), .inr (.inl 5), .inr (.inl 6), .inr (.inl 9), .inr (.inl 14), .inr (.inl 18), .inr (.inl 22), .inr (.inl 31), .inr (.inl 35), .inr (.inl 39), .inr (.inl 47), .inl (some 18, 0)]))))]), (List.range 58), 58, [(133, [(some 17, 0), (some 14, 0), (some 15, 0), (some 16, 0), (some 13, 0), (some 18, 0)], [45, 46, 41, 42, 43, 44])])])
def h_xo_get : List XH := []
def w_xo_get_0_0 : VC := ((bT ++ [((-2147483648), (-1)), ((-2147483648), 2147483647), ((-2147483648), 2147483647)]), [(0, [(none, 0), (none, 0)], []), (2, [(some 14, 0), (none, 0)], [])], (133, [(none, (-2147483648)), (some 14, 0), (some 15, 0), (some 16, 0), (some 13, 0), (some 13, 0)], [45, 46, 41, 42, 43, 44]))
theorem pe133_8 {PT : PTy} (hp : HP8 PT) : PT 133 = P_geX := hp.2.2.2.2.2.2.2.2.2.1
set_option maxRecDepth 20000 in
theorem v_xo_get_0_0 {PT : PTy} (hp : HP8 PT) : vcOk PT w_xo_get_0_0 := vc_iv [(13, 0, 5), (14, (-2147483648), (-1)), (15, (-2147483648), 2147483647), (16, (-2147483648), 2147483647)] [41, 42, 43, 44, 45, 46] (by decide +kernel) (fun ρ α => by
  intro r13 g13 b13 r14 g14 b14 r15 g15 b15 r16 g16 b16 a41 h41 a42 h42 a43 h43 a44 h44 a45 h45 a46 h46 f0 f1 tt
  clear f0 f1
  have e133 : PT 133 = P_geX := pe133_8 hp
  simp only [hFp_133, e133, P_geX, den_s, den_c, Int.add_zero, List.map_cons, List.map_nil, g13.eq, g14.eq, g15.eq, g16.eq, h41, h42, h43, h44, h45, h46] at ⊢
  ((repeat' (first | apply And.intro | intro h)) <;> first | omega | rfl | trivial | (exfalso; omega) | (congr 1; omega) | (congr 1; (repeat' split) <;> first | rfl | (exfalso; omega))))
def w_xo_get_0_1 : VC := ((bT ++ [(4, 2147483647), ((-2147483648), 2147483647), ((-2147483648), 2147483647)]), [(0, [(none, 0), (none, 0)], []), (2, [(none, 3), (some 14, 0)], []), (3, [(some 14, 0), (none, 0)], [])], (133, [(none, (-2147483648)), (some 14, 0), (some 15, 0), (some 16, 0), (some 13, 0), (some 13, 0)], [45, 46, 41, 42, 43, 44]))
set_option maxRecDepth 20000 in
theorem v_xo_get_0_1 {PT : PTy} (hp : HP8 PT) : vcOk PT w_xo_get_0_1 := vc_iv [(13, 0, 5), (14, 4, 2147483647), (15, (-2147483648), 2147483647), (16, (-2147483648), 2147483647)] [41, 42, 43, 44, 45, 46] (by decide +kernel) (fun ρ α => by
  intro r13 g13 b13 r14 g14 b14 r15 g15 b15 r16 g16 b16 a41 h41 a42 h42 a43 h43 a44 h44 a45 h45 a46 h46 f0 f1 f2 tt
  clear f0 f1 f2
  have e133 : PT 133 = P_geX := pe133_8 hp
  simp only [hFp_133, e133, P_geX, den_s, den_c, Int.add_zero, List.map_cons, List.map_nil, g13.eq, g14.eq, g15.eq, g16.eq, h41, h42, h43, h44, h45, h46] at ⊢
  ((repeat' (first | apply And.intro | intro h)) <;> first | omega | rfl | trivial | (exfalso; omega) | (congr 1; omega) | (congr 1; (repeat' split) <;> first | rfl | (exfalso; omega))))
def w_xo_get_0_2 : VC := ((bT ++ [(0, 3), ((-2147483648), (-1)), ((-2147483648), 2147483647)]), [(0, [(none, 0), (none, 0)], []), (2, [(some 15, 0), (none, 0)], []), (1, [(none, 1), (none, 0)], []), (3, [(none, 3), (some 14, 0)], []), (3, [(some 14, 0), (none, 0)], [])], (133, [(none, (-2147483648)), (some 14, 0), (some 15, 0), (some 16, 0), (some 13, 0), (some 13, 0)], [45, 46, 41, 42, 43, 44]))
set_option maxRecDepth 20000 in
theorem v_xo_get_0_2 {PT : PTy} (hp : HP8 PT) : vcOk PT w_xo_get_0_2 := vc_iv [(13, 0, 5), (14, 0, 3), (15, (-2147483648), (-1)), (16, (-2147483648), 2147483647)] [41, 42, 43, 44, 45, 46] (by decide +kernel) (fun ρ α => by
  intro r13 g13 b13 r14 g14 b14 r15 g15 b15 r16 g16 b16 a41 h41 a42 h42 a43 h43 a44 h44 a45 h45 a46 h46 f0 f1 f2 f3 f4 tt
  clear f0 f1 f2 f3 f4
  have e133 : PT 133 = P_geX := pe133_8 hp
  simp only [hFp_133, e133, P_geX, den_s, den_c, Int.add_zero, List.map_cons, List.map_nil, g13.eq, g14.eq, g15.eq, g16.eq, h41, h42, h43, h44, h45, h46] at ⊢
  ((repeat' (first | apply And.intro | intro h)) <;> first | omega | rfl | trivial | (exfalso; omega) | (congr 1; omega) | (congr 1; (repeat' split) <;> first | rfl | (exfalso; omega))))
def w_xo_get_0_3 : VC := ((bT ++ [(0, 3), (3, 2147483647), ((-2147483648), 2147483647)]), [(0, [(none, 0), (none, 0)], []), (2, [(none, 2), (some 15, 0)], []), (3, [(some 15, 0), (none, 0)], []), (1, [(none, 1), (none, 0)], []), (3, [(none, 3), (some 14, 0)], []), (3, [(some 14, 0), (none, 0)], [])], (133, [(none, (-2147483648)), (some 14, 0), (some 15, 0), (some 16, 0), (some 13, 0), (some 13, 0)], [45, 46, 41, 42, 43, 44]))
set_option maxRecDepth 20000 in
theorem v_xo_get_0_3 {PT : PTy} (hp : HP8 PT) : vcOk PT w_xo_get_0_3 := vc_iv [(13, 0, 5), (14, 0, 3), (15, 3, 2147483647), (16, (-2147483648), 2147483647)] [41, 42, 43, 44, 45, 46] (by decide +kernel) (fun ρ α => by
  intro r13 g13 b13 r14 g14 b14 r15 g15 b15 r16 g16 b16 a41 h41 a42 h42 a43 h43 a44 h44 a45 h45 a46 h46 f0 f1 f2 f3 f4 f5 tt
  clear f0 f1 f2 f3 f4 f5
  have e133 : PT 133 = P_geX := pe133_8 hp
  simp only [hFp_133, e133, P_geX, den_s, den_c, Int.add_zero, List.map_cons, List.map_nil, g13.eq, g14.eq, g15.eq, g16.eq, h41, h42, h43, h44, h45, h46] at ⊢
  ((repeat' (first | apply And.intro | intro h)) <;> first | omega | rfl | trivial | (exfalso; omega) | (congr 1; omega) | (congr 1; (repeat' split) <;> first | rfl | (exfalso; omega))))
def w_xo_get_0_4 : VC := ((bT ++ [(0, 3), (0, 2), ((-2147483648), (-1)), (0, 2), (0, 2)]), [(1, [(none, 2), (none, 0)], []), (0, [(none, 0), (none, 0)], []), (2, [(some 16, 0), (none, 0)], []), (0, [(some 18, 0), (some 15, 0)], []), (20, [(some 18, 0), (some 14, 0)], [46]), (0, [(none, 0), (none, 0)], []), (1, [(some 17, 0), (none, (-1))], []), (20, [(some 17, 0), (some 14, 0)], [46]), (1, [(none, 1), (none, 0)], []), (3, [(none, 2), (some 15, 0)], []), (3, [(some 15, 0), (none, 0)], []), (1, [(none, 1), (none, 0)], []), (3, [(none, 3), (some 14, 0)], []), (3, [(some 14, 0), (none, 0)], [])], (133, [(none, (-2147483648)), (some 14, 0), (some 15, 0), (some 16, 0), (some 13, 0), (none, 2)], [45, 46, 41, 42, 43, 44]))
set_option maxRecDepth 20000 in
theorem v_xo_get_0_4 {PT : PTy} (hp : HP8 PT) : vcOk PT w_xo_get_0_4 := vc_iv [(13, 0, 5), (14, 0, 3), (15, 0, 2), (16, (-2147483648), (-1)), (17, 0, 2), (18, 0, 2)] [41, 42, 43, 44, 45, 46] (by decide +kernel) (fun ρ α => by
  intro r13 g13 b13 r14 g14 b14 r15 g15 b15 r16 g16 b16 r17 g17 b17 r18 g18 b18 a41 h41 a42 h42 a43 h43 a44 h44 a45 h45 a46 h46 f0 f1 f2 f3 f4 f5 f6 f7 f8 f9 f10 f11 f12 f13 tt
  clear f0 f1 f2 f5 f6 f8 f9 f10 f11 f12 f13
  have e133 : PT 133 = P_geX := pe133_8 hp
  simp only [hF0, hF20, hFp_133, e133, P_geX, den_s, den_c, Int.add_zero, List.map_cons, List.map_nil, g13.eq, g14.eq, g15.eq, g16.eq, g17.eq, g18.eq, h41, h42, h43, h44, h45, h46] at f3 f4 f7 ⊢
  subst f4
  subst f7
  ((repeat' (first | apply And.intro | intro h)) <;> first | omega | rfl | trivial | (exfalso; omega) | (congr 1; omega) | (congr 1; (repeat' split) <;> first | rfl | (exfalso; omega))))
def w_xo_get_0_5 : VC := ((bT ++ [(0, 3), (0, 2), (0, 2147483647), (0, 2), (0, 2), (0, 0)]), [(1, [(none, 2), (none, 0)], []), (0, [(none, 0), (none, 0)], []), (2, [(some 19, 0), (none, 1)], []), (20, [(some 19, 0), (some 14, 0)], [45]), (3, [(none, 1), (none, 0)], []), (3, [(some 16, 0), (none, 0)], []), (0, [(some 18, 0), (some 15, 0)], []), (20, [(some 18, 0), (some 14, 0)], [46]), (0, [(none, 0), (none, 0)], []), (1, [(some 17, 0), (none, (-1))], []), (20, [(some 17, 0), (some 14, 0)], [46]), (1, [(none, 1), (none, 0)], []), (3, [(none, 2), (some 15, 0)], []), (3, [(some 15, 0), (none, 0)], []), (1, [(none, 1), (none, 0)], []), (3, [(none, 3), (some 14, 0)], []), (3, [(some 14, 0), (none, 0)], [])], (133, [(none, (-2147483648)), (some 14, 0), (some 15, 0), (some 16, 0), (some 13, 0), (none, 2)], [45, 46, 41, 42, 43, 44]))
set_option maxRecDepth 20000 in
theorem v_xo_get_0_5 {PT : PTy} (hp : HP8 PT) : vcOk PT w_xo_get_0_5 := vc_iv [(13, 0, 5), (14, 0, 3), (15, 0, 2), (16, 0, 2147483647), (17, 0, 2), (18, 0, 2), (19, 0, 0)] [41, 42, 43, 44, 45, 46] (by decide +kernel) (fun ρ α => by
  intro r13 g13 b13 r14 g14 b14 r15 g15 b15 r16 g16 b16 r17 g17 b17 r18 g18 b18 r19 g19 b19 a41 h41 a42 h42 a43 h43 a44 h44 a45 h45 a46 h46 f0 f1 f2 f3 f4 f5 f6 f7 f8 f9 f10 f11 f12 f13 f14 f15 f16 tt
  clear f0 f1 f2 f4 f5 f8 f9 f11 f12 f13 f14 f15 f16
  have e133 : PT 133 = P_geX := pe133_8 hp
  simp only [hF0, hF20, hFp_133, e133, P_geX, den_s, den_c, Int.add_zero, List.map_cons, List.map_nil, g13.eq, g14.eq, g15.eq, g16.eq, g17.eq, g18.eq, g19.eq, h41, h42, h43, h44, h45, h46] at f3 f6 f7 f10 ⊢
  subst f3
  subst f7
  subst f10
  ((repeat' (first | apply And.intro | intro h)) <;> first | omega | rfl | trivial | (exfalso; omega) | (congr 1; omega) | (congr 1; (repeat' split) <;> first | rfl | (exfalso; omega))))
def w_xo_get_0_6 : VC := ((bT ++ [(0, 3), (0, 2), (0, 2147483647), (0, 2), (0, 2), (1, 60), (0, 60)]), [(1, [(none, 2), (none, 0)], []), (0, [(none, 0), (none, 0)], []), (2, [(some 20, (-1)), (some 16, 0)], []), (20, [(some 20, 0), (some 14, 0)], [45]), (3, [(some 19, 0), (none, 1)], []), (20, [(some 19, 0), (some 14, 0)], [45]), (3, [(none, 1), (none, 0)], []), (3, [(some 16, 0), (none, 0)], []), (0, [(some 18, 0), (some 15, 0)], []), (20, [(some 18, 0), (some 14, 0)], [46]), (0, [(none, 0), (none, 0)], []), (1, [(some 17, 0), (none, (-1))], []), (20, [(some 17, 0), (some 14, 0)], [46]), (1, [(none, 1), (none, 0)], []), (3, [(none, 2), (some 15, 0)], []), (3, [(some 15, 0), (none, 0)], []), (1, [(none, 1), (none, 0)], []), (3, [(none, 3), (some 14, 0)], []), (3, [(some 14, 0), (none, 0)], [])], (133, [(none, (-2147483648)), (some 14, 0), (some 15, 0), (some 16, 0), (some 13, 0), (none, 2)], [45, 46, 41, 42, 43, 44]))
set_option maxRecDepth 20000 in
theorem v_xo_get_0_6 {PT : PTy} (hp : HP8 PT) : vcOk PT w_xo_get_0_6 := vc_iv [(13, 0, 5), (14, 0, 3), (15, 0, 2), (16, 0, 2147483647), (17, 0, 2), (18, 0, 2), (19, 1, 60), (20, 0, 60)] [41, 42, 43, 44, 45, 46] (by decide +kernel) (fun ρ α => by
  intro r13 g13 b13 r14 g14 b14 r15 g15 b15 r16 g16 b16 r17 g17 b17 r18 g18 b18 r19 g19 b19 r20 g20 b20 a41 h41 a42 h42 a43 h43 a44 h44 a45 h45 a46 h46 f0 f1 f2 f3 f4 f5 f6 f7 f8 f9 f10 f11 f12 f13 f14 f15 f16 f17 f18 tt
  clear f0 f1 f4 f6 f7 f10 f11 f13 f14 f15 f16 f17 f18
  have e133 : PT 133 = P_geX := pe133_8 hp
  simp only [hF0, hF2, hF20, hFp_133, e133, P_geX, den_s, den_c, Int.add_zero, List.map_cons, List.map_nil, g13.eq, g14.eq, g15.eq, g16.eq, g17.eq, g18.eq, g19.eq, g20.eq, h41, h42, h43, h44, h45, h46] at f2 f3 f5 f8 f9 f12 ⊢
  subst f3
  subst f5
  subst f9
  subst f12
  ((repeat' (first | apply And.intro | intro h)) <;> first | omega | rfl | trivial | (exfalso; omega) | (congr 1; omega) | (congr 1; (repeat' split) <;> first | rfl | (exfalso; omega))))
def w_xo_get_0_7 : VC := ((bT ++ [(0, 0), (0, 2), (0, 59), (0, 2), (0, 2), (1, 60), (1, 60), ((-2147483648), 2147483647)]), [(20, [(some 21, 0), (some 16, 0)], [41]), (0, [(some 14, 0), (none, 0)], []), (0, [(none, 0), (none, 0)], []), (1, [(none, 1), (none, 0)], []), (3, [(some 20, (-1)), (some 16, 0)], []), (20, [(some 20, 0), (some 14, 0)], [45]), (3, [(some 19, 0), (none, 1)], []), (20, [(some 19, 0), (some 14, 0)], [45]), (3, [(none, 1), (none, 0)], []), (3, [(some 16, 0), (none, 0)], []), (0, [(some 18, 0), (some 15, 0)], []), (20, [(some 18, 0), (some 14, 0)], [46]), (0, [(none, 0), (none, 0)], []), (1, [(some 17, 0), (none, (-1))], []), (20, [(some 17, 0), (some 14, 0)], [46]), (1, [(none, 1), (none, 0)], []), (3, [(none, 2), (some 15, 0)], []), (3, [(some 15, 0), (none, 0)], []), (1, [(none, 1), (none, 0)], []), (3, [(none, 3), (some 14, 0)], []), (3, [(some 14, 0), (none, 0)], [])], (133, [(some 21, 0), (some 14, 0), (some 15, 0), (some 16, 0), (some 13, 0), (some 13, 0)], [45, 46, 41, 42, 43, 44]))
set_option maxRecDepth 20000 in
theorem v_xo_get_0_7 {PT : PTy} (hp : HP8 PT) : vcOk PT w_xo_get_0_7 := vc_iv [(13, 0, 5), (14, 0, 0), (15, 0, 2), (16, 0, 59), (17, 0, 2), (18, 0, 2), (19, 1, 60), (20, 1, 60), (21, (-2147483648), 2147483647)] [41, 42, 43, 44, 45, 46] (by decide +kernel) (fun ρ α => by
  intro r13 g13 b13 r14 g14 b14 r15 g15 b15 r16 g16 b16 r17 g17 b17 r18 g18 b18 r19 g19 b19 r20 g20 b20 r21 g21 b21 a41 h41 a42 h42 a43 h43 a44 h44 a45 h45 a46 h46 f0 f1 f2 f3 f4 f5 f6 f7 f8 f9 f10 f11 f12 f13 f14 f15 f16 f17 f18 f19 f20 tt
  clear f2 f3 f6 f8 f9 f12 f13 f15 f16 f17 f18 f19 f20
  have e133 : PT 133 = P_geX := pe133_8 hp
  simp only [hF0, hF3, hF20, hFp_133, e133, P_geX, den_s, den_c, Int.add_zero, List.map_cons, List.map_nil, g13.eq, g14.eq, g15.eq, g16.eq, g17.eq, g18.eq, g19.eq, g20.eq, g21.eq, h41, h42, h43, h44, h45, h46] at f0 f1 f4 f5 f7 f10 f11 f14 ⊢
  subst f0
  subst f5
  subst f7
  subst f11
  subst f14
  ((repeat' (first | apply And.intro | intro h)) <;> first | omega | rfl | trivial | (exfalso; omega) | (congr 1; omega) | (congr 1; (repeat' split) <;> first | rfl | (exfalso; omega))))
def w_xo_get_0_8 : VC := ((bT ++ [(1, 1), (0, 2), (0, 59), (0, 2), (0, 2), (1, 60), (1, 60), ((-2147483648), 2147483647)]), [(20, [(some 21, 0), (some 16, 0)], [42]), (0, [(some 14, 0), (none, 1)], []), (0, [(none, 0), (none, 0)], []), (1, [(none, 1), (none, 0)], []), (3, [(some 20, (-1)), (some 16, 0)], []), (20, [(some 20, 0), (some 14, 0)], [45]), (3, [(some 19, 0), (none, 1)], []), (20, [(some 19, 0), (some 14, 0)], [45]), (3, [(none, 1), (none, 0)], []), (3, [(some 16, 0), (none, 0)], []), (0, [(some 18, 0), (some 15, 0)], []), (20, [(some 18, 0), (some 14, 0)], [46]), (0, [(none, 0), (none, 0)], []), (1, [(some 17, 0), (none, (-1))], []), (20, [(some 17, 0), (some 14, 0)], [46]), (1, [(none, 1), (none, 0)], []), (3, [(none, 2), (some 15, 0)], []), (3, [(some 15, 0), (none, 0)], []), (1, [(none, 1), (none, 0)], []), (3, [(none, 3), (some 14, 0)], []), (3, [(some 14, 0), (none, 0)], [])], (133, [(some 21, 0), (some 14, 0), (some 15, 0), (some 16, 0), (some 13, 0), (some 13, 0)], [45, 46, 41, 42, 43, 44]))
set_option maxRecDepth 20000 in
theorem v_xo_get_0_8 {PT : PTy} (hp : HP8 PT) : vcOk PT w_xo_get_0_8 := vc_iv [(13, 0, 5), (14, 1, 1), (15, 0, 2), (16, 0, 59), (17, 0, 2), (18, 0, 2), (19, 1, 60), (20, 1, 60), (21, (-2147483648), 2147483647)] [41, 42, 43, 44, 45, 46] (by decide +kernel) (fun ρ α => by
  intro r13 g13 b13 r14 g14 b14 r15 g15 b15 r16 g16 b16 r17 g17 b17 r18 g18 b18 r19 g19 b19 r20 g20 b20 r21 g21 b21 a41 h41 a42 h42 a43 h43 a44 h44 a45 h45 a46 h46 f0 f1 f2 f3 f4 f5 f6 f7 f8 f9 f10 f11 f12 f13 f14 f15 f16 f17 f18 f19 f20 tt
  clear f2 f3 f6 f8 f9 f12 f13 f15 f16 f17 f18 f19 f20
  have e133 : PT 133 = P_geX := pe133_8 hp
  simp only [hF0, hF3, hF20, hFp_133, e133, P_geX, den_s, den_c, Int.add_zero, List.map_cons, List.map_nil, g13.eq, g14.eq, g15.eq, g16.eq, g17.eq, g18.eq, g19.eq, g20.eq, g21.eq, h41, h42, h43, h44, h45, h46] at f0 f1 f4 f5 f7 f10 f11 f14 ⊢
  subst f0
  subst f5
  subst f7
  subst f11
  subst f14
  ((repeat' (first | apply And.intro | intro h)) <;> first | omega | rfl | trivial | (exfalso; omega) | (congr 1; omega) | (congr 1; (repeat' split) <;> first | rfl | (exfalso; omega))))
def w_xo_get_0_9 : VC := ((bT ++ [(2, 2), (0, 2), (0, 59), (0, 2), (0, 2), (1, 60), (1, 60), ((-2147483648), 2147483647)]), [(20, [(some 21, 0), (some 16, 0)], [43]), (0, [(some 14, 0), (none, 2)], []), (0, [(none, 0), (none, 0)], []), (1, [(none, 1), (none, 0)], []), (3, [(some 20, (-1)), (some 16, 0)], []), (20, [(some 20, 0), (some 14, 0)], [45]), (3, [(some 19, 0), (none, 1)], []), (20, [(some 19, 0), (some 14, 0)], [45]), (3, [(none, 1), (none, 0)], []), (3, [(some 16, 0), (none, 0)], []), (0, [(some 18, 0), (some 15, 0)], []), (20, [(some 18, 0), (some 14, 0)], [46]), (0, [(none, 0), (none, 0)], []), (1, [(some 17, 0), (none, (-1))], []), (20, [(some 17, 0), (some 14, 0)], [46]), (1, [(none, 1), (none, 0)], []), (3, [(none, 2), (some 15, 0)], []), (3, [(some 15, 0), (none, 0)], []), (1, [(none, 1), (none, 0)], []), (3, [(none, 3), (some 14, 0)], []), (3, [(some 14, 0), (none, 0)], [])], (133, [(some 21, 0), (some 14, 0), (some 15, 0), (some 16, 0), (some 13, 0), (some 13, 0)], [45, 46, 41, 42, 43, 44]))
set_option maxRecDepth 20000 in
theorem v_xo_get_0_9 {PT : PTy} (hp : HP8 PT) : vcOk PT w_xo_get_0_9 := vc_iv [(13, 0, 5), (14, 2, 2), (15, 0, 2), (16, 0, 59), (17, 0, 2), (18, 0, 2), (19, 1, 60), (20, 1, 60), (21, (-2147483648), 2147483647)] [41, 42, 43, 44, 45, 46] (by decide +kernel) (fun ρ α => by
  intro r13 g13 b13 r14 g14 b14 r15 g15 b15 r16 g16 b16 r17 g17 b17 r18 g18 b18 r19 g19 b19 r20 g20 b20 r21 g21 b21 a41 h41 a42 h42 a43 h43 a44 h44 a45 h45 a46 h46 f0 f1 f2 f3 f4 f5 f6 f7 f8 f9 f10 f11 f12 f13 f14 f15 f16 f17 f18 f19 f20 tt
  clear f2 f3 f6 f8 f9 f12 f13 f15 f16 f17 f18 f19 f20
  have e133 : PT 133 = P_geX := pe133_8 hp
  simp only [hF0, hF3, hF20, hFp_133, e133, P_geX, den_s, den_c, Int.add_zero, List.map_cons, List.map_nil, g13.eq, g14.eq, g15.eq, g16.eq, g17.eq, g18.eq, g19.eq, g20.eq, g21.eq, h41, h42, h43, h44, h45, h46] at f0 f1 f4 f5 f7 f10 f11 f14 ⊢
  subst f0
  subst f5
  subst f7
  subst f11
  subst f14
  ((repeat' (first | apply And.intro | intro h)) <;> first | omega | rfl | trivial | (exfalso; omega) | (congr 1; omega) | (congr 1; (repeat' split) <;> first | rfl | (exfalso; omega))))
def w_xo_get_0_10 : VC := ((bT ++ [(3, 3), (0, 2), (0, 59), (0, 2), (0, 2), (1, 60), (1, 60), ((-2147483648), 2147483647)]), [(20, [(some 21, 0), (some 16, 0)], [44]), (0, [(some 14, 0), (none, 3)], []), (0, [(none, 0), (none, 0)], []), (1, [(none, 1), (none, 0)], []), (3, [(some 20, (-1)), (some 16, 0)], []), (20, [(some 20, 0), (some 14, 0)], [45]), (3, [(some 19, 0), (none, 1)], []), (20, [(some 19, 0), (some 14, 0)], [45]), (3, [(none, 1), (none, 0)], []), (3, [(some 16, 0), (none, 0)], []), (0, [(some 18, 0), (some 15, 0)], []), (20, [(some 18, 0), (some 14, 0)], [46]), (0, [(none, 0), (none, 0)], []), (1, [(some 17, 0), (none, (-1))], []), (20, [(some 17, 0), (some 14, 0)], [46]), (1, [(none, 1), (none, 0)], []), (3, [(none, 2), (some 15, 0)], []), (3, [(some 15, 0), (none, 0)], []), (1, [(none, 1), (none, 0)], []), (3, [(none, 3), (some 14, 0)], []), (3, [(some 14, 0), (none, 0)], [])], (133, [(some 21, 0), (some 14, 0), (some 15, 0), (some 16, 0), (some 13, 0), (some 13, 0)], [45, 46, 41, 42, 43, 44]))
set_option maxRecDepth 20000 in
theorem v_xo_get_0_10 {PT : PTy} (hp : HP8 PT) : vcOk PT w_xo_get_0_10 := vc_iv [(13, 0, 5), (14, 3, 3), (15, 0, 2), (16, 0, 59), (17, 0, 2), (18, 0, 2), (19, 1, 60), (20, 1, 60), (21, (-2147483648), 2147483647)] [41, 42, 43, 44, 45, 46] (by decide +kernel) (fun ρ α => by
  intro r13 g13 b13 r14 g14 b14 r15 g15 b15 r16 g16 b16 r17 g17 b17 r18 g18 b18 r19 g19 b19 r20 g20 b20 r21 g21 b21 a41 h41 a42 h42 a43 h43 a44 h44 a45 h45 a46 h46 f0 f1 f2 f3 f4 f5 f6 f7 f8 f9 f10 f11 f12 f13 f14 f15 f16 f17 f18 f19 f20 tt
  clear f2 f3 f6 f8 f9 f12 f13 f15 f16 f17 f18 f19 f20
  have e133 : PT 133 = P_geX := pe133_8 hp
  simp only [hF0, hF3, hF20, hFp_133, e133, P_geX, den_s, den_c, Int.add_zero, List.map_cons, List.map_nil, g13.eq, g14.eq, g15.eq, g16.eq, g17.eq, g18.eq, g19.eq, g20.eq, g21.eq, h41, h42, h43, h44, h45, h46] at f0 f1 f4 f5 f7 f10 f11 f14 ⊢
  subst f0
  subst f5
  subst f7
  subst f11
  subst f14
  ((repeat' (first | apply And.intro | intro h)) <;> first | omega | rfl | trivial | (exfalso; omega) | (congr 1; omega) | (congr 1; (repeat' split) <;> first | rfl | (exfalso; omega))))
def w_xo_get_0_11 : VC := ((bT ++ [(0, 3), (0, 2), ((-2147483648), 2147483647), (0, 2), ((-1), 2)]), [(1, [(none, 3), (none, 0)], []), (1, [(some 18, 0), (some 15, 0)], []), (20, [(some 18, 0), (some 14, 0)], [46]), (0, [(none, 0), (none, 0)], []), (1, [(some 17, 0), (none, (-1))], []), (20, [(some 17, 0), (some 14, 0)], [46]), (1, [(none, 1), (none, 0)], []), (3, [(none, 2), (some 15, 0)], []), (3, [(some 15, 0), (none, 0)], []), (1, [(none, 1), (none, 0)], []), (3, [(none, 3), (some 14, 0)], []), (3, [(some 14, 0), (none, 0)], [])], (133, [(none, (-2147483648)), (some 14, 0), (some 15, 0), (some 16, 0), (some 13, 0), (none, 3)], [45, 46, 41, 42, 43, 44]))
set_option maxRecDepth 20000 in
theorem v_xo_get_0_11 {PT : PTy} (hp : HP8 PT) : vcOk PT w_xo_get_0_11 := vc_iv [(13, 0, 5), (14, 0, 3), (15, 0, 2), (16, (-2147483648), 2147483647), (17, 0, 2), (18, (-1), 2)] [41, 42, 43, 44, 45, 46] (by decide +kernel) (fun ρ α => by
  intro r13 g13 b13 r14 g14 b14 r15 g15 b15 r16 g16 b16 r17 g17 b17 r18 g18 b18 a41 h41 a42 h42 a43 h43 a44 h44 a45 h45 a46 h46 f0 f1 f2 f3 f4 f5 f6 f7 f8 f9 f10 f11 tt
  clear f0 f3 f4 f6 f7 f8 f9 f10 f11
  have e133 : PT 133 = P_geX := pe133_8 hp
  simp only [hF1, hF20, hFp_133, e133, P_geX, den_s, den_c, Int.add_zero, List.map_cons, List.map_nil, g13.eq, g14.eq, g15.eq, g16.eq, g17.eq, g18.eq, h41, h42, h43, h44, h45, h46] at f1 f2 f5 ⊢
  subst f2
  subst f5
  ((repeat' (first | apply And.intro | intro h)) <;> first | omega | rfl | trivial | (exfalso; omega) | (congr 1; omega) | (congr 1; (repeat' split) <;> first | rfl | (exfalso; omega))))
def w_xo_get_0_12 : VC := ((bT ++ [(0, 3), (0, 2), ((-2147483648), 2147483647), ((-1), (-1))]), [(1, [(none, 1), (none, 0)], []), (1, [(none, 1), (none, 0)], []), (0, [(some 17, 0), (none, (-1))], []), (20, [(some 17, 0), (some 14, 0)], [46]), (1, [(none, 1), (none, 0)], []), (3, [(none, 2), (some 15, 0)], []), (3, [(some 15, 0), (none, 0)], []), (1, [(none, 1), (none, 0)], []), (3, [(none, 3), (some 14, 0)], []), (3, [(some 14, 0), (none, 0)], [])], (133, [(none, (-2147483648)), (some 14, 0), (some 15, 0), (some 16, 0), (some 13, 0), (none, 1)], [45, 46, 41, 42, 43, 44]))
set_option maxRecDepth 20000 in
theorem v_xo_get_0_12 {PT : PTy} (hp : HP8 PT) : vcOk PT w_xo_get_0_12 := vc_iv [(13, 0, 5), (14, 0, 3), (15, 0, 2), (16, (-2147483648), 2147483647), (17, (-1), (-1))] [41, 42, 43, 44, 45, 46] (by decide +kernel) (fun ρ α => by
  intro r13 g13 b13 r14 g14 b14 r15 g15 b15 r16 g16 b16 r17 g17 b17 a41 h41 a42 h42 a43 h43 a44 h44 a45 h45 a46 h46 f0 f1 f2 f3 f4 f5 f6 f7 f8 f9 tt
  clear f0 f1 f4 f5 f6 f7 f8 f9
  have e133 : PT 133 = P_geX := pe133_8 hp
  simp only [hF0, hF20, hFp_133, e133, P_geX, den_s, den_c, Int.add_zero, List.map_cons, List.map_nil, g13.eq, g14.eq, g15.eq, g16.eq, g17.eq, h41, h42, h43, h44, h45, h46] at f2 f3 ⊢
  subst f3
  ((repeat' (first | apply And.intro | intro h)) <;> first | omega | rfl | trivial | (exfalso; omega) | (congr 1; omega) | (congr 1; (repeat' split) <;> first | rfl | (exfalso; omega))))
set_option maxRecDepth 1000000 in
theorem k_xo_get {PT : PTy} (hp : HP8 PT) : wfX c_xo_get = true ∧ xcOk PT c_xo_get := xctr (xl0) c_xo_get 118 mX6_get rfl h_xo_get (by decide +kernel) (by decide +kernel) (by decide) (vcs_by [w_xo_get_0_0, w_xo_get_0_1, w_xo_get_0_2, w_xo_get_0_3, w_xo_get_0_4, w_xo_get_0_5, w_xo_get_0_6, w_xo_get_0_7, w_xo_get_0_8, w_xo_get_0_9, w_xo_get_0_10, w_xo_get_0_11, w_xo_get_0_12] (by decide +kernel) (vc (v_xo_get_0_0 hp) (vc (v_xo_get_0_1 hp) (vc (v_xo_get_0_2 hp) (vc (v_xo_get_0_3 hp) (vc (v_xo_get_0_4 hp) (vc (v_xo_get_0_5 hp) (vc (v_xo_get_0_6 hp) (vc (v_xo_get_0_7 hp) (vc (v_xo_get_0_8 hp) (vc (v_xo_get_0_9 hp) (vc (v_xo_get_0_10 hp) (vc (v_xo_get_0_11 hp) (vc (v_xo_get_0_12 hp) vn)))))))))))))) fmn
def c_yo_get : XC := (191, 2, (bY ++ [((-2147483648), 2147483647), ((-2147483648), 2147483647), ((-2147483648), 2147483647)]), [.inr (.inl 0), .inl (some 13, 0), .inl (some 14, 0), .inl (some 15, 0)], gY2, [], [((bY ++ [((-2147483648), 2147483647), ((-2147483648), 2147483647), ((-2147483648), 2147483647), ((-2147483648), 2147483647), (0, 5)]), some (.inl (some 16, 0)), (hst gY2 [(0, .inr (.inr (.inr (7, [.inr (.inl 1), .inr (.inl 2), .inl (some 2, 0), .inr (.inl 3), .inr (.inl 4), .inl (some 3, 0), .inr (.inl 5), .inr (.inl 6), .inr (.inl 7), .inr (.inl 8), .inl (some 4, 0), .inr (.inl 9), .inr (.inl 10), .inl (some 5, 0), .inr (.inl 11), .inr (.inl 12), .inr (.inl 13), .inl (some 6, 0), .inr (.inl 14), .inr (.inl 15), .inr (.inl 16), .inl (some 8, 0), .inl (some 9, 0), .inr (.inl 17), .inr (.inl 18), .inl (some 10, 0), .inl (some 11, 0), .inr (.inl 19), .inr (.inl 20), .inr (.inl 21), .inr (.inl 22), .inr (.inl 23), .inr (.inl 24), .inr (.inl 25), .inl (some 7, 0), .inr (.inl 26), .inr (.inl 27), .inr (.inl 28), .inr (.inl 29), .inr (.inl 30), .inr (.inl 31), .inr (.inl 32), .inr (.inl 33), .inr (.inl 34), .inl (some 17, 0)]))))]), (List.range 35), 35, [(134, [(some 16, 0), (some 13, 0), (some 14, 0), (some 15, 0), (some 12, 0), (some 17, 0)], [30, 31, 32, 33])])])
def h_yo_get : List XH := []
def w_yo_get_0_0 : VC := ((bY ++ [((-2147483648), (-1)), ((-2147483648), 2147483647), ((-2147483648), 2147483647)]), [(0, [(none, 0), (none, 0)], []), (2, [(some 13, 0), (none, 0)], [])], (134, [(none, (-2147483648)), (some 13, 0), (some 14, 0), (some 15, 0), (some 12, 0), (some 12, 0)], [30, 31, 32, 33]))
theorem pe134_8 {PT : PTy} (hp : HP8 PT) : PT 134 = P_geY := hp.2.2.2.2.2.2.2.2.2.2.1
set_option maxRecDepth 20000 in
theorem v_yo_get_0_0 {PT : PTy} (hp : HP8 PT) : vcOk PT w_yo_get_0_0 := vc_iv [(12, 0, 5), (13, (-2147483648), (-1)), (14, (-2147483648), 2147483647), (15, (-2147483648), 2147483647)] [30, 31, 32, 33] (by decide +kernel) (fun ρ α => by
  intro r12 g12 b12 r13 g13 b13 r14 g14 b14 r15 g15 b15 a30 h30 a31 h31 a32 h32 a33 h33 f0 f1 tt
  clear f0 f1
  have e134 : PT 134 = P_geY := pe134_8 hp
  simp only [hFp_134, e134, P_geY, den_s, den_c, Int.add_zero, List.map_cons, List.map_nil, g12.eq, g13.eq, g14.eq, g15.eq, h30, h31, h32, h33] at ⊢
  ((repeat' (first | apply And.intro | intro h)) <;> first | omega | rfl | trivial | (exfalso; omega) | (congr 1; omega) | (congr 1; (repeat' split) <;> first | rfl | (exfalso; omega))))
def w_yo_get_0_1 : VC := ((bY ++ [(4, 2147483647), ((-2147483648), 2147483647), ((-2147483648), 2147483647)]), [(0, [(none, 0), (none, 0)], []), (2, [(none, 3), (some 13, 0)], []), (3, [(some 13, 0), (none, 0)], [])], (134, [(none, (-2147483648)), (some 13, 0), (some 14, 0), (some 15, 0), (some 12, 0), (some 12, 0)], [30, 31, 32, 33]))
set_option maxRecDepth 20000 in
theorem v_yo_get_0_1 {PT : PTy} (hp : HP8 PT) : vcOk PT w_yo_get_0_1 := vc_iv [(12, 0, 5), (13, 4, 2147483647), (14, (-2147483648), 2147483647), (15, (-2147483648), 2147483647)] [30, 31, 32, 33] (by decide +kernel) (fun ρ α => by
  intro r12 g12 b12 r13 g13 b13 r14 g14 b14 r15 g15 b15 a30 h30 a31 h31 a32 h32 a33 h33 f0 f1 f2 tt
  clear f0 f1 f2
  have e134 : PT 134 = P_geY := pe134_8 hp
  simp only [hFp_134, e134, P_geY, den_s, den_c, Int.add_zero, List.map_cons, List.map_nil, g12.eq, g13.eq, g14.eq, g15.eq, h30, h31, h32, h33] at ⊢
  ((repeat' (first | apply And.intro | intro h)) <;> first | omega | rfl | trivial | (exfalso; omega) | (congr 1; omega) | (congr 1; (repeat' split) <;> first | rfl | (exfalso; omega))))
def w_yo_get_0_2 : VC := ((bY ++ [(0, 3), ((-2147483648), (-1)), ((-2147483648), 2147483647)]), [(0, [(none, 0), (none, 0)], []), (2, [(some 14, 0), (none, 0)], []), (1, [(none, 1), (none, 0)], []), (3, [(none, 3), (some 13, 0)], []), (3, [(some 13, 0), (none, 0)], [])], (134, [(none, (-2147483648)), (some 13, 0), (some 14, 0), (some 15, 0), (some 12, 0), (some 12, 0)], [30, 31, 32, 33]))
set_option maxRecDepth 20000 in
theorem v_yo_get_0_2 {PT : PTy} (hp : HP8 PT) : vcOk PT w_yo_get_0_2 := vc_iv [(12, 0, 5), (13, 0, 3), (14, (-2147483648), (-1)), (15, (-2147483648), 2147483647)] [30, 31, 32, 33] (by decide +kernel) (fun ρ α => by
  intro r12 g12 b12 r13 g13 b13 r14 g14 b14 r15 g15 b15 a30 h30 a31 h31 a32 h32 a33 h33 f0 f1 f2 f3 f4 tt
  clear f0 f1 f2 f3 f4
  have e134 : PT 134 = P_geY := pe134_8 hp
  simp only [hFp_134, e134, P_geY, den_s, den_c, Int.add_zero, List.map_cons, List.map_nil, g12.eq, g13.eq, g14.eq, g15.eq, h30, h31, h32, h33] at ⊢
  ((repeat' (first | apply And.intro | intro h)) <;> first | omega | rfl | trivial | (exfalso; omega) | (congr 1; omega) | (congr 1; (repeat' split) <;> first | rfl | (exfalso; omega))))
def w_yo_get_0_3 : VC := ((bY ++ [(0, 3), (3, 2147483647), ((-2147483648), 2147483647)]), [(0, [(none, 0), (none, 0)], []), (2, [(none, 2), (some 14, 0)], []), (3, [(some 14, 0), (none, 0)], []), (1, [(none, 1), (none, 0)], []), (3, [(none, 3), (some 13, 0)], []), (3, [(some 13, 0), (none, 0)], [])], (134, [(none, (-2147483648)), (some 13, 0), (some 14, 0), (some 15, 0), (some 12, 0), (some 12, 0)], [30, 31, 32, 33]))
set_option maxRecDepth 20000 in
theorem v_yo_get_0_3 {PT : PTy} (hp : HP8 PT) : vcOk PT w_yo_get_0_3 := vc_iv [(12, 0, 5), (13, 0, 3), (14, 3, 2147483647), (15, (-2147483648), 2147483647)] [30, 31, 32, 33] (by decide +kernel) (fun ρ α => by
  intro r12 g12 b12 r13 g13 b13 r14 g14 b14 r15 g15 b15 a30 h30 a31 h31 a32 h32 a33 h33 f0 f1 f2 f3 f4 f5 tt
  clear f0 f1 f2 f3 f4 f5
  have e134 : PT 134 = P_geY := pe134_8 hp
  simp only [hFp_134, e134, P_geY, den_s, den_c, Int.add_zero, List.map_cons, List.map_nil, g12.eq, g13.eq, g14.eq, g15.eq, h30, h31, h32, h33] at ⊢
  ((repeat' (first | apply And.intro | intro h)) <;> first | omega | rfl | trivial | (exfalso; omega) | (congr 1; omega) | (congr 1; (repeat' split) <;> first | rfl | (exfalso; omega))))
def w_yo_get_0_4 : VC := ((bY ++ [(0, 3), (0, 2), ((-2147483648), (-1)), (1, 1), (0, 2), (0, 60)]), [(2, [(none, 0), (none, 2)], []), (0, [(none, 0), (none, 0)], []), (2, [(some 15, 0), (none, 0)], []), (20, [(some 18, 0), (some 13, 0)], [32]), (0, [(some 17, 0), (some 14, 0)], []), (20, [(some 17, 0), (some 13, 0)], [31]), (1, [(some 16, 0), (none, 0)], []), (20, [(some 16, 0), (some 13, 0)], [30]), (1, [(none, 1), (none, 0)], []), (3, [(none, 2), (some 14, 0)], []), (3, [(some 14, 0), (none, 0)], []), (1, [(none, 1), (none, 0)], []), (3, [(none, 3), (some 13, 0)], []), (3, [(some 13, 0), (none, 0)], [])], (134, [(none, (-2147483648)), (some 13, 0), (some 14, 0), (some 15, 0), (some 12, 0), (none, 2)], [30, 31, 32, 33]))
set_option maxRecDepth 20000 in
theorem v_yo_get_0_4 {PT : PTy} (hp : HP8 PT) : vcOk PT w_yo_get_0_4 := vc_iv [(12, 0, 5), (13, 0, 3), (14, 0, 2), (15, (-2147483648), (-1)), (16, 1, 1), (17, 0, 2), (18, 0, 60)] [30, 31, 32, 33] (by decide +kernel) (fun ρ α => by
  intro r12 g12 b12 r13 g13 b13 r14 g14 b14 r15 g15 b15 r16 g16 b16 r17 g17 b17 r18 g18 b18 a30 h30 a31 h31 a32 h32 a33 h33 f0 f1 f2 f3 f4 f5 f6 f7 f8 f9 f10 f11 f12 f13 tt
  clear f0 f1 f2 f6 f8 f9 f10 f11 f12 f13
  have e134 : PT 134 = P_geY := pe134_8 hp
  simp only [hF0, hF20, hFp_134, e134, P_geY, den_s, den_c, Int.add_zero, List.map_cons, List.map_nil, g12.eq, g13.eq, g14.eq, g15.eq, g16.eq, g17.eq, g18.eq, h30, h31, h32, h33] at f3 f4 f5 f7 ⊢
  subst f3
  subst f5
  subst f7
  ((repeat' (first | apply And.intro | intro h)) <;> first | omega | rfl | trivial | (exfalso; omega) | (congr 1; omega) | (congr 1; (repeat' split) <;> first | rfl | (exfalso; omega))))
def w_yo_get_0_5 : VC := ((bY ++ [(0, 3), (0, 2), (0, 2147483647), (1, 1), (0, 2), (0, 60)]), [(2, [(none, 0), (none, 2)], []), (0, [(none, 0), (none, 0)], []), (2, [(some 18, (-1)), (some 15, 0)], []), (3, [(some 15, 0), (none, 0)], []), (20, [(some 18, 0), (some 13, 0)], [32]), (0, [(some 17, 0), (some 14, 0)], []), (20, [(some 17, 0), (some 13, 0)], [31]), (1, [(some 16, 0), (none, 0)], []), (20, [(some 16, 0), (some 13, 0)], [30]), (1, [(none, 1), (none, 0)], []), (3, [(none, 2), (some 14, 0)], []), (3, [(some 14, 0), (none, 0)], []), (1, [(none, 1), (none, 0)], []), (3, [(none, 3), (some 13, 0)], []), (3, [(some 13, 0), (none, 0)], [])], (134, [(none, (-2147483648)), (some 13, 0), (some 14, 0), (some 15, 0), (some 12, 0), (none, 2)], [30, 31, 32, 33]))
set_option maxRecDepth 20000 in
theorem v_yo_get_0_5 {PT : PTy} (hp : HP8 PT) : vcOk PT w_yo_get_0_5 := vc_iv [(12, 0, 5), (13, 0, 3), (14, 0, 2), (15, 0, 2147483647), (16, 1, 1), (17, 0, 2), (18, 0, 60)] [30, 31, 32, 33] (by decide +kernel) (fun ρ α => by
  intro r12 g12 b12 r13 g13 b13 r14 g14 b14 r15 g15 b15 r16 g16 b16 r17 g17 b17 r18 g18 b18 a30 h30 a31 h31 a32 h32 a33 h33 f0 f1 f2 f3 f4 f5 f6 f7 f8 f9 f10 f11 f12 f13 f14 tt
  clear f0 f1 f3 f7 f9 f10 f11 f12 f13 f14
  have e134 : PT 134 = P_geY := pe134_8 hp
  simp only [hF0, hF2, hF20, hFp_134, e134, P_geY, den_s, den_c, Int.add_zero, List.map_cons, List.map_nil, g12.eq, g13.eq, g14.eq, g15.eq, g16.eq, g17.eq, g18.eq, h30, h31, h32, h33] at f2 f4 f5 f6 f8 ⊢
  subst f4
  subst f6
  subst f8
  ((repeat' (first | apply And.intro | intro h)) <;> first | omega | rfl | trivial | (exfalso; omega) | (congr 1; omega) | (congr 1; (repeat' split) <;> first | rfl | (exfalso; omega))))
def w_yo_get_0_6 : VC := ((bY ++ [(0, 3), (0, 2), (0, 59), (1, 1), (0, 2), (1, 60), (0, 180), (0, 239), ((-2147483648), 2147483647)]), [(20, [(some 21, 0), (some 20, 0)], [33]), (4, [(some 20, 0), (some 19, 0), (some 15, 0)], []), (6, [(some 19, 0), (none, 60), (some 13, 0)], []), (3, [(none, 0), (none, 0)], []), (1, [(none, 1), (none, 0)], []), (3, [(some 18, (-1)), (some 15, 0)], []), (3, [(some 15, 0), (none, 0)], []), (20, [(some 18, 0), (some 13, 0)], [32]), (0, [(some 17, 0), (some 14, 0)], []), (20, [(some 17, 0), (some 13, 0)], [31]), (1, [(some 16, 0), (none, 0)], []), (20, [(some 16, 0), (some 13, 0)], [30]), (1, [(none, 1), (none, 0)], []), (3, [(none, 2), (some 14, 0)], []), (3, [(some 14, 0), (none, 0)], []), (1, [(none, 1), (none, 0)], []), (3, [(none, 3), (some 13, 0)], []), (3, [(some 13, 0), (none, 0)], [])], (134, [(some 21, 0), (some 13, 0), (some 14, 0), (some 15, 0), (some 12, 0), (some 12, 0)], [30, 31, 32, 33]))
set_option maxRecDepth 20000 in
theorem v_yo_get_0_6 {PT : PTy} (hp : HP8 PT) : vcOk PT w_yo_get_0_6 := vc_iv [(12, 0, 5), (13, 0, 3), (14, 0, 2), (15, 0, 59), (16, 1, 1), (17, 0, 2), (18, 1, 60), (19, 0, 180), (20, 0, 239), (21, (-2147483648), 2147483647)] [30, 31, 32, 33] (by decide +kernel) (fun ρ α => by
  intro r12 g12 b12 r13 g13 b13 r14 g14 b14 r15 g15 b15 r16 g16 b16 r17 g17 b17 r18 g18 b18 r19 g19 b19 r20 g20 b20 r21 g21 b21 a30 h30 a31 h31 a32 h32 a33 h33 f0 f1 f2 f3 f4 f5 f6 f7 f8 f9 f10 f11 f12 f13 f14 f15 f16 f17 tt
  clear f3 f4 f6 f10 f12 f13 f14 f15 f16 f17
  have e134 : PT 134 = P_geY := pe134_8 hp
  simp only [hF0, hF3, hF4, hF6, hF20, hFp_134, e134, P_geY, den_s, den_c, Int.add_zero, List.map_cons, List.map_nil, g12.eq, g13.eq, g14.eq, g15.eq, g16.eq, g17.eq, g18.eq, g19.eq, g20.eq, g21.eq, h30, h31, h32, h33] at f0 f1 f2 f5 f7 f8 f9 f11 ⊢
  subst f0
  subst f1
  subst f2
  subst f7
  subst f9
  subst f11
  ((repeat' (first | apply And.intro | intro h)) <;> first | omega | rfl | trivial | (exfalso; omega) | (congr 1; omega) | (congr 1; (repeat' split) <;> first | rfl | (exfalso; omega))))
def w_yo_get_0_7 : VC := ((bY ++ [(0, 3), (0, 2), ((-2147483648), 2147483647), (1, 1), (0, 2)]), [(2, [(none, 0), (none, 3)], []), (1, [(some 17, 0), (some 14, 0)], []), (20, [(some 17, 0), (some 13, 0)], [31]), (1, [(some 16, 0), (none, 0)], []), (20, [(some 16, 0), (some 13, 0)], [30]), (1, [(none, 1), (none, 0)], []), (3, [(none, 2), (some 14, 0)], []), (3, [(some 14, 0), (none, 0)], []), (1, [(none, 1), (none, 0)], []), (3, [(none, 3), (some 13, 0)], []), (3, [(some 13, 0), (none, 0)], [])], (134, [(none, (-2147483648)), (some 13, 0), (some 14, 0), (some 15, 0), (some 12, 0), (none, 3)], [30, 31, 32, 33]))
set_option maxRecDepth 20000 in
theorem v_yo_get_0_7 {PT : PTy} (hp : HP8 PT) : vcOk PT w_yo_get_0_7 := vc_iv [(12, 0, 5), (13, 0, 3), (14, 0, 2), (15, (-2147483648), 2147483647), (16, 1, 1), (17, 0, 2)] [30, 31, 32, 33] (by decide +kernel) (fun ρ α => by
  intro r12 g12 b12 r13 g13 b13 r14 g14 b14 r15 g15 b15 r16 g16 b16 r17 g17 b17 a30 h30 a31 h31 a32 h32 a33 h33 f0 f1 f2 f3 f4 f5 f6 f7 f8 f9 f10 tt
  clear f0 f3 f5 f6 f7 f8 f9 f10
  have e134 : PT 134 = P_geY := pe134_8 hp
  simp only [hF1, hF20, hFp_134, e134, P_geY, den_s, den_c, Int.add_zero, List.map_cons, List.map_nil, g12.eq, g13.eq, g14.eq, g15.eq, g16.eq, g17.eq, h30, h31, h32, h33] at f1 f2 f4 ⊢
  subst f2
  subst f4
  ((repeat' (first | apply And.intro | intro h)) <;> first | omega | rfl | trivial | (exfalso; omega) | (congr 1; omega) | (congr 1; (repeat' split) <;> first | rfl | (exfalso; omega))))
def w_yo_get_0_8 : VC := ((bY ++ [(0, 3), (0, 2), ((-2147483648), 2147483647), (0, 0)]), [(2, [(none, 0), (none, 1)], []), (0, [(some 16, 0), (none, 0)], []), (20, [(some 16, 0), (some 13, 0)], [30]), (1, [(none, 1), (none, 0)], []), (3, [(none, 2), (some 14, 0)], []), (3, [(some 14, 0), (none, 0)], []), (1, [(none, 1), (none, 0)], []), (3, [(none, 3), (some 13, 0)], []), (3, [(some 13, 0), (none, 0)], [])], (134, [(none, (-2147483648)), (some 13, 0), (some 14, 0), (some 15, 0), (some 12, 0), (none, 1)], [30, 31, 32, 33]))
set_option maxRecDepth 20000 in
theorem v_yo_get_0_8 {PT : PTy} (hp : HP8 PT) : vcOk PT w_yo_get_0_8 := vc_iv [(12, 0, 5), (13, 0, 3), (14, 0, 2), (15, (-2147483648), 2147483647), (16, 0, 0)] [30, 31, 32, 33] (by decide +kernel) (fun ρ α => by
  intro r12 g12 b12 r13 g13 b13 r14 g14 b14 r15 g15 b15 r16 g16 b16 a30 h30 a31 h31 a32 h32 a33 h33 f0 f1 f2 f3 f4 f5 f6 f7 f8 tt
  clear f0 f3 f4 f5 f6 f7 f8
  have e134 : PT 134 = P_geY := pe134_8 hp
  simp only [hF0, hF20, hFp_134, e134, P_geY, den_s, den_c, Int.add_zero, List.map_cons, List.map_nil, g12.eq, g13.eq, g14.eq, g15.eq, g16.eq, h30, h31, h32, h33] at f1 f2 ⊢
  subst f2
  ((repeat' (first | apply And.intro | intro h)) <;> first | omega | rfl | trivial | (exfalso; omega) | (congr 1; omega) | (congr 1; (repeat' split) <;> first | rfl | (exfalso; omega))))
set_option maxRecDepth 1000000 in
theorem k_yo_get {PT : PTy} (hp : HP8 PT) : wfX c_yo_get = true ∧ xcOk PT c_yo_get := xctr (xl0) c_yo_get 101 mX7_get rfl h_yo_get (by decide +kernel) (by decide +kernel) (by decide) (vcs_by [w_yo_get_0_0, w_yo_get_0_1, w_yo_get_0_2, w_yo_get_0_3, w_yo_get_0_4, w_yo_get_0_5, w_yo_get_0_6, w_yo_get_0_7, w_yo_get_0_8] (by decide +kernel) (vc (v_yo_get_0_0 hp) (vc (v_yo_get_0_1 hp) (vc (v_yo_get_0_2 hp) (vc (v_yo_get_0_3 hp) (vc (v_yo_get_0_4 hp) (vc (v_yo_get_0_5 hp) (vc (v_yo_get_0_6 hp) (vc (v_yo_get_0_7 hp) (vc (v_yo_get_0_8 hp) vn)))))))))) fmn
/-! ===== copies, keepings out of a sheet ===== -/
theorem cmpI_pos {a b : Int} : (0 < cmpI a b) = (b < a) := by
  unfold cmpI
  apply propext
  split
  · constructor <;> intro <;> omega
  · split <;> constructor <;> intro <;> omega
theorem cmpI_npos {a b : Int} : (cmpI a b ≤ 0) = (a ≤ b) := by
  unfold cmpI
  apply propext
  split
  · constructor <;> intro <;> omega
  · split <;> constructor <;> intro <;> omega
theorem mAdd_in {a b : Int} (h1 : -2147483648 ≤ a) (h2 : a ≤ 2147483647) (h3 : -2147483648 ≤ b) (h4 : b ≤ 2147483647) (h5 : -2147483648 ≤ a + b) (h6 : a + b ≤ 2147483647) : mAdd a b = a + b := by
  unfold mAdd
  have e : ∀ x : Int, -2147483648 ≤ x → x ≤ 2147483647 → (Int32.ofInt x).toInt = x := fun x q1 q2 => by
    rw [Int32.toInt_ofInt, show Int32.size = 4294967296 from rfl]
    exact Int.bmod_eq_of_le (by omega) (by omega)
  rw [toInt_add_in (by rw [e a h1 h2, e b h3 h4]; exact h5) (by rw [e a h1 h2, e b h3 h4]; exact h6), e a h1 h2, e b h3 h4]
theorem upF_cg {a : Int → Int} {b : Int} {f g : Int → Int} {n : Nat} (h : ∀ k : Int, 0 ≤ k → k < n → f k = g k) : upF a b f n = upF a b g n := by
  unfold upF
  exact foldI_cg n (fun i h1 h2 t => by rw [h i h1 h2])
def rowX (s : Int) (r0 r1 r2 r3 : Int → Int) : Int → Int := if s = 0 then r0 else if s = 1 then r1 else if s = 2 then r2 else r3
def okK (d k : Int) : Prop := 0 ≤ d ∧ d ≤ 23 ∧ 0 ≤ k ∧ k ≤ 9
/-- j keepings taken out of a row -/
def reI (j n0 n len : Int) (R D0 O0 D O : Int → Int) : Prop := 0 ≤ j ∧ n = n0 + j ∧ (∀ k, 0 ≤ k → k < j → 2 * k + 1 < len ∧ okK (R (2 * k)) (R (2 * k + 1)) ∧ n0 + k < 8) ∧ D = upF D0 n0 (fun k => R (2 * k)) j.toNat ∧ O = upF O0 n0 (fun k => R (2 * k + 1)) j.toNat
def reE (j n0 n len : Int) (R D0 O0 D O : Int → Int) : Prop := reI j n0 n len R D0 O0 D O ∧ ¬ (2 * j + 1 < len ∧ okK (R (2 * j)) (R (2 * j + 1)) ∧ n < 8)
theorem reI_z {n len : Int} {R D O : Int → Int} : reI 0 n n len R D O D O := ⟨by omega, by omega, fun k h1 h2 => by omega, rfl, rfl⟩
theorem reI_s {j n0 n len x y : Int} {R D0 O0 D O : Int → Int} (h : reI j n0 n len R D0 O0 D O) (h1 : 2 * j + 1 < len) (h2 : okK x y) (h3 : n < 8) (ex : x = R (2 * j)) (ey : y = R (2 * j + 1)) : reI (j + 1) n0 (n + 1) len R D0 O0 (updI D n x) (updI O n y) := by
  obtain ⟨i1, i2, i3, i4, i5⟩ := h
  refine ⟨by omega, by omega, fun k k1 k2 => ?_, ?_, ?_⟩
  · by_cases q : k = j
    · subst q
      rw [← ex, ← ey]
      exact ⟨h1, h2, by omega⟩
    · exact i3 k k1 (by omega)
  · rw [upF_s i1, ← i4, i2, ex]
  · rw [upF_s i1, ← i5, i2, ey]
/-- two rows alike give the same keepings -/
theorem reE_eq {j j' n0 n n' len : Int} {R R' D0 O0 D O D0' O0' D' O' : Int → Int} (h : reE j n0 n len R D0 O0 D O) (h' : reE j' n0 n' len R' D0' O0' D' O') (hR : ∀ i, 0 ≤ i → i < len → R i = R' i) : j = j' := by
  obtain ⟨⟨a1, a2, a3, -, -⟩, a4⟩ := h
  obtain ⟨⟨b1, b2, b3, -, -⟩, b4⟩ := h'
  by_cases q : j < j'
  · exfalso
    obtain ⟨c1, c2, c3⟩ := b3 j a1 q
    rw [← hR (2 * j) (by omega) (by omega), ← hR (2 * j + 1) (by omega) c1] at c2
    exact a4 ⟨c1, c2, by omega⟩
  · by_cases q2 : j' < j
    · exfalso
      obtain ⟨c1, c2, c3⟩ := a3 j' b1 q2
      rw [hR (2 * j') (by omega) (by omega), hR (2 * j' + 1) (by omega) c1] at c2
      exact b4 ⟨c1, c2, by omega⟩
    · omega
/-! ===== copy, count; printed by wip/gen/x ===== -/
def P_cpX (l : List Int) (a : List (Int → Int)) : Prop := match l, a with
  | [r, s, i, t, j, n, g, G], [L, M, r0, r1, r2, r3, q0, q1, q2, q3] => (¬ (0 ≤ s ∧ s ≤ 3 ∧ 0 ≤ t ∧ t ≤ 3) → r = -2 ∧ G = g ∧ q0 = r0 ∧ q1 = r1 ∧ q2 = r2 ∧ q3 = r3) ∧ (0 ≤ s ∧ s ≤ 3 ∧ 0 ≤ t ∧ t ≤ 3 → M s = -1 ∨ M t = -1 → r = -11 ∧ G = 1 ∧ q0 = r0 ∧ q1 = r1 ∧ q2 = r2 ∧ q3 = r3) ∧ (0 ≤ s ∧ s ≤ 3 ∧ 0 ≤ t ∧ t ≤ 3 → ¬ M s = -1 → ¬ M t = -1 → ¬ M s = M t → r = -14 ∧ G = 4 ∧ q0 = r0 ∧ q1 = r1 ∧ q2 = r2 ∧ q3 = r3) ∧ (0 ≤ s ∧ s ≤ 3 ∧ 0 ≤ t ∧ t ≤ 3 → ¬ M s = -1 → ¬ M t = -1 → M s = M t → ¬ (0 ≤ i ∧ 0 ≤ j ∧ 0 ≤ n ∧ i + n ≤ L s ∧ j + n ≤ L t) → r = -12 ∧ G = 2 ∧ q0 = r0 ∧ q1 = r1 ∧ q2 = r2 ∧ q3 = r3) ∧ (0 ≤ s ∧ s ≤ 3 ∧ 0 ≤ t ∧ t ≤ 3 → ¬ M s = -1 → ¬ M t = -1 → M s = M t → 0 ≤ i ∧ 0 ≤ j ∧ 0 ≤ n ∧ i + n ≤ L s ∧ j + n ≤ L t → r = 1 ∧ G = g ∧ (s = 0 → t = 0 → q0 = cpyF r0 i r0 j n ∧ q1 = r1 ∧ q2 = r2 ∧ q3 = r3) ∧ (s = 0 → t = 1 → q1 = cpyF r0 i r1 j n ∧ q0 = r0 ∧ q2 = r2 ∧ q3 = r3) ∧ (s = 0 → t = 2 → q2 = cpyF r0 i r2 j n ∧ q0 = r0 ∧ q1 = r1 ∧ q3 = r3) ∧ (s = 0 → t = 3 → q3 = cpyF r0 i r3 j n ∧ q0 = r0 ∧ q1 = r1 ∧ q2 = r2) ∧ (s = 1 → t = 0 → q0 = cpyF r1 i r0 j n ∧ q1 = r1 ∧ q2 = r2 ∧ q3 = r3) ∧ (s = 1 → t = 1 → q1 = cpyF r1 i r1 j n ∧ q0 = r0 ∧ q2 = r2 ∧ q3 = r3) ∧ (s = 1 → t = 2 → q2 = cpyF r1 i r2 j n ∧ q0 = r0 ∧ q1 = r1 ∧ q3 = r3) ∧ (s = 1 → t = 3 → q3 = cpyF r1 i r3 j n ∧ q0 = r0 ∧ q1 = r1 ∧ q2 = r2) ∧ (s = 2 → t = 0 → q0 = cpyF r2 i r0 j n ∧ q1 = r1 ∧ q2 = r2 ∧ q3 = r3) ∧ (s = 2 → t = 1 → q1 = cpyF r2 i r1 j n ∧ q0 = r0 ∧ q2 = r2 ∧ q3 = r3) ∧ (s = 2 → t = 2 → q2 = cpyF r2 i r2 j n ∧ q0 = r0 ∧ q1 = r1 ∧ q3 = r3) ∧ (s = 2 → t = 3 → q3 = cpyF r2 i r3 j n ∧ q0 = r0 ∧ q1 = r1 ∧ q2 = r2) ∧ (s = 3 → t = 0 → q0 = cpyF r3 i r0 j n ∧ q1 = r1 ∧ q2 = r2 ∧ q3 = r3) ∧ (s = 3 → t = 1 → q1 = cpyF r3 i r1 j n ∧ q0 = r0 ∧ q2 = r2 ∧ q3 = r3) ∧ (s = 3 → t = 2 → q2 = cpyF r3 i r2 j n ∧ q0 = r0 ∧ q1 = r1 ∧ q3 = r3) ∧ (s = 3 → t = 3 → q3 = cpyF r3 i r3 j n ∧ q0 = r0 ∧ q1 = r1 ∧ q2 = r2))
  | _, _ => False
theorem hFp_135 {PT : PTy} {ρ : Nat → Int} {α : Nat → Int → Int} (l : List AN) (a : List Nat) : hF PT ρ α (135, l, a) = PT 135 (l.map (den ρ)) (a.map α) := rfl
def P_cpY (l : List Int) (a : List (Int → Int)) : Prop := match l, a with
  | [r, s, i, t, j, n, g, G], [I, M, L, T, T2] => (¬ (0 ≤ s ∧ s ≤ 3 ∧ 0 ≤ t ∧ t ≤ 3) → r = -2 ∧ G = g ∧ T2 = T) ∧ (0 ≤ s ∧ s ≤ 3 ∧ 0 ≤ t ∧ t ≤ 3 → I s = 0 ∨ I t = 0 → r = -11 ∧ G = 1 ∧ T2 = T) ∧ (0 ≤ s ∧ s ≤ 3 ∧ 0 ≤ t ∧ t ≤ 3 → ¬ I s = 0 → ¬ I t = 0 → ¬ M s = M t → r = -14 ∧ G = 4 ∧ T2 = T) ∧ (0 ≤ s ∧ s ≤ 3 ∧ 0 ≤ t ∧ t ≤ 3 → ¬ I s = 0 → ¬ I t = 0 → M s = M t → ¬ (0 ≤ i ∧ 0 ≤ j ∧ 0 ≤ n ∧ i + n ≤ L s ∧ j + n ≤ L t) → r = -12 ∧ G = 2 ∧ T2 = T) ∧ (0 ≤ s ∧ s ≤ 3 ∧ 0 ≤ t ∧ t ≤ 3 → ¬ I s = 0 → ¬ I t = 0 → M s = M t → 0 ≤ i ∧ 0 ≤ j ∧ 0 ≤ n ∧ i + n ≤ L s ∧ j + n ≤ L t → r = 1 ∧ G = g ∧ T2 = upF T (60 * t + j) (fun k => T (60 * s + i + k)) n.toNat)
  | _, _ => False
theorem hFp_136 {PT : PTy} {ρ : Nat → Int} {α : Nat → Int → Int} (l : List AN) (a : List Nat) : hF PT ρ α (136, l, a) = PT 136 (l.map (den ρ)) (a.map α) := rfl
def P_cpR (l : List Int) (a : List (Int → Int)) : Prop := match l, a with
  | [s, i, t, j, n], [I, M, L] => 0 ≤ s ∧ s ≤ 3 ∧ 0 ≤ t ∧ t ≤ 3 ∧ ¬ I s = 0 ∧ ¬ I t = 0 ∧ M s = M t ∧ 0 ≤ i ∧ 0 ≤ j ∧ 0 ≤ n ∧ i + n ≤ L s ∧ j + n ≤ L t ∧ L s ≤ 60 ∧ L t ≤ 60
  | _, _ => False
theorem hFp_137 {PT : PTy} {ρ : Nat → Int} {α : Nat → Int → Int} (l : List AN) (a : List Nat) : hF PT ρ α (137, l, a) = PT 137 (l.map (den ρ)) (a.map α) := rfl
def P_cpA (l : List Int) (a : List (Int → Int)) : Prop := match l, a with
  | [k, s, i], [T, mv] => ∀ q, 0 ≤ q → q < k → mv q = T (60 * s + i + q)
  | _, _ => False
theorem hFp_138 {PT : PTy} {ρ : Nat → Int} {α : Nat → Int → Int} (l : List AN) (a : List Nat) : hF PT ρ α (138, l, a) = PT 138 (l.map (den ρ)) (a.map α) := rfl
def P_cpB (l : List Int) (a : List (Int → Int)) : Prop := match l, a with
  | [k, t, j], [T, mv, T2] => T2 = upF T (60 * t + j) mv k.toNat
  | _, _ => False
theorem hFp_139 {PT : PTy} {ρ : Nat → Int} {α : Nat → Int → Int} (l : List AN) (a : List Nat) : hF PT ρ α (139, l, a) = PT 139 (l.map (den ρ)) (a.map α) := rfl
def P_rdX (l : List Int) (a : List (Int → Int)) : Prop := match l, a with
  | [r, s, i, n, N, g, G], [L, M, r0, r1, r2, r3, D, O, D2, O2] => (¬ (0 ≤ s ∧ s ≤ 3) → r = -2 ∧ G = g ∧ N = n ∧ D2 = D ∧ O2 = O) ∧ (0 ≤ s ∧ s ≤ 3 → M s = -1 → r = -11 ∧ G = 1 ∧ N = n ∧ D2 = D ∧ O2 = O) ∧ (0 ≤ s ∧ s ≤ 3 → ¬ M s = -1 → G = g ∧ reE r n N (L s) (rowX s r0 r1 r2 r3) D O D2 O2)
  | _, _ => False
theorem hFp_140 {PT : PTy} {ρ : Nat → Int} {α : Nat → Int → Int} (l : List AN) (a : List Nat) : hF PT ρ α (140, l, a) = PT 140 (l.map (den ρ)) (a.map α) := rfl
def P_rdXI (l : List Int) (a : List (Int → Int)) : Prop := match l, a with
  | [j, i, n, N, s], [L, M, r0, r1, r2, r3, D, O, D2, O2] => i = 2 * j ∧ 0 ≤ s ∧ s ≤ 3 ∧ ¬ M s = -1 ∧ reI j n N (L s) (rowX s r0 r1 r2 r3) D O D2 O2
  | _, _ => False
theorem hFp_141 {PT : PTy} {ρ : Nat → Int} {α : Nat → Int → Int} (l : List AN) (a : List Nat) : hF PT ρ α (141, l, a) = PT 141 (l.map (den ρ)) (a.map α) := rfl
def P_rdY (l : List Int) (a : List (Int → Int)) : Prop := match l, a with
  | [r, s, n, N, g, G], [I, L, T, D, O, D2, O2] => (¬ (0 ≤ s ∧ s ≤ 3) → r = -2 ∧ G = g ∧ N = n ∧ D2 = D ∧ O2 = O) ∧ (0 ≤ s ∧ s ≤ 3 → I s = 0 → r = -11 ∧ G = 1 ∧ N = n ∧ D2 = D ∧ O2 = O) ∧ (0 ≤ s ∧ s ≤ 3 → ¬ I s = 0 → G = g ∧ reE r n N (L s) (fun i => T (60 * s + i)) D O D2 O2)
  | _, _ => False
theorem hFp_142 {PT : PTy} {ρ : Nat → Int} {α : Nat → Int → Int} (l : List AN) (a : List Nat) : hF PT ρ α (142, l, a) = PT 142 (l.map (den ρ)) (a.map α) := rfl
def P_rdYI (l : List Int) (a : List (Int → Int)) : Prop := match l, a with
  | [j, n, N, s], [I, L, T, D, O, D2, O2] => 0 ≤ s ∧ s ≤ 3 ∧ ¬ I s = 0 ∧ reI j n N (L s) (fun i => T (60 * s + i)) D O D2 O2
  | _, _ => False
theorem hFp_143 {PT : PTy} {ρ : Nat → Int} {α : Nat → Int → Int} (l : List AN) (a : List Nat) : hF PT ρ α (143, l, a) = PT 143 (l.map (den ρ)) (a.map α) := rfl
def P_coX (l : List Int) (a : List (Int → Int)) : Prop := match l, a with
  | [r, w, n, m, p, q, a, b, c, e, g], [] => (w = 0 → r = n) ∧ (w = 1 → r = m) ∧ (w = 2 → r = p) ∧ (w = 3 → r = q) ∧ (w = 4 → r = a) ∧ (w = 5 → r = b) ∧ (w = 6 → r = c) ∧ (w = 7 → r = e) ∧ (w = 8 → r = g) ∧ (¬ (0 ≤ w ∧ w ≤ 8) → r = -2)
  | _, _ => False
theorem hFp_144 {PT : PTy} {ρ : Nat → Int} {α : Nat → Int → Int} (l : List AN) (a : List Nat) : hF PT ρ α (144, l, a) = PT 144 (l.map (den ρ)) (a.map α) := rfl
def P_coY (l : List Int) (a : List (Int → Int)) : Prop := match l, a with
  | [r, w, a, b, c, e, g], [L, T] => (w = 0 → nP r (L 0) T) ∧ (w = 1 → nV r (L 1) (sh T)) ∧ (w = 2 → r = L 0) ∧ (w = 3 → r = L 1) ∧ (w = 4 → r = a) ∧ (w = 5 → r = b) ∧ (w = 6 → r = c) ∧ (w = 7 → r = e) ∧ (w = 8 → r = g) ∧ (¬ (0 ≤ w ∧ w ≤ 8) → r = -2)
  | _, _ => False
theorem hFp_145 {PT : PTy} {ρ : Nat → Int} {α : Nat → Int → Int} (l : List AN) (a : List Nat) : hF PT ρ α (145, l, a) = PT 145 (l.map (den ρ)) (a.map α) := rfl
def HP9 (PT : PTy) : Prop := HP8 PT ∧ (PT 135 = P_cpX ∧ PT 136 = P_cpY ∧ PT 137 = P_cpR ∧ PT 138 = P_cpA ∧ PT 139 = P_cpB ∧ PT 140 = P_rdX ∧ PT 141 = P_rdXI ∧ PT 142 = P_rdY ∧ PT 143 = P_rdYI ∧ PT 144 = P_coX ∧ PT 145 = P_coY ∧ True)
def c_xo_copy : XC := (76, 2, (bT ++ [((-2147483648), 2147483647), ((-2147483648), 2147483647), ((-2147483648), 2147483647), ((-2147483648), 2147483647), ((-2147483648), 2147483647)]), [.inr (.inl 0), .inl (some 14, 0), .inl (some 15, 0), .inl (some 16, 0), .inl (some 17, 0), .inl (some 18, 0)], (gX 999), [], [((bT ++ [((-2147483648), 2147483647), ((-2147483648), 2147483647), ((-2147483648), 2147483647), ((-2147483648), 2147483647), ((-2147483648), 2147483647), ((-14), 1), (0, 5)]), some (.inl (some 19, 0)), (hst (gX 999) [(0, .inr (.inr (.inr (6, [.inr (.inl 1), .inr (.inl 3), .inr (.inl 5), .inr (.inl 6), .inr (.inl 9), .inr (.inl 14), .inr (.inl 18), .inr (.inl 22), .inr (.inl 31), .inr (.inl 35), .inr (.inl 39), .inr (.inl 47), .inl (some 20, 0)]))))]), (ansT 58 [(41, 58), (42, 59), (43, 60), (44, 61)]), 62, [(135, [(some 19, 0), (some 14, 0), (some 15, 0), (some 16, 0), (some 17, 0), (some 18, 0), (some 13, 0), (some 20, 0)], [45, 46, 41, 42, 43, 44, 58, 59, 60, 61])])])
def h_xo_copy : List XH := []
def w_xo_copy_0_0 : VC := ((bT ++ [((-2147483648), (-1)), ((-2147483648), 2147483647), ((-2147483648), 2147483647), ((-2147483648), 2147483647), ((-2147483648), 2147483647)]), [(0, [(none, 0), (none, 0)], []), (2, [(some 14, 0), (none, 0)], [])], (135, [(none, (-2)), (some 14, 0), (some 15, 0), (some 16, 0), (some 17, 0), (some 18, 0), (some 13, 0), (some 13, 0)], [45, 46, 41, 42, 43, 44, 41, 42, 43, 44]))
theorem pe135_9 {PT : PTy} (hp : HP9 PT) : PT 135 = P_cpX := hp.2.1
set_option maxRecDepth 20000 in
theorem v_xo_copy_0_0 {PT : PTy} (hp : HP9 PT) : vcOk PT w_xo_copy_0_0 := vc_iv [(13, 0, 5), (14, (-2147483648), (-1)), (15, (-2147483648), 2147483647), (16, (-2147483648), 2147483647), (17, (-2147483648), 2147483647), (18, (-2147483648), 2147483647)] [41, 42, 43, 44, 45, 46] (by decide +kernel) (fun ρ α => by
  intro r13 g13 b13 r14 g14 b14 r15 g15 b15 r16 g16 b16 r17 g17 b17 r18 g18 b18 a41 h41 a42 h42 a43 h43 a44 h44 a45 h45 a46 h46 f0 f1 tt
  clear f0 f1
  have e135 : PT 135 = P_cpX := pe135_9 hp
  simp only [hFp_135, e135, P_cpX, den_s, den_c, Int.add_zero, List.map_cons, List.map_nil, g13.eq, g14.eq, g15.eq, g16.eq, g17.eq, g18.eq, h41, h42, h43, h44, h45, h46] at ⊢
  ((repeat' (first | apply And.intro | intro h)) <;> first | omega | rfl | trivial | (exfalso; omega) | (congr 1; omega) | (congr 1; (repeat' split) <;> first | rfl | (exfalso; omega))))
def w_xo_copy_0_1 : VC := ((bT ++ [(4, 2147483647), ((-2147483648), 2147483647), ((-2147483648), 2147483647), ((-2147483648), 2147483647), ((-2147483648), 2147483647)]), [(0, [(none, 0), (none, 0)], []), (2, [(none, 3), (some 14, 0)], []), (3, [(some 14, 0), (none, 0)], [])], (135, [(none, (-2)), (some 14, 0), (some 15, 0), (some 16, 0), (some 17, 0), (some 18, 0), (some 13, 0), (some 13, 0)], [45, 46, 41, 42, 43, 44, 41, 42, 43, 44]))
set_option maxRecDepth 20000 in
theorem v_xo_copy_0_1 {PT : PTy} (hp : HP9 PT) : vcOk PT w_xo_copy_0_1 := vc_iv [(13, 0, 5), (14, 4, 2147483647), (15, (-2147483648), 2147483647), (16, (-2147483648), 2147483647), (17, (-2147483648), 2147483647), (18, (-2147483648), 2147483647)] [41, 42, 43, 44, 45, 46] (by decide +kernel) (fun ρ α => by
  intro r13 g13 b13 r14 g14 b14 r15 g15 b15 r16 g16 b16 r17 g17 b17 r18 g18 b18 a41 h41 a42 h42 a43 h43 a44 h44 a45 h45 a46 h46 f0 f1 f2 tt
  clear f0 f1 f2
  have e135 : PT 135 = P_cpX := pe135_9 hp
  simp only [hFp_135, e135, P_cpX, den_s, den_c, Int.add_zero, List.map_cons, List.map_nil, g13.eq, g14.eq, g15.eq, g16.eq, g17.eq, g18.eq, h41, h42, h43, h44, h45, h46] at ⊢
  ((repeat' (first | apply And.intro | intro h)) <;> first | omega | rfl | trivial | (exfalso; omega) | (congr 1; omega) | (congr 1; (repeat' split) <;> first | rfl | (exfalso; omega))))
def w_xo_copy_0_2 : VC := ((bT ++ [(0, 3), ((-2147483648), 2147483647), ((-2147483648), (-1)), ((-2147483648), 2147483647), ((-2147483648), 2147483647)]), [(0, [(none, 0), (none, 0)], []), (2, [(some 16, 0), (none, 0)], []), (1, [(none, 1), (none, 0)], []), (3, [(none, 3), (some 14, 0)], []), (3, [(some 14, 0), (none, 0)], [])], (135, [(none, (-2)), (some 14, 0), (some 15, 0), (some 16, 0), (some 17, 0), (some 18, 0), (some 13, 0), (some 13, 0)], [45, 46, 41, 42, 43, 44, 41, 42, 43, 44]))
set_option maxRecDepth 20000 in
theorem v_xo_copy_0_2 {PT : PTy} (hp : HP9 PT) : vcOk PT w_xo_copy_0_2 := vc_iv [(13, 0, 5), (14, 0, 3), (15, (-2147483648), 2147483647), (16, (-2147483648), (-1)), (17, (-2147483648), 2147483647), (18, (-2147483648), 2147483647)] [41, 42, 43, 44, 45, 46] (by decide +kernel) (fun ρ α => by
  intro r13 g13 b13 r14 g14 b14 r15 g15 b15 r16 g16 b16 r17 g17 b17 r18 g18 b18 a41 h41 a42 h42 a43 h43 a44 h44 a45 h45 a46 h46 f0 f1 f2 f3 f4 tt
  clear f0 f1 f2 f3 f4
  have e135 : PT 135 = P_cpX := pe135_9 hp
  simp only [hFp_135, e135, P_cpX, den_s, den_c, Int.add_zero, List.map_cons, List.map_nil, g13.eq, g14.eq, g15.eq, g16.eq, g17.eq, g18.eq, h41, h42, h43, h44, h45, h46] at ⊢
  ((repeat' (first | apply And.intro | intro h)) <;> first | omega | rfl | trivial | (exfalso; omega) | (congr 1; omega) | (congr 1; (repeat' split) <;> first | rfl | (exfalso; omega))))
def w_xo_copy_0_3 : VC := ((bT ++ [(0, 3), ((-2147483648), 2147483647), (4, 2147483647), ((-2147483648), 2147483647), ((-2147483648), 2147483647)]), [(0, [(none, 0), (none, 0)], []), (2, [(none, 3), (some 16, 0)], []), (3, [(some 16, 0), (none, 0)], []), (1, [(none, 1), (none, 0)], []), (3, [(none, 3), (some 14, 0)], []), (3, [(some 14, 0), (none, 0)], [])], (135, [(none, (-2)), (some 14, 0), (some 15, 0), (some 16, 0), (some 17, 0), (some 18, 0), (some 13, 0), (some 13, 0)], [45, 46, 41, 42, 43, 44, 41, 42, 43, 44]))
set_option maxRecDepth 20000 in
theorem v_xo_copy_0_3 {PT : PTy} (hp : HP9 PT) : vcOk PT w_xo_copy_0_3 := vc_iv [(13, 0, 5), (14, 0, 3), (15, (-2147483648), 2147483647), (16, 4, 2147483647), (17, (-2147483648), 2147483647), (18, (-2147483648), 2147483647)] [41, 42, 43, 44, 45, 46] (by decide +kernel) (fun ρ α => by
  intro r13 g13 b13 r14 g14 b14 r15 g15 b15 r16 g16 b16 r17 g17 b17 r18 g18 b18 a41 h41 a42 h42 a43 h43 a44 h44 a45 h45 a46 h46 f0 f1 f2 f3 f4 f5 tt
  clear f0 f1 f2 f3 f4 f5
  have e135 : PT 135 = P_cpX := pe135_9 hp
  simp only [hFp_135, e135, P_cpX, den_s, den_c, Int.add_zero, List.map_cons, List.map_nil, g13.eq, g14.eq, g15.eq, g16.eq, g17.eq, g18.eq, h41, h42, h43, h44, h45, h46] at ⊢
  ((repeat' (first | apply And.intro | intro h)) <;> first | omega | rfl | trivial | (exfalso; omega) | (congr 1; omega) | (congr 1; (repeat' split) <;> first | rfl | (exfalso; omega))))
def w_xo_copy_0_4 : VC := ((bT ++ [(0, 3), ((-2147483648), (-1)), (0, 3), ((-2147483648), 2147483647), ((-2147483648), 2147483647), (0, 2), (0, 2), ((-1), 2), ((-1), 2)]), [(0, [(none, 0), (none, 0)], []), (2, [(some 15, 0), (none, 0)], []), (0, [(some 21, 0), (some 22, 0)], []), (20, [(some 22, 0), (some 16, 0)], [46]), (20, [(some 21, 0), (some 14, 0)], [46]), (0, [(none, 0), (none, 0)], []), (1, [(some 20, 0), (none, (-1))], []), (20, [(some 20, 0), (some 16, 0)], [46]), (0, [(none, 0), (none, 0)], []), (1, [(some 19, 0), (none, (-1))], []), (20, [(some 19, 0), (some 14, 0)], [46]), (1, [(none, 1), (none, 0)], []), (3, [(none, 3), (some 16, 0)], []), (3, [(some 16, 0), (none, 0)], []), (1, [(none, 1), (none, 0)], []), (3, [(none, 3), (some 14, 0)], []), (3, [(some 14, 0), (none, 0)], [])], (135, [(none, (-12)), (some 14, 0), (some 15, 0), (some 16, 0), (some 17, 0), (some 18, 0), (some 13, 0), (none, 2)], [45, 46, 41, 42, 43, 44, 41, 42, 43, 44]))
set_option maxRecDepth 20000 in
theorem v_xo_copy_0_4 {PT : PTy} (hp : HP9 PT) : vcOk PT w_xo_copy_0_4 := vc_iv [(13, 0, 5), (14, 0, 3), (15, (-2147483648), (-1)), (16, 0, 3), (17, (-2147483648), 2147483647), (18, (-2147483648), 2147483647), (19, 0, 2), (20, 0, 2), (21, (-1), 2), (22, (-1), 2)] [41, 42, 43, 44, 45, 46] (by decide +kernel) (fun ρ α => by
  intro r13 g13 b13 r14 g14 b14 r15 g15 b15 r16 g16 b16 r17 g17 b17 r18 g18 b18 r19 g19 b19 r20 g20 b20 r21 g21 b21 r22 g22 b22 a41 h41 a42 h42 a43 h43 a44 h44 a45 h45 a46 h46 f0 f1 f2 f3 f4 f5 f6 f7 f8 f9 f10 f11 f12 f13 f14 f15 f16 tt
  clear f0 f1 f5 f6 f8 f9 f11 f12 f13 f14 f15 f16
  have e135 : PT 135 = P_cpX := pe135_9 hp
  simp only [hF0, hF20, hFp_135, e135, P_cpX, den_s, den_c, Int.add_zero, List.map_cons, List.map_nil, g13.eq, g14.eq, g15.eq, g16.eq, g17.eq, g18.eq, g19.eq, g20.eq, g21.eq, g22.eq, h41, h42, h43, h44, h45, h46] at f2 f3 f4 f7 f10 ⊢
  subst f3
  subst f4
  subst f7
  subst f10
  ((repeat' (first | apply And.intro | intro h)) <;> first | omega | rfl | trivial | (exfalso; omega) | (congr 1; omega) | (congr 1; (repeat' split) <;> first | rfl | (exfalso; omega))))
def w_xo_copy_0_5 : VC := ((bT ++ [(0, 3), (0, 2147483647), (0, 3), ((-2147483648), 2147483647), ((-2147483648), (-1)), (0, 2), (0, 2), ((-1), 2), ((-1), 2)]), [(0, [(none, 0), (none, 0)], []), (2, [(some 18, 0), (none, 0)], []), (3, [(some 15, 0), (none, 0)], []), (0, [(some 21, 0), (some 22, 0)], []), (20, [(some 22, 0), (some 16, 0)], [46]), (20, [(some 21, 0), (some 14, 0)], [46]), (0, [(none, 0), (none, 0)], []), (1, [(some 20, 0), (none, (-1))], []), (20, [(some 20, 0), (some 16, 0)], [46]), (0, [(none, 0), (none, 0)], []), (1, [(some 19, 0), (none, (-1))], []), (20, [(some 19, 0), (some 14, 0)], [46]), (1, [(none, 1), (none, 0)], []), (3, [(none, 3), (some 16, 0)], []), (3, [(some 16, 0), (none, 0)], []), (1, [(none, 1), (none, 0)], []), (3, [(none, 3), (some 14, 0)], []), (3, [(some 14, 0), (none, 0)], [])], (135, [(none, (-12)), (some 14, 0), (some 15, 0), (some 16, 0), (some 17, 0), (some 18, 0), (some 13, 0), (none, 2)], [45, 46, 41, 42, 43, 44, 41, 42, 43, 44]))
set_option maxRecDepth 20000 in
theorem v_xo_copy_0_5 {PT : PTy} (hp : HP9 PT) : vcOk PT w_xo_copy_0_5 := vc_iv [(13, 0, 5), (14, 0, 3), (15, 0, 2147483647), (16, 0, 3), (17, (-2147483648), 2147483647), (18, (-2147483648), (-1)), (19, 0, 2), (20, 0, 2), (21, (-1), 2), (22, (-1), 2)] [41, 42, 43, 44, 45, 46] (by decide +kernel) (fun ρ α => by
  intro r13 g13 b13 r14 g14 b14 r15 g15 b15 r16 g16 b16 r17 g17 b17 r18 g18 b18 r19 g19 b19 r20 g20 b20 r21 g21 b21 r22 g22 b22 a41 h41 a42 h42 a43 h43 a44 h44 a45 h45 a46 h46 f0 f1 f2 f3 f4 f5 f6 f7 f8 f9 f10 f11 f12 f13 f14 f15 f16 f17 tt
  clear f0 f1 f2 f6 f7 f9 f10 f12 f13 f14 f15 f16 f17
  have e135 : PT 135 = P_cpX := pe135_9 hp
  simp only [hF0, hF20, hFp_135, e135, P_cpX, den_s, den_c, Int.add_zero, List.map_cons, List.map_nil, g13.eq, g14.eq, g15.eq, g16.eq, g17.eq, g18.eq, g19.eq, g20.eq, g21.eq, g22.eq, h41, h42, h43, h44, h45, h46] at f3 f4 f5 f8 f11 ⊢
  subst f4
  subst f5
  subst f8
  subst f11
  ((repeat' (first | apply And.intro | intro h)) <;> first | omega | rfl | trivial | (exfalso; omega) | (congr 1; omega) | (congr 1; (repeat' split) <;> first | rfl | (exfalso; omega))))
def w_xo_copy_0_6 : VC := ((bT ++ [(0, 3), (0, 2147483647), (0, 3), ((-2147483648), 2147483647), (1, 2147483647), (0, 2), (0, 2), ((-1), 2), ((-1), 2), (0, 60)]), [(0, [(none, 0), (none, 0)], []), (2, [(some 23, 0), (some 18, 0)], []), (20, [(some 23, 0), (some 14, 0)], [45]), (3, [(some 18, 0), (none, 0)], []), (3, [(some 15, 0), (none, 0)], []), (0, [(some 21, 0), (some 22, 0)], []), (20, [(some 22, 0), (some 16, 0)], [46]), (20, [(some 21, 0), (some 14, 0)], [46]), (0, [(none, 0), (none, 0)], []), (1, [(some 20, 0), (none, (-1))], []), (20, [(some 20, 0), (some 16, 0)], [46]), (0, [(none, 0), (none, 0)], []), (1, [(some 19, 0), (none, (-1))], []), (20, [(some 19, 0), (some 14, 0)], [46]), (1, [(none, 1), (none, 0)], []), (3, [(none, 3), (some 16, 0)], []), (3, [(some 16, 0), (none, 0)], []), (1, [(none, 1), (none, 0)], []), (3, [(none, 3), (some 14, 0)], []), (3, [(some 14, 0), (none, 0)], [])], (135, [(none, (-12)), (some 14, 0), (some 15, 0), (some 16, 0), (some 17, 0), (some 18, 0), (some 13, 0), (none, 2)], [45, 46, 41, 42, 43, 44, 41, 42, 43, 44]))
set_option maxRecDepth 20000 in
theorem v_xo_copy_0_6 {PT : PTy} (hp : HP9 PT) : vcOk PT w_xo_copy_0_6 := vc_iv [(13, 0, 5), (14, 0, 3), (15, 0, 2147483647), (16, 0, 3), (17, (-2147483648), 2147483647), (18, 1, 2147483647), (19, 0, 2), (20, 0, 2), (21, (-1), 2), (22, (-1), 2), (23, 0, 60)] [41, 42, 43, 44, 45, 46] (by decide +kernel) (fun ρ α => by
  intro r13 g13 b13 r14 g14 b14 r15 g15 b15 r16 g16 b16 r17 g17 b17 r18 g18 b18 r19 g19 b19 r20 g20 b20 r21 g21 b21 r22 g22 b22 r23 g23 b23 a41 h41 a42 h42 a43 h43 a44 h44 a45 h45 a46 h46 f0 f1 f2 f3 f4 f5 f6 f7 f8 f9 f10 f11 f12 f13 f14 f15 f16 f17 f18 f19 tt
  clear f0 f3 f4 f8 f9 f11 f12 f14 f15 f16 f17 f18 f19
  have e135 : PT 135 = P_cpX := pe135_9 hp
  simp only [hF0, hF2, hF20, hFp_135, e135, P_cpX, den_s, den_c, Int.add_zero, List.map_cons, List.map_nil, g13.eq, g14.eq, g15.eq, g16.eq, g17.eq, g18.eq, g19.eq, g20.eq, g21.eq, g22.eq, g23.eq, h41, h42, h43, h44, h45, h46] at f1 f2 f5 f6 f7 f10 f13 ⊢
  subst f2
  subst f6
  subst f7
  subst f10
  subst f13
  ((repeat' (first | apply And.intro | intro h)) <;> first | omega | rfl | trivial | (exfalso; omega) | (congr 1; omega) | (congr 1; (repeat' split) <;> first | rfl | (exfalso; omega))))
def w_xo_copy_0_7 : VC := ((bT ++ [(0, 3), (0, 2147483647), (0, 3), ((-2147483648), 2147483647), (0, 60), (0, 2), (0, 2), ((-1), 2), ((-1), 2), (0, 60), (0, 60), ((-60), 60)]), [(0, [(none, 0), (none, 0)], []), (2, [(some 25, 0), (some 15, 0)], []), (5, [(some 25, 0), (some 24, 0), (some 18, 0)], []), (20, [(some 24, 0), (some 14, 0)], [45]), (3, [(some 23, 0), (some 18, 0)], []), (20, [(some 23, 0), (some 14, 0)], [45]), (3, [(some 18, 0), (none, 0)], []), (3, [(some 15, 0), (none, 0)], []), (0, [(some 21, 0), (some 22, 0)], []), (20, [(some 22, 0), (some 16, 0)], [46]), (20, [(some 21, 0), (some 14, 0)], [46]), (0, [(none, 0), (none, 0)], []), (1, [(some 20, 0), (none, (-1))], []), (20, [(some 20, 0), (some 16, 0)], [46]), (0, [(none, 0), (none, 0)], []), (1, [(some 19, 0), (none, (-1))], []), (20, [(some 19, 0), (some 14, 0)], [46]), (1, [(none, 1), (none, 0)], []), (3, [(none, 3), (some 16, 0)], []), (3, [(some 16, 0), (none, 0)], []), (1, [(none, 1), (none, 0)], []), (3, [(none, 3), (some 14, 0)], []), (3, [(some 14, 0), (none, 0)], [])], (135, [(none, (-12)), (some 14, 0), (some 15, 0), (some 16, 0), (some 17, 0), (some 18, 0), (some 13, 0), (none, 2)], [45, 46, 41, 42, 43, 44, 41, 42, 43, 44]))
set_option maxRecDepth 20000 in
theorem v_xo_copy_0_7 {PT : PTy} (hp : HP9 PT) : vcOk PT w_xo_copy_0_7 := vc_iv [(13, 0, 5), (14, 0, 3), (15, 0, 2147483647), (16, 0, 3), (17, (-2147483648), 2147483647), (18, 0, 60), (19, 0, 2), (20, 0, 2), (21, (-1), 2), (22, (-1), 2), (23, 0, 60), (24, 0, 60), (25, (-60), 60)] [41, 42, 43, 44, 45, 46] (by decide +kernel) (fun ρ α => by
  intro r13 g13 b13 r14 g14 b14 r15 g15 b15 r16 g16 b16 r17 g17 b17 r18 g18 b18 r19 g19 b19 r20 g20 b20 r21 g21 b21 r22 g22 b22 r23 g23 b23 r24 g24 b24 r25 g25 b25 a41 h41 a42 h42 a43 h43 a44 h44 a45 h45 a46 h46 f0 f1 f2 f3 f4 f5 f6 f7 f8 f9 f10 f11 f12 f13 f14 f15 f16 f17 f18 f19 f20 f21 f22 tt
  clear f0 f6 f7 f11 f12 f14 f15 f17 f18 f19 f20 f21 f22
  have e135 : PT 135 = P_cpX := pe135_9 hp
  simp only [hF0, hF2, hF3, hF5, hF20, hFp_135, e135, P_cpX, den_s, den_c, Int.add_zero, List.map_cons, List.map_nil, g13.eq, g14.eq, g15.eq, g16.eq, g17.eq, g18.eq, g19.eq, g20.eq, g21.eq, g22.eq, g23.eq, g24.eq, g25.eq, h41, h42, h43, h44, h45, h46] at f1 f2 f3 f4 f5 f8 f9 f10 f13 f16 ⊢
  subst f2
  subst f3
  subst f5
  subst f9
  subst f10
  subst f13
  subst f16
  ((repeat' (first | apply And.intro | intro h)) <;> first | omega | rfl | trivial | (exfalso; omega) | (congr 1; omega) | (congr 1; (repeat' split) <;> first | rfl | (exfalso; omega))))
def w_xo_copy_0_8 : VC := ((bT ++ [(0, 3), (0, 60), (0, 3), ((-2147483648), (-1)), (0, 60), (0, 2), (0, 2), ((-1), 2), ((-1), 2), (0, 60), (0, 60), (0, 60)]), [(0, [(none, 0), (none, 0)], []), (2, [(some 17, 0), (none, 0)], []), (1, [(none, 1), (none, 0)], []), (3, [(some 25, 0), (some 15, 0)], []), (5, [(some 25, 0), (some 24, 0), (some 18, 0)], []), (20, [(some 24, 0), (some 14, 0)], [45]), (3, [(some 23, 0), (some 18, 0)], []), (20, [(some 23, 0), (some 14, 0)], [45]), (3, [(some 18, 0), (none, 0)], []), (3, [(some 15, 0), (none, 0)], []), (0, [(some 21, 0), (some 22, 0)], []), (20, [(some 22, 0), (some 16, 0)], [46]), (20, [(some 21, 0), (some 14, 0)], [46]), (0, [(none, 0), (none, 0)], []), (1, [(some 20, 0), (none, (-1))], []), (20, [(some 20, 0), (some 16, 0)], [46]), (0, [(none, 0), (none, 0)], []), (1, [(some 19, 0), (none, (-1))], []), (20, [(some 19, 0), (some 14, 0)], [46]), (1, [(none, 1), (none, 0)], []), (3, [(none, 3), (some 16, 0)], []), (3, [(some 16, 0), (none, 0)], []), (1, [(none, 1), (none, 0)], []), (3, [(none, 3), (some 14, 0)], []), (3, [(some 14, 0), (none, 0)], [])], (135, [(none, (-12)), (some 14, 0), (some 15, 0), (some 16, 0), (some 17, 0), (some 18, 0), (some 13, 0), (none, 2)], [45, 46, 41, 42, 43, 44, 41, 42, 43, 44]))
set_option maxRecDepth 20000 in
theorem v_xo_copy_0_8 {PT : PTy} (hp : HP9 PT) : vcOk PT w_xo_copy_0_8 := vc_iv [(13, 0, 5), (14, 0, 3), (15, 0, 60), (16, 0, 3), (17, (-2147483648), (-1)), (18, 0, 60), (19, 0, 2), (20, 0, 2), (21, (-1), 2), (22, (-1), 2), (23, 0, 60), (24, 0, 60), (25, 0, 60)] [41, 42, 43, 44, 45, 46] (by decide +kernel) (fun ρ α => by
  intro r13 g13 b13 r14 g14 b14 r15 g15 b15 r16 g16 b16 r17 g17 b17 r18 g18 b18 r19 g19 b19 r20 g20 b20 r21 g21 b21 r22 g22 b22 r23 g23 b23 r24 g24 b24 r25 g25 b25 a41 h41 a42 h42 a43 h43 a44 h44 a45 h45 a46 h46 f0 f1 f2 f3 f4 f5 f6 f7 f8 f9 f10 f11 f12 f13 f14 f15 f16 f17 f18 f19 f20 f21 f22 f23 f24 tt
  clear f0 f1 f2 f8 f9 f13 f14 f16 f17 f19 f20 f21 f22 f23 f24
  have e135 : PT 135 = P_cpX := pe135_9 hp
  simp only [hF0, hF3, hF5, hF20, hFp_135, e135, P_cpX, den_s, den_c, Int.add_zero, List.map_cons, List.map_nil, g13.eq, g14.eq, g15.eq, g16.eq, g17.eq, g18.eq, g19.eq, g20.eq, g21.eq, g22.eq, g23.eq, g24.eq, g25.eq, h41, h42, h43, h44, h45, h46] at f3 f4 f5 f6 f7 f10 f11 f12 f15 f18 ⊢
  subst f4
  subst f5
  subst f7
  subst f11
  subst f12
  subst f15
  subst f18
  ((repeat' (first | apply And.intro | intro h)) <;> first | omega | rfl | trivial | (exfalso; omega) | (congr 1; omega) | (congr 1; (repeat' split) <;> first | rfl | (exfalso; omega))))
def w_xo_copy_0_9 : VC := ((bT ++ [(0, 3), (0, 60), (0, 3), (0, 2147483647), (1, 60), (0, 2), (0, 2), ((-1), 2), ((-1), 2), (0, 60), (0, 60), (0, 60), (0, 59)]), [(0, [(none, 0), (none, 0)], []), (2, [(some 26, 0), (some 18, 0)], []), (20, [(some 26, 0), (some 16, 0)], [45]), (3, [(some 18, 0), (none, 0)], []), (3, [(some 17, 0), (none, 0)], []), (1, [(none, 1), (none, 0)], []), (3, [(some 25, 0), (some 15, 0)], []), (5, [(some 25, 0), (some 24, 0), (some 18, 0)], []), (20, [(some 24, 0), (some 14, 0)], [45]), (3, [(some 23, 0), (some 18, 0)], []), (20, [(some 23, 0), (some 14, 0)], [45]), (3, [(some 18, 0), (none, 0)], []), (3, [(some 15, 0), (none, 0)], []), (0, [(some 21, 0), (some 22, 0)], []), (20, [(some 22, 0), (some 16, 0)], [46]), (20, [(some 21, 0), (some 14, 0)], [46]), (0, [(none, 0), (none, 0)], []), (1, [(some 20, 0), (none, (-1))], []), (20, [(some 20, 0), (some 16, 0)], [46]), (0, [(none, 0), (none, 0)], []), (1, [(some 19, 0), (none, (-1))], []), (20, [(some 19, 0), (some 14, 0)], [46]), (1, [(none, 1), (none, 0)], []), (3, [(none, 3), (some 16, 0)], []), (3, [(some 16, 0), (none, 0)], []), (1, [(none, 1), (none, 0)], []), (3, [(none, 3), (some 14, 0)], []), (3, [(some 14, 0), (none, 0)], [])], (135, [(none, (-12)), (some 14, 0), (some 15, 0), (some 16, 0), (some 17, 0), (some 18, 0), (some 13, 0), (none, 2)], [45, 46, 41, 42, 43, 44, 41, 42, 43, 44]))
set_option maxRecDepth 20000 in
theorem v_xo_copy_0_9 {PT : PTy} (hp : HP9 PT) : vcOk PT w_xo_copy_0_9 := vc_iv [(13, 0, 5), (14, 0, 3), (15, 0, 60), (16, 0, 3), (17, 0, 2147483647), (18, 1, 60), (19, 0, 2), (20, 0, 2), (21, (-1), 2), (22, (-1), 2), (23, 0, 60), (24, 0, 60), (25, 0, 60), (26, 0, 59)] [41, 42, 43, 44, 45, 46] (by decide +kernel) (fun ρ α => by
  intro r13 g13 b13 r14 g14 b14 r15 g15 b15 r16 g16 b16 r17 g17 b17 r18 g18 b18 r19 g19 b19 r20 g20 b20 r21 g21 b21 r22 g22 b22 r23 g23 b23 r24 g24 b24 r25 g25 b25 r26 g26 b26 a41 h41 a42 h42 a43 h43 a44 h44 a45 h45 a46 h46 f0 f1 f2 f3 f4 f5 f6 f7 f8 f9 f10 f11 f12 f13 f14 f15 f16 f17 f18 f19 f20 f21 f22 f23 f24 f25 f26 f27 tt
  clear f0 f3 f4 f5 f11 f12 f16 f17 f19 f20 f22 f23 f24 f25 f26 f27
  have e135 : PT 135 = P_cpX := pe135_9 hp
  simp only [hF0, hF2, hF3, hF5, hF20, hFp_135, e135, P_cpX, den_s, den_c, Int.add_zero, List.map_cons, List.map_nil, g13.eq, g14.eq, g15.eq, g16.eq, g17.eq, g18.eq, g19.eq, g20.eq, g21.eq, g22.eq, g23.eq, g24.eq, g25.eq, g26.eq, h41, h42, h43, h44, h45, h46] at f1 f2 f6 f7 f8 f9 f10 f13 f14 f15 f18 f21 ⊢
  subst f2
  subst f7
  subst f8
  subst f10
  subst f14
  subst f15
  subst f18
  subst f21
  ((repeat' (first | apply And.intro | intro h)) <;> first | omega | rfl | trivial | (exfalso; omega) | (congr 1; omega) | (congr 1; (repeat' split) <;> first | rfl | (exfalso; omega))))
def w_xo_copy_0_10 : VC := ((bT ++ [(0, 3), (0, 60), (0, 3), (0, 2147483647), (0, 60), (0, 2), (0, 2), ((-1), 2), ((-1), 2), (0, 60), (0, 60), (0, 60), (0, 60), (0, 60), ((-60), 60)]), [(0, [(none, 0), (none, 0)], []), (2, [(some 28, 0), (some 17, 0)], []), (5, [(some 28, 0), (some 27, 0), (some 18, 0)], []), (20, [(some 27, 0), (some 16, 0)], [45]), (3, [(some 26, 0), (some 18, 0)], []), (20, [(some 26, 0), (some 16, 0)], [45]), (3, [(some 18, 0), (none, 0)], []), (3, [(some 17, 0), (none, 0)], []), (1, [(none, 1), (none, 0)], []), (3, [(some 25, 0), (some 15, 0)], []), (5, [(some 25, 0), (some 24, 0), (some 18, 0)], []), (20, [(some 24, 0), (some 14, 0)], [45]), (3, [(some 23, 0), (some 18, 0)], []), (20, [(some 23, 0), (some 14, 0)], [45]), (3, [(some 18, 0), (none, 0)], []), (3, [(some 15, 0), (none, 0)], []), (0, [(some 21, 0), (some 22, 0)], []), (20, [(some 22, 0), (some 16, 0)], [46]), (20, [(some 21, 0), (some 14, 0)], [46]), (0, [(none, 0), (none, 0)], []), (1, [(some 20, 0), (none, (-1))], []), (20, [(some 20, 0), (some 16, 0)], [46]), (0, [(none, 0), (none, 0)], []), (1, [(some 19, 0), (none, (-1))], []), (20, [(some 19, 0), (some 14, 0)], [46]), (1, [(none, 1), (none, 0)], []), (3, [(none, 3), (some 16, 0)], []), (3, [(some 16, 0), (none, 0)], []), (1, [(none, 1), (none, 0)], []), (3, [(none, 3), (some 14, 0)], []), (3, [(some 14, 0), (none, 0)], [])], (135, [(none, (-12)), (some 14, 0), (some 15, 0), (some 16, 0), (some 17, 0), (some 18, 0), (some 13, 0), (none, 2)], [45, 46, 41, 42, 43, 44, 41, 42, 43, 44]))
set_option maxRecDepth 20000 in
theorem v_xo_copy_0_10 {PT : PTy} (hp : HP9 PT) : vcOk PT w_xo_copy_0_10 := vc_iv [(13, 0, 5), (14, 0, 3), (15, 0, 60), (16, 0, 3), (17, 0, 2147483647), (18, 0, 60), (19, 0, 2), (20, 0, 2), (21, (-1), 2), (22, (-1), 2), (23, 0, 60), (24, 0, 60), (25, 0, 60), (26, 0, 60), (27, 0, 60), (28, (-60), 60)] [41, 42, 43, 44, 45, 46] (by decide +kernel) (fun ρ α => by
  intro r13 g13 b13 r14 g14 b14 r15 g15 b15 r16 g16 b16 r17 g17 b17 r18 g18 b18 r19 g19 b19 r20 g20 b20 r21 g21 b21 r22 g22 b22 r23 g23 b23 r24 g24 b24 r25 g25 b25 r26 g26 b26 r27 g27 b27 r28 g28 b28 a41 h41 a42 h42 a43 h43 a44 h44 a45 h45 a46 h46 f0 f1 f2 f3 f4 f5 f6 f7 f8 f9 f10 f11 f12 f13 f14 f15 f16 f17 f18 f19 f20 f21 f22 f23 f24 f25 f26 f27 f28 f29 f30 tt
  clear f0 f6 f7 f8 f14 f15 f19 f20 f22 f23 f25 f26 f27 f28 f29 f30
  have e135 : PT 135 = P_cpX := pe135_9 hp
  simp only [hF0, hF2, hF3, hF5, hF20, hFp_135, e135, P_cpX, den_s, den_c, Int.add_zero, List.map_cons, List.map_nil, g13.eq, g14.eq, g15.eq, g16.eq, g17.eq, g18.eq, g19.eq, g20.eq, g21.eq, g22.eq, g23.eq, g24.eq, g25.eq, g26.eq, g27.eq, g28.eq, h41, h42, h43, h44, h45, h46] at f1 f2 f3 f4 f5 f9 f10 f11 f12 f13 f16 f17 f18 f21 f24 ⊢
  subst f2
  subst f3
  subst f5
  subst f10
  subst f11
  subst f13
  subst f17
  subst f18
  subst f21
  subst f24
  ((repeat' (first | apply And.intro | intro h)) <;> first | omega | rfl | trivial | (exfalso; omega) | (congr 1; omega) | (congr 1; (repeat' split) <;> first | rfl | (exfalso; omega))))
def w_xo_copy_0_11 : VC := ((bT ++ [(0, 0), (0, 60), (0, 0), (0, 60), (0, 60), (0, 2), (0, 2), ((-1), 2), ((-1), 2), (0, 60), (0, 60), (0, 60), (0, 60), (0, 60), (0, 60)]), [(0, [(some 16, 0), (none, 0)], []), (0, [(some 14, 0), (none, 0)], []), (1, [(none, 1), (none, 0)], []), (3, [(some 28, 0), (some 17, 0)], []), (5, [(some 28, 0), (some 27, 0), (some 18, 0)], []), (20, [(some 27, 0), (some 16, 0)], [45]), (3, [(some 26, 0), (some 18, 0)], []), (20, [(some 26, 0), (some 16, 0)], [45]), (3, [(some 18, 0), (none, 0)], []), (3, [(some 17, 0), (none, 0)], []), (1, [(none, 1), (none, 0)], []), (3, [(some 25, 0), (some 15, 0)], []), (5, [(some 25, 0), (some 24, 0), (some 18, 0)], []), (20, [(some 24, 0), (some 14, 0)], [45]), (3, [(some 23, 0), (some 18, 0)], []), (20, [(some 23, 0), (some 14, 0)], [45]), (3, [(some 18, 0), (none, 0)], []), (3, [(some 15, 0), (none, 0)], []), (0, [(some 21, 0), (some 22, 0)], []), (20, [(some 22, 0), (some 16, 0)], [46]), (20, [(some 21, 0), (some 14, 0)], [46]), (0, [(none, 0), (none, 0)], []), (1, [(some 20, 0), (none, (-1))], []), (20, [(some 20, 0), (some 16, 0)], [46]), (0, [(none, 0), (none, 0)], []), (1, [(some 19, 0), (none, (-1))], []), (20, [(some 19, 0), (some 14, 0)], [46]), (1, [(none, 1), (none, 0)], []), (3, [(none, 3), (some 16, 0)], []), (3, [(some 16, 0), (none, 0)], []), (1, [(none, 1), (none, 0)], []), (3, [(none, 3), (some 14, 0)], []), (3, [(some 14, 0), (none, 0)], [])], (26, [(some 15, 0), (some 18, 0), (none, 60)], []))
set_option maxRecDepth 20000 in
theorem v_xo_copy_0_11 {PT : PTy} (hp : HP9 PT) : vcOk PT w_xo_copy_0_11 := vc_iv [(14, 0, 0), (15, 0, 60), (16, 0, 0), (17, 0, 60), (18, 0, 60), (19, 0, 2), (20, 0, 2), (21, (-1), 2), (22, (-1), 2), (23, 0, 60), (24, 0, 60), (25, 0, 60), (26, 0, 60), (27, 0, 60), (28, 0, 60)] [45, 46] (by decide +kernel) (fun ρ α => by
  intro r14 g14 b14 r15 g15 b15 r16 g16 b16 r17 g17 b17 r18 g18 b18 r19 g19 b19 r20 g20 b20 r21 g21 b21 r22 g22 b22 r23 g23 b23 r24 g24 b24 r25 g25 b25 r26 g26 b26 r27 g27 b27 r28 g28 b28 a45 h45 a46 h46 f0 f1 f2 f3 f4 f5 f6 f7 f8 f9 f10 f11 f12 f13 f14 f15 f16 f17 f18 f19 f20 f21 f22 f23 f24 f25 f26 f27 f28 f29 f30 f31 f32 tt
  clear f2 f8 f9 f10 f16 f17 f21 f22 f24 f25 f27 f28 f29 f30 f31 f32
  simp only [hF0, hF3, hF5, hF20, hF26, den_s, den_c, Int.add_zero, List.map_cons, List.map_nil, g14.eq, g15.eq, g16.eq, g17.eq, g18.eq, g19.eq, g20.eq, g21.eq, g22.eq, g23.eq, g24.eq, g25.eq, g26.eq, g27.eq, g28.eq, h45, h46] at f0 f1 f3 f4 f5 f6 f7 f11 f12 f13 f14 f15 f18 f19 f20 f23 f26 ⊢
  subst f4
  subst f5
  subst f7
  subst f12
  subst f13
  subst f15
  subst f19
  subst f20
  subst f23
  subst f26
  ((repeat' (first | apply And.intro | intro h)) <;> first | omega | rfl | trivial | (exfalso; omega) | (congr 1; omega) | (congr 1; (repeat' split) <;> first | rfl | (exfalso; omega))))
def w_xo_copy_0_12 : VC := ((bT ++ [(0, 0), (0, 60), (0, 0), (0, 60), (0, 60), (0, 2), (0, 2), ((-1), 2), ((-1), 2), (0, 60), (0, 60), (0, 60), (0, 60), (0, 60), (0, 60)]), [(0, [(some 16, 0), (none, 0)], []), (0, [(some 14, 0), (none, 0)], []), (1, [(none, 1), (none, 0)], []), (3, [(some 28, 0), (some 17, 0)], []), (5, [(some 28, 0), (some 27, 0), (some 18, 0)], []), (20, [(some 27, 0), (some 16, 0)], [45]), (3, [(some 26, 0), (some 18, 0)], []), (20, [(some 26, 0), (some 16, 0)], [45]), (3, [(some 18, 0), (none, 0)], []), (3, [(some 17, 0), (none, 0)], []), (1, [(none, 1), (none, 0)], []), (3, [(some 25, 0), (some 15, 0)], []), (5, [(some 25, 0), (some 24, 0), (some 18, 0)], []), (20, [(some 24, 0), (some 14, 0)], [45]), (3, [(some 23, 0), (some 18, 0)], []), (20, [(some 23, 0), (some 14, 0)], [45]), (3, [(some 18, 0), (none, 0)], []), (3, [(some 15, 0), (none, 0)], []), (0, [(some 21, 0), (some 22, 0)], []), (20, [(some 22, 0), (some 16, 0)], [46]), (20, [(some 21, 0), (some 14, 0)], [46]), (0, [(none, 0), (none, 0)], []), (1, [(some 20, 0), (none, (-1))], []), (20, [(some 20, 0), (some 16, 0)], [46]), (0, [(none, 0), (none, 0)], []), (1, [(some 19, 0), (none, (-1))], []), (20, [(some 19, 0), (some 14, 0)], [46]), (1, [(none, 1), (none, 0)], []), (3, [(none, 3), (some 16, 0)], []), (3, [(some 16, 0), (none, 0)], []), (1, [(none, 1), (none, 0)], []), (3, [(none, 3), (some 14, 0)], []), (3, [(some 14, 0), (none, 0)], [])], (26, [(some 17, 0), (some 18, 0), (none, 60)], []))
set_option maxRecDepth 20000 in
theorem v_xo_copy_0_12 {PT : PTy} (hp : HP9 PT) : vcOk PT w_xo_copy_0_12 := vc_iv [(14, 0, 0), (15, 0, 60), (16, 0, 0), (17, 0, 60), (18, 0, 60), (19, 0, 2), (20, 0, 2), (21, (-1), 2), (22, (-1), 2), (23, 0, 60), (24, 0, 60), (25, 0, 60), (26, 0, 60), (27, 0, 60), (28, 0, 60)] [45, 46] (by decide +kernel) (fun ρ α => by
  intro r14 g14 b14 r15 g15 b15 r16 g16 b16 r17 g17 b17 r18 g18 b18 r19 g19 b19 r20 g20 b20 r21 g21 b21 r22 g22 b22 r23 g23 b23 r24 g24 b24 r25 g25 b25 r26 g26 b26 r27 g27 b27 r28 g28 b28 a45 h45 a46 h46 f0 f1 f2 f3 f4 f5 f6 f7 f8 f9 f10 f11 f12 f13 f14 f15 f16 f17 f18 f19 f20 f21 f22 f23 f24 f25 f26 f27 f28 f29 f30 f31 f32 tt
  clear f2 f8 f9 f10 f16 f17 f21 f22 f24 f25 f27 f28 f29 f30 f31 f32
  simp only [hF0, hF3, hF5, hF20, hF26, den_s, den_c, Int.add_zero, List.map_cons, List.map_nil, g14.eq, g15.eq, g16.eq, g17.eq, g18.eq, g19.eq, g20.eq, g21.eq, g22.eq, g23.eq, g24.eq, g25.eq, g26.eq, g27.eq, g28.eq, h45, h46] at f0 f1 f3 f4 f5 f6 f7 f11 f12 f13 f14 f15 f18 f19 f20 f23 f26 ⊢
  subst f4
  subst f5
  subst f7
  subst f12
  subst f13
  subst f15
  subst f19
  subst f20
  subst f23
  subst f26
  ((repeat' (first | apply And.intro | intro h)) <;> first | omega | rfl | trivial | (exfalso; omega) | (congr 1; omega) | (congr 1; (repeat' split) <;> first | rfl | (exfalso; omega))))
def w_xo_copy_0_13 : VC := ((bT ++ [(0, 0), (0, 60), (0, 0), (0, 60), (0, 60), (0, 2), (0, 2), ((-1), 2), ((-1), 2), (0, 60), (0, 60), (0, 60), (0, 60), (0, 60), (0, 60)]), [(22, [(some 15, 0), (some 17, 0), (some 18, 0)], [58, 41, 41]), (0, [(some 16, 0), (none, 0)], []), (0, [(some 14, 0), (none, 0)], []), (1, [(none, 1), (none, 0)], []), (3, [(some 28, 0), (some 17, 0)], []), (5, [(some 28, 0), (some 27, 0), (some 18, 0)], []), (20, [(some 27, 0), (some 16, 0)], [45]), (3, [(some 26, 0), (some 18, 0)], []), (20, [(some 26, 0), (some 16, 0)], [45]), (3, [(some 18, 0), (none, 0)], []), (3, [(some 17, 0), (none, 0)], []), (1, [(none, 1), (none, 0)], []), (3, [(some 25, 0), (some 15, 0)], []), (5, [(some 25, 0), (some 24, 0), (some 18, 0)], []), (20, [(some 24, 0), (some 14, 0)], [45]), (3, [(some 23, 0), (some 18, 0)], []), (20, [(some 23, 0), (some 14, 0)], [45]), (3, [(some 18, 0), (none, 0)], []), (3, [(some 15, 0), (none, 0)], []), (0, [(some 21, 0), (some 22, 0)], []), (20, [(some 22, 0), (some 16, 0)], [46]), (20, [(some 21, 0), (some 14, 0)], [46]), (0, [(none, 0), (none, 0)], []), (1, [(some 20, 0), (none, (-1))], []), (20, [(some 20, 0), (some 16, 0)], [46]), (0, [(none, 0), (none, 0)], []), (1, [(some 19, 0), (none, (-1))], []), (20, [(some 19, 0), (some 14, 0)], [46]), (1, [(none, 1), (none, 0)], []), (3, [(none, 3), (some 16, 0)], []), (3, [(some 16, 0), (none, 0)], []), (1, [(none, 1), (none, 0)], []), (3, [(none, 3), (some 14, 0)], []), (3, [(some 14, 0), (none, 0)], [])], (135, [(none, 1), (some 14, 0), (some 15, 0), (some 16, 0), (some 17, 0), (some 18, 0), (some 13, 0), (some 13, 0)], [45, 46, 41, 42, 43, 44, 58, 42, 43, 44]))
set_option maxRecDepth 20000 in
theorem v_xo_copy_0_13 {PT : PTy} (hp : HP9 PT) : vcOk PT w_xo_copy_0_13 := vc_iv [(13, 0, 5), (14, 0, 0), (15, 0, 60), (16, 0, 0), (17, 0, 60), (18, 0, 60), (19, 0, 2), (20, 0, 2), (21, (-1), 2), (22, (-1), 2), (23, 0, 60), (24, 0, 60), (25, 0, 60), (26, 0, 60), (27, 0, 60), (28, 0, 60)] [41, 42, 43, 44, 45, 46, 58] (by decide +kernel) (fun ρ α => by
  intro r13 g13 b13 r14 g14 b14 r15 g15 b15 r16 g16 b16 r17 g17 b17 r18 g18 b18 r19 g19 b19 r20 g20 b20 r21 g21 b21 r22 g22 b22 r23 g23 b23 r24 g24 b24 r25 g25 b25 r26 g26 b26 r27 g27 b27 r28 g28 b28 a41 h41 a42 h42 a43 h43 a44 h44 a45 h45 a46 h46 a58 h58 f0 f1 f2 f3 f4 f5 f6 f7 f8 f9 f10 f11 f12 f13 f14 f15 f16 f17 f18 f19 f20 f21 f22 f23 f24 f25 f26 f27 f28 f29 f30 f31 f32 f33 tt
  clear f3 f9 f10 f11 f17 f18 f22 f23 f25 f26 f28 f29 f30 f31 f32 f33
  have e135 : PT 135 = P_cpX := pe135_9 hp
  simp only [hF0, hF3, hF5, hF20, hF22, hFp_135, e135, P_cpX, den_s, den_c, Int.add_zero, List.map_cons, List.map_nil, g13.eq, g14.eq, g15.eq, g16.eq, g17.eq, g18.eq, g19.eq, g20.eq, g21.eq, g22.eq, g23.eq, g24.eq, g25.eq, g26.eq, g27.eq, g28.eq, h41, h42, h43, h44, h45, h46, h58] at f0 f1 f2 f4 f5 f6 f7 f8 f12 f13 f14 f15 f16 f19 f20 f21 f24 f27 ⊢
  subst f0
  subst f5
  subst f6
  subst f8
  subst f13
  subst f14
  subst f16
  subst f20
  subst f21
  subst f24
  subst f27
  ((repeat' (first | apply And.intro | intro h)) <;> first | omega | rfl | trivial | (exfalso; omega) | (congr 1; omega) | (congr 1; (repeat' split) <;> first | rfl | (exfalso; omega))))
def w_xo_copy_0_14 : VC := ((bT ++ [(0, 0), (0, 60), (1, 1), (0, 60), (0, 60), (0, 2), (0, 2), ((-1), 2), ((-1), 2), (0, 60), (0, 60), (0, 60), (0, 60), (0, 60), (0, 60)]), [(0, [(some 16, 0), (none, 1)], []), (0, [(some 14, 0), (none, 0)], []), (1, [(none, 1), (none, 0)], []), (3, [(some 28, 0), (some 17, 0)], []), (5, [(some 28, 0), (some 27, 0), (some 18, 0)], []), (20, [(some 27, 0), (some 16, 0)], [45]), (3, [(some 26, 0), (some 18, 0)], []), (20, [(some 26, 0), (some 16, 0)], [45]), (3, [(some 18, 0), (none, 0)], []), (3, [(some 17, 0), (none, 0)], []), (1, [(none, 1), (none, 0)], []), (3, [(some 25, 0), (some 15, 0)], []), (5, [(some 25, 0), (some 24, 0), (some 18, 0)], []), (20, [(some 24, 0), (some 14, 0)], [45]), (3, [(some 23, 0), (some 18, 0)], []), (20, [(some 23, 0), (some 14, 0)], [45]), (3, [(some 18, 0), (none, 0)], []), (3, [(some 15, 0), (none, 0)], []), (0, [(some 21, 0), (some 22, 0)], []), (20, [(some 22, 0), (some 16, 0)], [46]), (20, [(some 21, 0), (some 14, 0)], [46]), (0, [(none, 0), (none, 0)], []), (1, [(some 20, 0), (none, (-1))], []), (20, [(some 20, 0), (some 16, 0)], [46]), (0, [(none, 0), (none, 0)], []), (1, [(some 19, 0), (none, (-1))], []), (20, [(some 19, 0), (some 14, 0)], [46]), (1, [(none, 1), (none, 0)], []), (3, [(none, 3), (some 16, 0)], []), (3, [(some 16, 0), (none, 0)], []), (1, [(none, 1), (none, 0)], []), (3, [(none, 3), (some 14, 0)], []), (3, [(some 14, 0), (none, 0)], [])], (26, [(some 15, 0), (some 18, 0), (none, 60)], []))
set_option maxRecDepth 20000 in
theorem v_xo_copy_0_14 {PT : PTy} (hp : HP9 PT) : vcOk PT w_xo_copy_0_14 := vc_iv [(14, 0, 0), (15, 0, 60), (16, 1, 1), (17, 0, 60), (18, 0, 60), (19, 0, 2), (20, 0, 2), (21, (-1), 2), (22, (-1), 2), (23, 0, 60), (24, 0, 60), (25, 0, 60), (26, 0, 60), (27, 0, 60), (28, 0, 60)] [45, 46] (by decide +kernel) (fun ρ α => by
  intro r14 g14 b14 r15 g15 b15 r16 g16 b16 r17 g17 b17 r18 g18 b18 r19 g19 b19 r20 g20 b20 r21 g21 b21 r22 g22 b22 r23 g23 b23 r24 g24 b24 r25 g25 b25 r26 g26 b26 r27 g27 b27 r28 g28 b28 a45 h45 a46 h46 f0 f1 f2 f3 f4 f5 f6 f7 f8 f9 f10 f11 f12 f13 f14 f15 f16 f17 f18 f19 f20 f21 f22 f23 f24 f25 f26 f27 f28 f29 f30 f31 f32 tt
  clear f2 f8 f9 f10 f16 f17 f21 f22 f24 f25 f27 f28 f29 f30 f31 f32
  simp only [hF0, hF3, hF5, hF20, hF26, den_s, den_c, Int.add_zero, List.map_cons, List.map_nil, g14.eq, g15.eq, g16.eq, g17.eq, g18.eq, g19.eq, g20.eq, g21.eq, g22.eq, g23.eq, g24.eq, g25.eq, g26.eq, g27.eq, g28.eq, h45, h46] at f0 f1 f3 f4 f5 f6 f7 f11 f12 f13 f14 f15 f18 f19 f20 f23 f26 ⊢
  subst f4
  subst f5
  subst f7
  subst f12
  subst f13
  subst f15
  subst f19
  subst f20
  subst f23
  subst f26
  ((repeat' (first | apply And.intro | intro h)) <;> first | omega | rfl | trivial | (exfalso; omega) | (congr 1; omega) | (congr 1; (repeat' split) <;> first | rfl | (exfalso; omega))))
def w_xo_copy_0_15 : VC := ((bT ++ [(0, 0), (0, 60), (1, 1), (0, 60), (0, 60), (0, 2), (0, 2), ((-1), 2), ((-1), 2), (0, 60), (0, 60), (0, 60), (0, 60), (0, 60), (0, 60)]), [(0, [(some 16, 0), (none, 1)], []), (0, [(some 14, 0), (none, 0)], []), (1, [(none, 1), (none, 0)], []), (3, [(some 28, 0), (some 17, 0)], []), (5, [(some 28, 0), (some 27, 0), (some 18, 0)], []), (20, [(some 27, 0), (some 16, 0)], [45]), (3, [(some 26, 0), (some 18, 0)], []), (20, [(some 26, 0), (some 16, 0)], [45]), (3, [(some 18, 0), (none, 0)], []), (3, [(some 17, 0), (none, 0)], []), (1, [(none, 1), (none, 0)], []), (3, [(some 25, 0), (some 15, 0)], []), (5, [(some 25, 0), (some 24, 0), (some 18, 0)], []), (20, [(some 24, 0), (some 14, 0)], [45]), (3, [(some 23, 0), (some 18, 0)], []), (20, [(some 23, 0), (some 14, 0)], [45]), (3, [(some 18, 0), (none, 0)], []), (3, [(some 15, 0), (none, 0)], []), (0, [(some 21, 0), (some 22, 0)], []), (20, [(some 22, 0), (some 16, 0)], [46]), (20, [(some 21, 0), (some 14, 0)], [46]), (0, [(none, 0), (none, 0)], []), (1, [(some 20, 0), (none, (-1))], []), (20, [(some 20, 0), (some 16, 0)], [46]), (0, [(none, 0), (none, 0)], []), (1, [(some 19, 0), (none, (-1))], []), (20, [(some 19, 0), (some 14, 0)], [46]), (1, [(none, 1), (none, 0)], []), (3, [(none, 3), (some 16, 0)], []), (3, [(some 16, 0), (none, 0)], []), (1, [(none, 1), (none, 0)], []), (3, [(none, 3), (some 14, 0)], []), (3, [(some 14, 0), (none, 0)], [])], (26, [(some 17, 0), (some 18, 0), (none, 60)], []))
set_option maxRecDepth 20000 in
theorem v_xo_copy_0_15 {PT : PTy} (hp : HP9 PT) : vcOk PT w_xo_copy_0_15 := vc_iv [(14, 0, 0), (15, 0, 60), (16, 1, 1), (17, 0, 60), (18, 0, 60), (19, 0, 2), (20, 0, 2), (21, (-1), 2), (22, (-1), 2), (23, 0, 60), (24, 0, 60), (25, 0, 60), (26, 0, 60), (27, 0, 60), (28, 0, 60)] [45, 46] (by decide +kernel) (fun ρ α => by
  intro r14 g14 b14 r15 g15 b15 r16 g16 b16 r17 g17 b17 r18 g18 b18 r19 g19 b19 r20 g20 b20 r21 g21 b21 r22 g22 b22 r23 g23 b23 r24 g24 b24 r25 g25 b25 r26 g26 b26 r27 g27 b27 r28 g28 b28 a45 h45 a46 h46 f0 f1 f2 f3 f4 f5 f6 f7 f8 f9 f10 f11 f12 f13 f14 f15 f16 f17 f18 f19 f20 f21 f22 f23 f24 f25 f26 f27 f28 f29 f30 f31 f32 tt
  clear f2 f8 f9 f10 f16 f17 f21 f22 f24 f25 f27 f28 f29 f30 f31 f32
  simp only [hF0, hF3, hF5, hF20, hF26, den_s, den_c, Int.add_zero, List.map_cons, List.map_nil, g14.eq, g15.eq, g16.eq, g17.eq, g18.eq, g19.eq, g20.eq, g21.eq, g22.eq, g23.eq, g24.eq, g25.eq, g26.eq, g27.eq, g28.eq, h45, h46] at f0 f1 f3 f4 f5 f6 f7 f11 f12 f13 f14 f15 f18 f19 f20 f23 f26 ⊢
  subst f4
  subst f5
  subst f7
  subst f12
  subst f13
  subst f15
  subst f19
  subst f20
  subst f23
  subst f26
  ((repeat' (first | apply And.intro | intro h)) <;> first | omega | rfl | trivial | (exfalso; omega) | (congr 1; omega) | (congr 1; (repeat' split) <;> first | rfl | (exfalso; omega))))
def w_xo_copy_0_16 : VC := ((bT ++ [(0, 0), (0, 60), (1, 1), (0, 60), (0, 60), (0, 2), (0, 2), ((-1), 2), ((-1), 2), (0, 60), (0, 60), (0, 60), (0, 60), (0, 60), (0, 60)]), [(22, [(some 15, 0), (some 17, 0), (some 18, 0)], [58, 41, 42]), (0, [(some 16, 0), (none, 1)], []), (0, [(some 14, 0), (none, 0)], []), (1, [(none, 1), (none, 0)], []), (3, [(some 28, 0), (some 17, 0)], []), (5, [(some 28, 0), (some 27, 0), (some 18, 0)], []), (20, [(some 27, 0), (some 16, 0)], [45]), (3, [(some 26, 0), (some 18, 0)], []), (20, [(some 26, 0), (some 16, 0)], [45]), (3, [(some 18, 0), (none, 0)], []), (3, [(some 17, 0), (none, 0)], []), (1, [(none, 1), (none, 0)], []), (3, [(some 25, 0), (some 15, 0)], []), (5, [(some 25, 0), (some 24, 0), (some 18, 0)], []), (20, [(some 24, 0), (some 14, 0)], [45]), (3, [(some 23, 0), (some 18, 0)], []), (20, [(some 23, 0), (some 14, 0)], [45]), (3, [(some 18, 0), (none, 0)], []), (3, [(some 15, 0), (none, 0)], []), (0, [(some 21, 0), (some 22, 0)], []), (20, [(some 22, 0), (some 16, 0)], [46]), (20, [(some 21, 0), (some 14, 0)], [46]), (0, [(none, 0), (none, 0)], []), (1, [(some 20, 0), (none, (-1))], []), (20, [(some 20, 0), (some 16, 0)], [46]), (0, [(none, 0), (none, 0)], []), (1, [(some 19, 0), (none, (-1))], []), (20, [(some 19, 0), (some 14, 0)], [46]), (1, [(none, 1), (none, 0)], []), (3, [(none, 3), (some 16, 0)], []), (3, [(some 16, 0), (none, 0)], []), (1, [(none, 1), (none, 0)], []), (3, [(none, 3), (some 14, 0)], []), (3, [(some 14, 0), (none, 0)], [])], (135, [(none, 1), (some 14, 0), (some 15, 0), (some 16, 0), (some 17, 0), (some 18, 0), (some 13, 0), (some 13, 0)], [45, 46, 41, 42, 43, 44, 41, 58, 43, 44]))
set_option maxRecDepth 20000 in
theorem v_xo_copy_0_16 {PT : PTy} (hp : HP9 PT) : vcOk PT w_xo_copy_0_16 := vc_iv [(13, 0, 5), (14, 0, 0), (15, 0, 60), (16, 1, 1), (17, 0, 60), (18, 0, 60), (19, 0, 2), (20, 0, 2), (21, (-1), 2), (22, (-1), 2), (23, 0, 60), (24, 0, 60), (25, 0, 60), (26, 0, 60), (27, 0, 60), (28, 0, 60)] [41, 42, 43, 44, 45, 46, 58] (by decide +kernel) (fun ρ α => by
  intro r13 g13 b13 r14 g14 b14 r15 g15 b15 r16 g16 b16 r17 g17 b17 r18 g18 b18 r19 g19 b19 r20 g20 b20 r21 g21 b21 r22 g22 b22 r23 g23 b23 r24 g24 b24 r25 g25 b25 r26 g26 b26 r27 g27 b27 r28 g28 b28 a41 h41 a42 h42 a43 h43 a44 h44 a45 h45 a46 h46 a58 h58 f0 f1 f2 f3 f4 f5 f6 f7 f8 f9 f10 f11 f12 f13 f14 f15 f16 f17 f18 f19 f20 f21 f22 f23 f24 f25 f26 f27 f28 f29 f30 f31 f32 f33 tt
  clear f3 f9 f10 f11 f17 f18 f22 f23 f25 f26 f28 f29 f30 f31 f32 f33
  have e135 : PT 135 = P_cpX := pe135_9 hp
  simp only [hF0, hF3, hF5, hF20, hF22, hFp_135, e135, P_cpX, den_s, den_c, Int.add_zero, List.map_cons, List.map_nil, g13.eq, g14.eq, g15.eq, g16.eq, g17.eq, g18.eq, g19.eq, g20.eq, g21.eq, g22.eq, g23.eq, g24.eq, g25.eq, g26.eq, g27.eq, g28.eq, h41, h42, h43, h44, h45, h46, h58] at f0 f1 f2 f4 f5 f6 f7 f8 f12 f13 f14 f15 f16 f19 f20 f21 f24 f27 ⊢
  subst f0
  subst f5
  subst f6
  subst f8
  subst f13
  subst f14
  subst f16
  subst f20
  subst f21
  subst f24
  subst f27
  ((repeat' (first | apply And.intro | intro h)) <;> first | omega | rfl | trivial | (exfalso; omega) | (congr 1; omega) | (congr 1; (repeat' split) <;> first | rfl | (exfalso; omega))))
def w_xo_copy_0_17 : VC := ((bT ++ [(0, 0), (0, 60), (2, 2), (0, 60), (0, 60), (0, 2), (0, 2), ((-1), 2), ((-1), 2), (0, 60), (0, 60), (0, 60), (0, 60), (0, 60), (0, 60)]), [(0, [(some 16, 0), (none, 2)], []), (0, [(some 14, 0), (none, 0)], []), (1, [(none, 1), (none, 0)], []), (3, [(some 28, 0), (some 17, 0)], []), (5, [(some 28, 0), (some 27, 0), (some 18, 0)], []), (20, [(some 27, 0), (some 16, 0)], [45]), (3, [(some 26, 0), (some 18, 0)], []), (20, [(some 26, 0), (some 16, 0)], [45]), (3, [(some 18, 0), (none, 0)], []), (3, [(some 17, 0), (none, 0)], []), (1, [(none, 1), (none, 0)], []), (3, [(some 25, 0), (some 15, 0)], []), (5, [(some 25, 0), (some 24, 0), (some 18, 0)], []), (20, [(some 24, 0), (some 14, 0)], [45]), (3, [(some 23, 0), (some 18, 0)], []), (20, [(some 23, 0), (some 14, 0)], [45]), (3, [(some 18, 0), (none, 0)], []), (3, [(some 15, 0), (none, 0)], []), (0, [(some 21, 0), (some 22, 0)], []), (20, [(some 22, 0), (some 16, 0)], [46]), (20, [(some 21, 0), (some 14, 0)], [46]), (0, [(none, 0), (none, 0)], []), (1, [(some 20, 0), (none, (-1))], []), (20, [(some 20, 0), (some 16, 0)], [46]), (0, [(none, 0), (none, 0)], []), (1, [(some 19, 0), (none, (-1))], []), (20, [(some 19, 0), (some 14, 0)], [46]), (1, [(none, 1), (none, 0)], []), (3, [(none, 3), (some 16, 0)], []), (3, [(some 16, 0), (none, 0)], []), (1, [(none, 1), (none, 0)], []), (3, [(none, 3), (some 14, 0)], []), (3, [(some 14, 0), (none, 0)], [])], (26, [(some 15, 0), (some 18, 0), (none, 60)], []))
set_option maxRecDepth 20000 in
theorem v_xo_copy_0_17 {PT : PTy} (hp : HP9 PT) : vcOk PT w_xo_copy_0_17 := vc_iv [(14, 0, 0), (15, 0, 60), (16, 2, 2), (17, 0, 60), (18, 0, 60), (19, 0, 2), (20, 0, 2), (21, (-1), 2), (22, (-1), 2), (23, 0, 60), (24, 0, 60), (25, 0, 60), (26, 0, 60), (27, 0, 60), (28, 0, 60)] [45, 46] (by decide +kernel) (fun ρ α => by
  intro r14 g14 b14 r15 g15 b15 r16 g16 b16 r17 g17 b17 r18 g18 b18 r19 g19 b19 r20 g20 b20 r21 g21 b21 r22 g22 b22 r23 g23 b23 r24 g24 b24 r25 g25 b25 r26 g26 b26 r27 g27 b27 r28 g28 b28 a45 h45 a46 h46 f0 f1 f2 f3 f4 f5 f6 f7 f8 f9 f10 f11 f12 f13 f14 f15 f16 f17 f18 f19 f20 f21 f22 f23 f24 f25 f26 f27 f28 f29 f30 f31 f32 tt
  clear f2 f8 f9 f10 f16 f17 f21 f22 f24 f25 f27 f28 f29 f30 f31 f32
  simp only [hF0, hF3, hF5, hF20, hF26, den_s, den_c, Int.add_zero, List.map_cons, List.map_nil, g14.eq, g15.eq, g16.eq, g17.eq, g18.eq, g19.eq, g20.eq, g21.eq, g22.eq, g23.eq, g24.eq, g25.eq, g26.eq, g27.eq, g28.eq, h45, h46] at f0 f1 f3 f4 f5 f6 f7 f11 f12 f13 f14 f15 f18 f19 f20 f23 f26 ⊢
  subst f4
  subst f5
  subst f7
  subst f12
  subst f13
  subst f15
  subst f19
  subst f20
  subst f23
  subst f26
  ((repeat' (first | apply And.intro | intro h)) <;> first | omega | rfl | trivial | (exfalso; omega) | (congr 1; omega) | (congr 1; (repeat' split) <;> first | rfl | (exfalso; omega))))
def w_xo_copy_0_18 : VC := ((bT ++ [(0, 0), (0, 60), (2, 2), (0, 60), (0, 60), (0, 2), (0, 2), ((-1), 2), ((-1), 2), (0, 60), (0, 60), (0, 60), (0, 60), (0, 60), (0, 60)]), [(0, [(some 16, 0), (none, 2)], []), (0, [(some 14, 0), (none, 0)], []), (1, [(none, 1), (none, 0)], []), (3, [(some 28, 0), (some 17, 0)], []), (5, [(some 28, 0), (some 27, 0), (some 18, 0)], []), (20, [(some 27, 0), (some 16, 0)], [45]), (3, [(some 26, 0), (some 18, 0)], []), (20, [(some 26, 0), (some 16, 0)], [45]), (3, [(some 18, 0), (none, 0)], []), (3, [(some 17, 0), (none, 0)], []), (1, [(none, 1), (none, 0)], []), (3, [(some 25, 0), (some 15, 0)], []), (5, [(some 25, 0), (some 24, 0), (some 18, 0)], []), (20, [(some 24, 0), (some 14, 0)], [45]), (3, [(some 23, 0), (some 18, 0)], []), (20, [(some 23, 0), (some 14, 0)], [45]), (3, [(some 18, 0), (none, 0)], []), (3, [(some 15, 0), (none, 0)], []), (0, [(some 21, 0), (some 22, 0)], []), (20, [(some 22, 0), (some 16, 0)], [46]), (20, [(some 21, 0), (some 14, 0)], [46]), (0, [(none, 0), (none, 0)], []), (1, [(some 20, 0), (none, (-1))], []), (20, [(some 20, 0), (some 16, 0)], [46]), (0, [(none, 0), (none, 0)], []), (1, [(some 19, 0), (none, (-1))], []), (20, [(some 19, 0), (some 14, 0)], [46]), (1, [(none, 1), (none, 0)], []), (3, [(none, 3), (some 16, 0)], []), (3, [(some 16, 0), (none, 0)], []), (1, [(none, 1), (none, 0)], []), (3, [(none, 3), (some 14, 0)], []), (3, [(some 14, 0), (none, 0)], [])], (26, [(some 17, 0), (some 18, 0), (none, 60)], []))
set_option maxRecDepth 20000 in
theorem v_xo_copy_0_18 {PT : PTy} (hp : HP9 PT) : vcOk PT w_xo_copy_0_18 := vc_iv [(14, 0, 0), (15, 0, 60), (16, 2, 2), (17, 0, 60), (18, 0, 60), (19, 0, 2), (20, 0, 2), (21, (-1), 2), (22, (-1), 2), (23, 0, 60), (24, 0, 60), (25, 0, 60), (26, 0, 60), (27, 0, 60), (28, 0, 60)] [45, 46] (by decide +kernel) (fun ρ α => by
  intro r14 g14 b14 r15 g15 b15 r16 g16 b16 r17 g17 b17 r18 g18 b18 r19 g19 b19 r20 g20 b20 r21 g21 b21 r22 g22 b22 r23 g23 b23 r24 g24 b24 r25 g25 b25 r26 g26 b26 r27 g27 b27 r28 g28 b28 a45 h45 a46 h46 f0 f1 f2 f3 f4 f5 f6 f7 f8 f9 f10 f11 f12 f13 f14 f15 f16 f17 f18 f19 f20 f21 f22 f23 f24 f25 f26 f27 f28 f29 f30 f31 f32 tt
  clear f2 f8 f9 f10 f16 f17 f21 f22 f24 f25 f27 f28 f29 f30 f31 f32
  simp only [hF0, hF3, hF5, hF20, hF26, den_s, den_c, Int.add_zero, List.map_cons, List.map_nil, g14.eq, g15.eq, g16.eq, g17.eq, g18.eq, g19.eq, g20.eq, g21.eq, g22.eq, g23.eq, g24.eq, g25.eq, g26.eq, g27.eq, g28.eq, h45, h46] at f0 f1 f3 f4 f5 f6 f7 f11 f12 f13 f14 f15 f18 f19 f20 f23 f26 ⊢
  subst f4
  subst f5
  subst f7
  subst f12
  subst f13
  subst f15
  subst f19
  subst f20
  subst f23
  subst f26
  ((repeat' (first | apply And.intro | intro h)) <;> first | omega | rfl | trivial | (exfalso; omega) | (congr 1; omega) | (congr 1; (repeat' split) <;> first | rfl | (exfalso; omega))))
def w_xo_copy_0_19 : VC := ((bT ++ [(0, 0), (0, 60), (2, 2), (0, 60), (0, 60), (0, 2), (0, 2), ((-1), 2), ((-1), 2), (0, 60), (0, 60), (0, 60), (0, 60), (0, 60), (0, 60)]), [(22, [(some 15, 0), (some 17, 0), (some 18, 0)], [58, 41, 43]), (0, [(some 16, 0), (none, 2)], []), (0, [(some 14, 0), (none, 0)], []), (1, [(none, 1), (none, 0)], []), (3, [(some 28, 0), (some 17, 0)], []), (5, [(some 28, 0), (some 27, 0), (some 18, 0)], []), (20, [(some 27, 0), (some 16, 0)], [45]), (3, [(some 26, 0), (some 18, 0)], []), (20, [(some 26, 0), (some 16, 0)], [45]), (3, [(some 18, 0), (none, 0)], []), (3, [(some 17, 0), (none, 0)], []), (1, [(none, 1), (none, 0)], []), (3, [(some 25, 0), (some 15, 0)], []), (5, [(some 25, 0), (some 24, 0), (some 18, 0)], []), (20, [(some 24, 0), (some 14, 0)], [45]), (3, [(some 23, 0), (some 18, 0)], []), (20, [(some 23, 0), (some 14, 0)], [45]), (3, [(some 18, 0), (none, 0)], []), (3, [(some 15, 0), (none, 0)], []), (0, [(some 21, 0), (some 22, 0)], []), (20, [(some 22, 0), (some 16, 0)], [46]), (20, [(some 21, 0), (some 14, 0)], [46]), (0, [(none, 0), (none, 0)], []), (1, [(some 20, 0), (none, (-1))], []), (20, [(some 20, 0), (some 16, 0)], [46]), (0, [(none, 0), (none, 0)], []), (1, [(some 19, 0), (none, (-1))], []), (20, [(some 19, 0), (some 14, 0)], [46]), (1, [(none, 1), (none, 0)], []), (3, [(none, 3), (some 16, 0)], []), (3, [(some 16, 0), (none, 0)], []), (1, [(none, 1), (none, 0)], []), (3, [(none, 3), (some 14, 0)], []), (3, [(some 14, 0), (none, 0)], [])], (135, [(none, 1), (some 14, 0), (some 15, 0), (some 16, 0), (some 17, 0), (some 18, 0), (some 13, 0), (some 13, 0)], [45, 46, 41, 42, 43, 44, 41, 42, 58, 44]))
set_option maxRecDepth 20000 in
theorem v_xo_copy_0_19 {PT : PTy} (hp : HP9 PT) : vcOk PT w_xo_copy_0_19 := vc_iv [(13, 0, 5), (14, 0, 0), (15, 0, 60), (16, 2, 2), (17, 0, 60), (18, 0, 60), (19, 0, 2), (20, 0, 2), (21, (-1), 2), (22, (-1), 2), (23, 0, 60), (24, 0, 60), (25, 0, 60), (26, 0, 60), (27, 0, 60), (28, 0, 60)] [41, 42, 43, 44, 45, 46, 58] (by decide +kernel) (fun ρ α => by
  intro r13 g13 b13 r14 g14 b14 r15 g15 b15 r16 g16 b16 r17 g17 b17 r18 g18 b18 r19 g19 b19 r20 g20 b20 r21 g21 b21 r22 g22 b22 r23 g23 b23 r24 g24 b24 r25 g25 b25 r26 g26 b26 r27 g27 b27 r28 g28 b28 a41 h41 a42 h42 a43 h43 a44 h44 a45 h45 a46 h46 a58 h58 f0 f1 f2 f3 f4 f5 f6 f7 f8 f9 f10 f11 f12 f13 f14 f15 f16 f17 f18 f19 f20 f21 f22 f23 f24 f25 f26 f27 f28 f29 f30 f31 f32 f33 tt
  clear f3 f9 f10 f11 f17 f18 f22 f23 f25 f26 f28 f29 f30 f31 f32 f33
  have e135 : PT 135 = P_cpX := pe135_9 hp
  simp only [hF0, hF3, hF5, hF20, hF22, hFp_135, e135, P_cpX, den_s, den_c, Int.add_zero, List.map_cons, List.map_nil, g13.eq, g14.eq, g15.eq, g16.eq, g17.eq, g18.eq, g19.eq, g20.eq, g21.eq, g22.eq, g23.eq, g24.eq, g25.eq, g26.eq, g27.eq, g28.eq, h41, h42, h43, h44, h45, h46, h58] at f0 f1 f2 f4 f5 f6 f7 f8 f12 f13 f14 f15 f16 f19 f20 f21 f24 f27 ⊢
  subst f0
  subst f5
  subst f6
  subst f8
  subst f13
  subst f14
  subst f16
  subst f20
  subst f21
  subst f24
  subst f27
  ((repeat' (first | apply And.intro | intro h)) <;> first | omega | rfl | trivial | (exfalso; omega) | (congr 1; omega) | (congr 1; (repeat' split) <;> first | rfl | (exfalso; omega))))
def w_xo_copy_0_20 : VC := ((bT ++ [(0, 0), (0, 60), (3, 3), (0, 60), (0, 60), (0, 2), (0, 2), ((-1), 2), ((-1), 2), (0, 60), (0, 60), (0, 60), (0, 60), (0, 60), (0, 60)]), [(0, [(some 16, 0), (none, 3)], []), (0, [(some 14, 0), (none, 0)], []), (1, [(none, 1), (none, 0)], []), (3, [(some 28, 0), (some 17, 0)], []), (5, [(some 28, 0), (some 27, 0), (some 18, 0)], []), (20, [(some 27, 0), (some 16, 0)], [45]), (3, [(some 26, 0), (some 18, 0)], []), (20, [(some 26, 0), (some 16, 0)], [45]), (3, [(some 18, 0), (none, 0)], []), (3, [(some 17, 0), (none, 0)], []), (1, [(none, 1), (none, 0)], []), (3, [(some 25, 0), (some 15, 0)], []), (5, [(some 25, 0), (some 24, 0), (some 18, 0)], []), (20, [(some 24, 0), (some 14, 0)], [45]), (3, [(some 23, 0), (some 18, 0)], []), (20, [(some 23, 0), (some 14, 0)], [45]), (3, [(some 18, 0), (none, 0)], []), (3, [(some 15, 0), (none, 0)], []), (0, [(some 21, 0), (some 22, 0)], []), (20, [(some 22, 0), (some 16, 0)], [46]), (20, [(some 21, 0), (some 14, 0)], [46]), (0, [(none, 0), (none, 0)], []), (1, [(some 20, 0), (none, (-1))], []), (20, [(some 20, 0), (some 16, 0)], [46]), (0, [(none, 0), (none, 0)], []), (1, [(some 19, 0), (none, (-1))], []), (20, [(some 19, 0), (some 14, 0)], [46]), (1, [(none, 1), (none, 0)], []), (3, [(none, 3), (some 16, 0)], []), (3, [(some 16, 0), (none, 0)], []), (1, [(none, 1), (none, 0)], []), (3, [(none, 3), (some 14, 0)], []), (3, [(some 14, 0), (none, 0)], [])], (26, [(some 15, 0), (some 18, 0), (none, 60)], []))
set_option maxRecDepth 20000 in
theorem v_xo_copy_0_20 {PT : PTy} (hp : HP9 PT) : vcOk PT w_xo_copy_0_20 := vc_iv [(14, 0, 0), (15, 0, 60), (16, 3, 3), (17, 0, 60), (18, 0, 60), (19, 0, 2), (20, 0, 2), (21, (-1), 2), (22, (-1), 2), (23, 0, 60), (24, 0, 60), (25, 0, 60), (26, 0, 60), (27, 0, 60), (28, 0, 60)] [45, 46] (by decide +kernel) (fun ρ α => by
  intro r14 g14 b14 r15 g15 b15 r16 g16 b16 r17 g17 b17 r18 g18 b18 r19 g19 b19 r20 g20 b20 r21 g21 b21 r22 g22 b22 r23 g23 b23 r24 g24 b24 r25 g25 b25 r26 g26 b26 r27 g27 b27 r28 g28 b28 a45 h45 a46 h46 f0 f1 f2 f3 f4 f5 f6 f7 f8 f9 f10 f11 f12 f13 f14 f15 f16 f17 f18 f19 f20 f21 f22 f23 f24 f25 f26 f27 f28 f29 f30 f31 f32 tt
  clear f2 f8 f9 f10 f16 f17 f21 f22 f24 f25 f27 f28 f29 f30 f31 f32
  simp only [hF0, hF3, hF5, hF20, hF26, den_s, den_c, Int.add_zero, List.map_cons, List.map_nil, g14.eq, g15.eq, g16.eq, g17.eq, g18.eq, g19.eq, g20.eq, g21.eq, g22.eq, g23.eq, g24.eq, g25.eq, g26.eq, g27.eq, g28.eq, h45, h46] at f0 f1 f3 f4 f5 f6 f7 f11 f12 f13 f14 f15 f18 f19 f20 f23 f26 ⊢
  subst f4
  subst f5
  subst f7
  subst f12
  subst f13
  subst f15
  subst f19
  subst f20
  subst f23
  subst f26
  ((repeat' (first | apply And.intro | intro h)) <;> first | omega | rfl | trivial | (exfalso; omega) | (congr 1; omega) | (congr 1; (repeat' split) <;> first | rfl | (exfalso; omega))))
def w_xo_copy_0_21 : VC := ((bT ++ [(0, 0), (0, 60), (3, 3), (0, 60), (0, 60), (0, 2), (0, 2), ((-1), 2), ((-1), 2), (0, 60), (0, 60), (0, 60), (0, 60), (0, 60), (0, 60)]), [(0, [(some 16, 0), (none, 3)], []), (0, [(some 14, 0), (none, 0)], []), (1, [(none, 1), (none, 0)], []), (3, [(some 28, 0), (some 17, 0)], []), (5, [(some 28, 0), (some 27, 0), (some 18, 0)], []), (20, [(some 27, 0), (some 16, 0)], [45]), (3, [(some 26, 0), (some 18, 0)], []), (20, [(some 26, 0), (some 16, 0)], [45]), (3, [(some 18, 0), (none, 0)], []), (3, [(some 17, 0), (none, 0)], []), (1, [(none, 1), (none, 0)], []), (3, [(some 25, 0), (some 15, 0)], []), (5, [(some 25, 0), (some 24, 0), (some 18, 0)], []), (20, [(some 24, 0), (some 14, 0)], [45]), (3, [(some 23, 0), (some 18, 0)], []), (20, [(some 23, 0), (some 14, 0)], [45]), (3, [(some 18, 0), (none, 0)], []), (3, [(some 15, 0), (none, 0)], []), (0, [(some 21, 0), (some 22, 0)], []), (20, [(some 22, 0), (some 16, 0)], [46]), (20, [(some 21, 0), (some 14, 0)], [46]), (0, [(none, 0), (none, 0)], []), (1, [(some 20, 0), (none, (-1))], []), (20, [(some 20, 0), (some 16, 0)], [46]), (0, [(none, 0), (none, 0)], []), (1, [(some 19, 0), (none, (-1))], []), (20, [(some 19, 0), (some 14, 0)], [46]), (1, [(none, 1), (none, 0)], []), (3, [(none, 3), (some 16, 0)], []), (3, [(some 16, 0), (none, 0)], []), (1, [(none, 1), (none, 0)], []), (3, [(none, 3), (some 14, 0)], []), (3, [(some 14, 0), (none, 0)], [])], (26, [(some 17, 0), (some 18, 0), (none, 60)], []))
set_option maxRecDepth 20000 in
theorem v_xo_copy_0_21 {PT : PTy} (hp : HP9 PT) : vcOk PT w_xo_copy_0_21 := vc_iv [(14, 0, 0), (15, 0, 60), (16, 3, 3), (17, 0, 60), (18, 0, 60), (19, 0, 2), (20, 0, 2), (21, (-1), 2), (22, (-1), 2), (23, 0, 60), (24, 0, 60), (25, 0, 60), (26, 0, 60), (27, 0, 60), (28, 0, 60)] [45, 46] (by decide +kernel) (fun ρ α => by
  intro r14 g14 b14 r15 g15 b15 r16 g16 b16 r17 g17 b17 r18 g18 b18 r19 g19 b19 r20 g20 b20 r21 g21 b21 r22 g22 b22 r23 g23 b23 r24 g24 b24 r25 g25 b25 r26 g26 b26 r27 g27 b27 r28 g28 b28 a45 h45 a46 h46 f0 f1 f2 f3 f4 f5 f6 f7 f8 f9 f10 f11 f12 f13 f14 f15 f16 f17 f18 f19 f20 f21 f22 f23 f24 f25 f26 f27 f28 f29 f30 f31 f32 tt
  clear f2 f8 f9 f10 f16 f17 f21 f22 f24 f25 f27 f28 f29 f30 f31 f32
  simp only [hF0, hF3, hF5, hF20, hF26, den_s, den_c, Int.add_zero, List.map_cons, List.map_nil, g14.eq, g15.eq, g16.eq, g17.eq, g18.eq, g19.eq, g20.eq, g21.eq, g22.eq, g23.eq, g24.eq, g25.eq, g26.eq, g27.eq, g28.eq, h45, h46] at f0 f1 f3 f4 f5 f6 f7 f11 f12 f13 f14 f15 f18 f19 f20 f23 f26 ⊢
  subst f4
  subst f5
  subst f7
  subst f12
  subst f13
  subst f15
  subst f19
  subst f20
  subst f23
  subst f26
  ((repeat' (first | apply And.intro | intro h)) <;> first | omega | rfl | trivial | (exfalso; omega) | (congr 1; omega) | (congr 1; (repeat' split) <;> first | rfl | (exfalso; omega))))
def w_xo_copy_0_22 : VC := ((bT ++ [(0, 0), (0, 60), (3, 3), (0, 60), (0, 60), (0, 2), (0, 2), ((-1), 2), ((-1), 2), (0, 60), (0, 60), (0, 60), (0, 60), (0, 60), (0, 60)]), [(22, [(some 15, 0), (some 17, 0), (some 18, 0)], [58, 41, 44]), (0, [(some 16, 0), (none, 3)], []), (0, [(some 14, 0), (none, 0)], []), (1, [(none, 1), (none, 0)], []), (3, [(some 28, 0), (some 17, 0)], []), (5, [(some 28, 0), (some 27, 0), (some 18, 0)], []), (20, [(some 27, 0), (some 16, 0)], [45]), (3, [(some 26, 0), (some 18, 0)], []), (20, [(some 26, 0), (some 16, 0)], [45]), (3, [(some 18, 0), (none, 0)], []), (3, [(some 17, 0), (none, 0)], []), (1, [(none, 1), (none, 0)], []), (3, [(some 25, 0), (some 15, 0)], []), (5, [(some 25, 0), (some 24, 0), (some 18, 0)], []), (20, [(some 24, 0), (some 14, 0)], [45]), (3, [(some 23, 0), (some 18, 0)], []), (20, [(some 23, 0), (some 14, 0)], [45]), (3, [(some 18, 0), (none, 0)], []), (3, [(some 15, 0), (none, 0)], []), (0, [(some 21, 0), (some 22, 0)], []), (20, [(some 22, 0), (some 16, 0)], [46]), (20, [(some 21, 0), (some 14, 0)], [46]), (0, [(none, 0), (none, 0)], []), (1, [(some 20, 0), (none, (-1))], []), (20, [(some 20, 0), (some 16, 0)], [46]), (0, [(none, 0), (none, 0)], []), (1, [(some 19, 0), (none, (-1))], []), (20, [(some 19, 0), (some 14, 0)], [46]), (1, [(none, 1), (none, 0)], []), (3, [(none, 3), (some 16, 0)], []), (3, [(some 16, 0), (none, 0)], []), (1, [(none, 1), (none, 0)], []), (3, [(none, 3), (some 14, 0)], []), (3, [(some 14, 0), (none, 0)], [])], (135, [(none, 1), (some 14, 0), (some 15, 0), (some 16, 0), (some 17, 0), (some 18, 0), (some 13, 0), (some 13, 0)], [45, 46, 41, 42, 43, 44, 41, 42, 43, 58]))
set_option maxRecDepth 20000 in
theorem v_xo_copy_0_22 {PT : PTy} (hp : HP9 PT) : vcOk PT w_xo_copy_0_22 := vc_iv [(13, 0, 5), (14, 0, 0), (15, 0, 60), (16, 3, 3), (17, 0, 60), (18, 0, 60), (19, 0, 2), (20, 0, 2), (21, (-1), 2), (22, (-1), 2), (23, 0, 60), (24, 0, 60), (25, 0, 60), (26, 0, 60), (27, 0, 60), (28, 0, 60)] [41, 42, 43, 44, 45, 46, 58] (by decide +kernel) (fun ρ α => by
  intro r13 g13 b13 r14 g14 b14 r15 g15 b15 r16 g16 b16 r17 g17 b17 r18 g18 b18 r19 g19 b19 r20 g20 b20 r21 g21 b21 r22 g22 b22 r23 g23 b23 r24 g24 b24 r25 g25 b25 r26 g26 b26 r27 g27 b27 r28 g28 b28 a41 h41 a42 h42 a43 h43 a44 h44 a45 h45 a46 h46 a58 h58 f0 f1 f2 f3 f4 f5 f6 f7 f8 f9 f10 f11 f12 f13 f14 f15 f16 f17 f18 f19 f20 f21 f22 f23 f24 f25 f26 f27 f28 f29 f30 f31 f32 f33 tt
  clear f3 f9 f10 f11 f17 f18 f22 f23 f25 f26 f28 f29 f30 f31 f32 f33
  have e135 : PT 135 = P_cpX := pe135_9 hp
  simp only [hF0, hF3, hF5, hF20, hF22, hFp_135, e135, P_cpX, den_s, den_c, Int.add_zero, List.map_cons, List.map_nil, g13.eq, g14.eq, g15.eq, g16.eq, g17.eq, g18.eq, g19.eq, g20.eq, g21.eq, g22.eq, g23.eq, g24.eq, g25.eq, g26.eq, g27.eq, g28.eq, h41, h42, h43, h44, h45, h46, h58] at f0 f1 f2 f4 f5 f6 f7 f8 f12 f13 f14 f15 f16 f19 f20 f21 f24 f27 ⊢
  subst f0
  subst f5
  subst f6
  subst f8
  subst f13
  subst f14
  subst f16
  subst f20
  subst f21
  subst f24
  subst f27
  ((repeat' (first | apply And.intro | intro h)) <;> first | omega | rfl | trivial | (exfalso; omega) | (congr 1; omega) | (congr 1; (repeat' split) <;> first | rfl | (exfalso; omega))))
def w_xo_copy_0_23 : VC := ((bT ++ [(1, 1), (0, 60), (0, 0), (0, 60), (0, 60), (0, 2), (0, 2), ((-1), 2), ((-1), 2), (0, 60), (0, 60), (0, 60), (0, 60), (0, 60), (0, 60)]), [(0, [(some 16, 0), (none, 0)], []), (0, [(some 14, 0), (none, 1)], []), (1, [(none, 1), (none, 0)], []), (3, [(some 28, 0), (some 17, 0)], []), (5, [(some 28, 0), (some 27, 0), (some 18, 0)], []), (20, [(some 27, 0), (some 16, 0)], [45]), (3, [(some 26, 0), (some 18, 0)], []), (20, [(some 26, 0), (some 16, 0)], [45]), (3, [(some 18, 0), (none, 0)], []), (3, [(some 17, 0), (none, 0)], []), (1, [(none, 1), (none, 0)], []), (3, [(some 25, 0), (some 15, 0)], []), (5, [(some 25, 0), (some 24, 0), (some 18, 0)], []), (20, [(some 24, 0), (some 14, 0)], [45]), (3, [(some 23, 0), (some 18, 0)], []), (20, [(some 23, 0), (some 14, 0)], [45]), (3, [(some 18, 0), (none, 0)], []), (3, [(some 15, 0), (none, 0)], []), (0, [(some 21, 0), (some 22, 0)], []), (20, [(some 22, 0), (some 16, 0)], [46]), (20, [(some 21, 0), (some 14, 0)], [46]), (0, [(none, 0), (none, 0)], []), (1, [(some 20, 0), (none, (-1))], []), (20, [(some 20, 0), (some 16, 0)], [46]), (0, [(none, 0), (none, 0)], []), (1, [(some 19, 0), (none, (-1))], []), (20, [(some 19, 0), (some 14, 0)], [46]), (1, [(none, 1), (none, 0)], []), (3, [(none, 3), (some 16, 0)], []), (3, [(some 16, 0), (none, 0)], []), (1, [(none, 1), (none, 0)], []), (3, [(none, 3), (some 14, 0)], []), (3, [(some 14, 0), (none, 0)], [])], (26, [(some 15, 0), (some 18, 0), (none, 60)], []))
set_option maxRecDepth 20000 in
theorem v_xo_copy_0_23 {PT : PTy} (hp : HP9 PT) : vcOk PT w_xo_copy_0_23 := vc_iv [(14, 1, 1), (15, 0, 60), (16, 0, 0), (17, 0, 60), (18, 0, 60), (19, 0, 2), (20, 0, 2), (21, (-1), 2), (22, (-1), 2), (23, 0, 60), (24, 0, 60), (25, 0, 60), (26, 0, 60), (27, 0, 60), (28, 0, 60)] [45, 46] (by decide +kernel) (fun ρ α => by
  intro r14 g14 b14 r15 g15 b15 r16 g16 b16 r17 g17 b17 r18 g18 b18 r19 g19 b19 r20 g20 b20 r21 g21 b21 r22 g22 b22 r23 g23 b23 r24 g24 b24 r25 g25 b25 r26 g26 b26 r27 g27 b27 r28 g28 b28 a45 h45 a46 h46 f0 f1 f2 f3 f4 f5 f6 f7 f8 f9 f10 f11 f12 f13 f14 f15 f16 f17 f18 f19 f20 f21 f22 f23 f24 f25 f26 f27 f28 f29 f30 f31 f32 tt
  clear f2 f8 f9 f10 f16 f17 f21 f22 f24 f25 f27 f28 f29 f30 f31 f32
  simp only [hF0, hF3, hF5, hF20, hF26, den_s, den_c, Int.add_zero, List.map_cons, List.map_nil, g14.eq, g15.eq, g16.eq, g17.eq, g18.eq, g19.eq, g20.eq, g21.eq, g22.eq, g23.eq, g24.eq, g25.eq, g26.eq, g27.eq, g28.eq, h45, h46] at f0 f1 f3 f4 f5 f6 f7 f11 f12 f13 f14 f15 f18 f19 f20 f23 f26 ⊢
  subst f4
  subst f5
  subst f7
  subst f12
  subst f13
  subst f15
  subst f19
  subst f20
  subst f23
  subst f26
  ((repeat' (first | apply And.intro | intro h)) <;> first | omega | rfl | trivial | (exfalso; omega) | (congr 1; omega) | (congr 1; (repeat' split) <;> first | rfl | (exfalso; omega))))
def w_xo_copy_0_24 : VC := ((bT ++ [(1, 1), (0, 60), (0, 0), (0, 60), (0, 60), (0, 2), (0, 2), ((-1), 2), ((-1), 2), (0, 60), (0, 60), (0, 60), (0, 60), (0, 60), (0, 60)]), [(0, [(some 16, 0), (none, 0)], []), (0, [(some 14, 0), (none, 1)], []), (1, [(none, 1), (none, 0)], []), (3, [(some 28, 0), (some 17, 0)], []), (5, [(some 28, 0), (some 27, 0), (some 18, 0)], []), (20, [(some 27, 0), (some 16, 0)], [45]), (3, [(some 26, 0), (some 18, 0)], []), (20, [(some 26, 0), (some 16, 0)], [45]), (3, [(some 18, 0), (none, 0)], []), (3, [(some 17, 0), (none, 0)], []), (1, [(none, 1), (none, 0)], []), (3, [(some 25, 0), (some 15, 0)], []), (5, [(some 25, 0), (some 24, 0), (some 18, 0)], []), (20, [(some 24, 0), (some 14, 0)], [45]), (3, [(some 23, 0), (some 18, 0)], []), (20, [(some 23, 0), (some 14, 0)], [45]), (3, [(some 18, 0), (none, 0)], []), (3, [(some 15, 0), (none, 0)], []), (0, [(some 21, 0), (some 22, 0)], []), (20, [(some 22, 0), (some 16, 0)], [46]), (20, [(some 21, 0), (some 14, 0)], [46]), (0, [(none, 0), (none, 0)], []), (1, [(some 20, 0), (none, (-1))], []), (20, [(some 20, 0), (some 16, 0)], [46]), (0, [(none, 0), (none, 0)], []), (1, [(some 19, 0), (none, (-1))], []), (20, [(some 19, 0), (some 14, 0)], [46]), (1, [(none, 1), (none, 0)], []), (3, [(none, 3), (some 16, 0)], []), (3, [(some 16, 0), (none, 0)], []), (1, [(none, 1), (none, 0)], []), (3, [(none, 3), (some 14, 0)], []), (3, [(some 14, 0), (none, 0)], [])], (26, [(some 17, 0), (some 18, 0), (none, 60)], []))
set_option maxRecDepth 20000 in
theorem v_xo_copy_0_24 {PT : PTy} (hp : HP9 PT) : vcOk PT w_xo_copy_0_24 := vc_iv [(14, 1, 1), (15, 0, 60), (16, 0, 0), (17, 0, 60), (18, 0, 60), (19, 0, 2), (20, 0, 2), (21, (-1), 2), (22, (-1), 2), (23, 0, 60), (24, 0, 60), (25, 0, 60), (26, 0, 60), (27, 0, 60), (28, 0, 60)] [45, 46] (by decide +kernel) (fun ρ α => by
  intro r14 g14 b14 r15 g15 b15 r16 g16 b16 r17 g17 b17 r18 g18 b18 r19 g19 b19 r20 g20 b20 r21 g21 b21 r22 g22 b22 r23 g23 b23 r24 g24 b24 r25 g25 b25 r26 g26 b26 r27 g27 b27 r28 g28 b28 a45 h45 a46 h46 f0 f1 f2 f3 f4 f5 f6 f7 f8 f9 f10 f11 f12 f13 f14 f15 f16 f17 f18 f19 f20 f21 f22 f23 f24 f25 f26 f27 f28 f29 f30 f31 f32 tt
  clear f2 f8 f9 f10 f16 f17 f21 f22 f24 f25 f27 f28 f29 f30 f31 f32
  simp only [hF0, hF3, hF5, hF20, hF26, den_s, den_c, Int.add_zero, List.map_cons, List.map_nil, g14.eq, g15.eq, g16.eq, g17.eq, g18.eq, g19.eq, g20.eq, g21.eq, g22.eq, g23.eq, g24.eq, g25.eq, g26.eq, g27.eq, g28.eq, h45, h46] at f0 f1 f3 f4 f5 f6 f7 f11 f12 f13 f14 f15 f18 f19 f20 f23 f26 ⊢
  subst f4
  subst f5
  subst f7
  subst f12
  subst f13
  subst f15
  subst f19
  subst f20
  subst f23
  subst f26
  ((repeat' (first | apply And.intro | intro h)) <;> first | omega | rfl | trivial | (exfalso; omega) | (congr 1; omega) | (congr 1; (repeat' split) <;> first | rfl | (exfalso; omega))))
def w_xo_copy_0_25 : VC := ((bT ++ [(1, 1), (0, 60), (0, 0), (0, 60), (0, 60), (0, 2), (0, 2), ((-1), 2), ((-1), 2), (0, 60), (0, 60), (0, 60), (0, 60), (0, 60), (0, 60)]), [(22, [(some 15, 0), (some 17, 0), (some 18, 0)], [58, 42, 41]), (0, [(some 16, 0), (none, 0)], []), (0, [(some 14, 0), (none, 1)], []), (1, [(none, 1), (none, 0)], []), (3, [(some 28, 0), (some 17, 0)], []), (5, [(some 28, 0), (some 27, 0), (some 18, 0)], []), (20, [(some 27, 0), (some 16, 0)], [45]), (3, [(some 26, 0), (some 18, 0)], []), (20, [(some 26, 0), (some 16, 0)], [45]), (3, [(some 18, 0), (none, 0)], []), (3, [(some 17, 0), (none, 0)], []), (1, [(none, 1), (none, 0)], []), (3, [(some 25, 0), (some 15, 0)], []), (5, [(some 25, 0), (some 24, 0), (some 18, 0)], []), (20, [(some 24, 0), (some 14, 0)], [45]), (3, [(some 23, 0), (some 18, 0)], []), (20, [(some 23, 0), (some 14, 0)], [45]), (3, [(some 18, 0), (none, 0)], []), (3, [(some 15, 0), (none, 0)], []), (0, [(some 21, 0), (some 22, 0)], []), (20, [(some 22, 0), (some 16, 0)], [46]), (20, [(some 21, 0), (some 14, 0)], [46]), (0, [(none, 0), (none, 0)], []), (1, [(some 20, 0), (none, (-1))], []), (20, [(some 20, 0), (some 16, 0)], [46]), (0, [(none, 0), (none, 0)], []), (1, [(some 19, 0), (none, (-1))], []), (20, [(some 19, 0), (some 14, 0)], [46]), (1, [(none, 1), (none, 0)], []), (3, [(none, 3), (some 16, 0)], []), (3, [(some 16, 0), (none, 0)], []), (1, [(none, 1), (none, 0)], []), (3, [(none, 3), (some 14, 0)], []), (3, [(some 14, 0), (none, 0)], [])], (135, [(none, 1), (some 14, 0), (some 15, 0), (some 16, 0), (some 17, 0), (some 18, 0), (some 13, 0), (some 13, 0)], [45, 46, 41, 42, 43, 44, 58, 42, 43, 44]))
set_option maxRecDepth 20000 in
theorem v_xo_copy_0_25 {PT : PTy} (hp : HP9 PT) : vcOk PT w_xo_copy_0_25 := vc_iv [(13, 0, 5), (14, 1, 1), (15, 0, 60), (16, 0, 0), (17, 0, 60), (18, 0, 60), (19, 0, 2), (20, 0, 2), (21, (-1), 2), (22, (-1), 2), (23, 0, 60), (24, 0, 60), (25, 0, 60), (26, 0, 60), (27, 0, 60), (28, 0, 60)] [41, 42, 43, 44, 45, 46, 58] (by decide +kernel) (fun ρ α => by
  intro r13 g13 b13 r14 g14 b14 r15 g15 b15 r16 g16 b16 r17 g17 b17 r18 g18 b18 r19 g19 b19 r20 g20 b20 r21 g21 b21 r22 g22 b22 r23 g23 b23 r24 g24 b24 r25 g25 b25 r26 g26 b26 r27 g27 b27 r28 g28 b28 a41 h41 a42 h42 a43 h43 a44 h44 a45 h45 a46 h46 a58 h58 f0 f1 f2 f3 f4 f5 f6 f7 f8 f9 f10 f11 f12 f13 f14 f15 f16 f17 f18 f19 f20 f21 f22 f23 f24 f25 f26 f27 f28 f29 f30 f31 f32 f33 tt
  clear f3 f9 f10 f11 f17 f18 f22 f23 f25 f26 f28 f29 f30 f31 f32 f33
  have e135 : PT 135 = P_cpX := pe135_9 hp
  simp only [hF0, hF3, hF5, hF20, hF22, hFp_135, e135, P_cpX, den_s, den_c, Int.add_zero, List.map_cons, List.map_nil, g13.eq, g14.eq, g15.eq, g16.eq, g17.eq, g18.eq, g19.eq, g20.eq, g21.eq, g22.eq, g23.eq, g24.eq, g25.eq, g26.eq, g27.eq, g28.eq, h41, h42, h43, h44, h45, h46, h58] at f0 f1 f2 f4 f5 f6 f7 f8 f12 f13 f14 f15 f16 f19 f20 f21 f24 f27 ⊢
  subst f0
  subst f5
  subst f6
  subst f8
  subst f13
  subst f14
  subst f16
  subst f20
  subst f21
  subst f24
  subst f27
  ((repeat' (first | apply And.intro | intro h)) <;> first | omega | rfl | trivial | (exfalso; omega) | (congr 1; omega) | (congr 1; (repeat' split) <;> first | rfl | (exfalso; omega))))
def w_xo_copy_0_26 : VC := ((bT ++ [(1, 1), (0, 60), (1, 1), (0, 60), (0, 60), (0, 2), (0, 2), ((-1), 2), ((-1), 2), (0, 60), (0, 60), (0, 60), (0, 60), (0, 60), (0, 60)]), [(0, [(some 16, 0), (none, 1)], []), (0, [(some 14, 0), (none, 1)], []), (1, [(none, 1), (none, 0)], []), (3, [(some 28, 0), (some 17, 0)], []), (5, [(some 28, 0), (some 27, 0), (some 18, 0)], []), (20, [(some 27, 0), (some 16, 0)], [45]), (3, [(some 26, 0), (some 18, 0)], []), (20, [(some 26, 0), (some 16, 0)], [45]), (3, [(some 18, 0), (none, 0)], []), (3, [(some 17, 0), (none, 0)], []), (1, [(none, 1), (none, 0)], []), (3, [(some 25, 0), (some 15, 0)], []), (5, [(some 25, 0), (some 24, 0), (some 18, 0)], []), (20, [(some 24, 0), (some 14, 0)], [45]), (3, [(some 23, 0), (some 18, 0)], []), (20, [(some 23, 0), (some 14, 0)], [45]), (3, [(some 18, 0), (none, 0)], []), (3, [(some 15, 0), (none, 0)], []), (0, [(some 21, 0), (some 22, 0)], []), (20, [(some 22, 0), (some 16, 0)], [46]), (20, [(some 21, 0), (some 14, 0)], [46]), (0, [(none, 0), (none, 0)], []), (1, [(some 20, 0), (none, (-1))], []), (20, [(some 20, 0), (some 16, 0)], [46]), (0, [(none, 0), (none, 0)], []), (1, [(some 19, 0), (none, (-1))], []), (20, [(some 19, 0), (some 14, 0)], [46]), (1, [(none, 1), (none, 0)], []), (3, [(none, 3), (some 16, 0)], []), (3, [(some 16, 0), (none, 0)], []), (1, [(none, 1), (none, 0)], []), (3, [(none, 3), (some 14, 0)], []), (3, [(some 14, 0), (none, 0)], [])], (26, [(some 15, 0), (some 18, 0), (none, 60)], []))
set_option maxRecDepth 20000 in
theorem v_xo_copy_0_26 {PT : PTy} (hp : HP9 PT) : vcOk PT w_xo_copy_0_26 := vc_iv [(14, 1, 1), (15, 0, 60), (16, 1, 1), (17, 0, 60), (18, 0, 60), (19, 0, 2), (20, 0, 2), (21, (-1), 2), (22, (-1), 2), (23, 0, 60), (24, 0, 60), (25, 0, 60), (26, 0, 60), (27, 0, 60), (28, 0, 60)] [45, 46] (by decide +kernel) (fun ρ α => by
  intro r14 g14 b14 r15 g15 b15 r16 g16 b16 r17 g17 b17 r18 g18 b18 r19 g19 b19 r20 g20 b20 r21 g21 b21 r22 g22 b22 r23 g23 b23 r24 g24 b24 r25 g25 b25 r26 g26 b26 r27 g27 b27 r28 g28 b28 a45 h45 a46 h46 f0 f1 f2 f3 f4 f5 f6 f7 f8 f9 f10 f11 f12 f13 f14 f15 f16 f17 f18 f19 f20 f21 f22 f23 f24 f25 f26 f27 f28 f29 f30 f31 f32 tt
  clear f2 f8 f9 f10 f16 f17 f21 f22 f24 f25 f27 f28 f29 f30 f31 f32
  simp only [hF0, hF3, hF5, hF20, hF26, den_s, den_c, Int.add_zero, List.map_cons, List.map_nil, g14.eq, g15.eq, g16.eq, g17.eq, g18.eq, g19.eq, g20.eq, g21.eq, g22.eq, g23.eq, g24.eq, g25.eq, g26.eq, g27.eq, g28.eq, h45, h46] at f0 f1 f3 f4 f5 f6 f7 f11 f12 f13 f14 f15 f18 f19 f20 f23 f26 ⊢
  subst f4
  subst f5
  subst f7
  subst f12
  subst f13
  subst f15
  subst f19
  subst f20
  subst f23
  subst f26
  ((repeat' (first | apply And.intro | intro h)) <;> first | omega | rfl | trivial | (exfalso; omega) | (congr 1; omega) | (congr 1; (repeat' split) <;> first | rfl | (exfalso; omega))))
def w_xo_copy_0_27 : VC := ((bT ++ [(1, 1), (0, 60), (1, 1), (0, 60), (0, 60), (0, 2), (0, 2), ((-1), 2), ((-1), 2), (0, 60), (0, 60), (0, 60), (0, 60), (0, 60), (0, 60)]), [(0, [(some 16, 0), (none, 1)], []), (0, [(some 14, 0), (none, 1)], []), (1, [(none, 1), (none, 0)], []), (3, [(some 28, 0), (some 17, 0)], []), (5, [(some 28, 0), (some 27, 0), (some 18, 0)], []), (20, [(some 27, 0), (some 16, 0)], [45]), (3, [(some 26, 0), (some 18, 0)], []), (20, [(some 26, 0), (some 16, 0)], [45]), (3, [(some 18, 0), (none, 0)], []), (3, [(some 17, 0), (none, 0)], []), (1, [(none, 1), (none, 0)], []), (3, [(some 25, 0), (some 15, 0)], []), (5, [(some 25, 0), (some 24, 0), (some 18, 0)], []), (20, [(some 24, 0), (some 14, 0)], [45]), (3, [(some 23, 0), (some 18, 0)], []), (20, [(some 23, 0), (some 14, 0)], [45]), (3, [(some 18, 0), (none, 0)], []), (3, [(some 15, 0), (none, 0)], []), (0, [(some 21, 0), (some 22, 0)], []), (20, [(some 22, 0), (some 16, 0)], [46]), (20, [(some 21, 0), (some 14, 0)], [46]), (0, [(none, 0), (none, 0)], []), (1, [(some 20, 0), (none, (-1))], []), (20, [(some 20, 0), (some 16, 0)], [46]), (0, [(none, 0), (none, 0)], []), (1, [(some 19, 0), (none, (-1))], []), (20, [(some 19, 0), (some 14, 0)], [46]), (1, [(none, 1), (none, 0)], []), (3, [(none, 3), (some 16, 0)], []), (3, [(some 16, 0), (none, 0)], []), (1, [(none, 1), (none, 0)], []), (3, [(none, 3), (some 14, 0)], []), (3, [(some 14, 0), (none, 0)], [])], (26, [(some 17, 0), (some 18, 0), (none, 60)], []))
set_option maxRecDepth 20000 in
theorem v_xo_copy_0_27 {PT : PTy} (hp : HP9 PT) : vcOk PT w_xo_copy_0_27 := vc_iv [(14, 1, 1), (15, 0, 60), (16, 1, 1), (17, 0, 60), (18, 0, 60), (19, 0, 2), (20, 0, 2), (21, (-1), 2), (22, (-1), 2), (23, 0, 60), (24, 0, 60), (25, 0, 60), (26, 0, 60), (27, 0, 60), (28, 0, 60)] [45, 46] (by decide +kernel) (fun ρ α => by
  intro r14 g14 b14 r15 g15 b15 r16 g16 b16 r17 g17 b17 r18 g18 b18 r19 g19 b19 r20 g20 b20 r21 g21 b21 r22 g22 b22 r23 g23 b23 r24 g24 b24 r25 g25 b25 r26 g26 b26 r27 g27 b27 r28 g28 b28 a45 h45 a46 h46 f0 f1 f2 f3 f4 f5 f6 f7 f8 f9 f10 f11 f12 f13 f14 f15 f16 f17 f18 f19 f20 f21 f22 f23 f24 f25 f26 f27 f28 f29 f30 f31 f32 tt
  clear f2 f8 f9 f10 f16 f17 f21 f22 f24 f25 f27 f28 f29 f30 f31 f32
  simp only [hF0, hF3, hF5, hF20, hF26, den_s, den_c, Int.add_zero, List.map_cons, List.map_nil, g14.eq, g15.eq, g16.eq, g17.eq, g18.eq, g19.eq, g20.eq, g21.eq, g22.eq, g23.eq, g24.eq, g25.eq, g26.eq, g27.eq, g28.eq, h45, h46] at f0 f1 f3 f4 f5 f6 f7 f11 f12 f13 f14 f15 f18 f19 f20 f23 f26 ⊢
  subst f4
  subst f5
  subst f7
  subst f12
  subst f13
  subst f15
  subst f19
  subst f20
  subst f23
  subst f26
  ((repeat' (first | apply And.intro | intro h)) <;> first | omega | rfl | trivial | (exfalso; omega) | (congr 1; omega) | (congr 1; (repeat' split) <;> first | rfl | (exfalso; omega))))
def w_xo_copy_0_28 : VC := ((bT ++ [(1, 1), (0, 60), (1, 1), (0, 60), (0, 60), (0, 2), (0, 2), ((-1), 2), ((-1), 2), (0, 60), (0, 60), (0, 60), (0, 60), (0, 60), (0, 60)]), [(22, [(some 15, 0), (some 17, 0), (some 18, 0)], [58, 42, 42]), (0, [(some 16, 0), (none, 1)], []), (0, [(some 14, 0), (none, 1)], []), (1, [(none, 1), (none, 0)], []), (3, [(some 28, 0), (some 17, 0)], []), (5, [(some 28, 0), (some 27, 0), (some 18, 0)], []), (20, [(some 27, 0), (some 16, 0)], [45]), (3, [(some 26, 0), (some 18, 0)], []), (20, [(some 26, 0), (some 16, 0)], [45]), (3, [(some 18, 0), (none, 0)], []), (3, [(some 17, 0), (none, 0)], []), (1, [(none, 1), (none, 0)], []), (3, [(some 25, 0), (some 15, 0)], []), (5, [(some 25, 0), (some 24, 0), (some 18, 0)], []), (20, [(some 24, 0), (some 14, 0)], [45]), (3, [(some 23, 0), (some 18, 0)], []), (20, [(some 23, 0), (some 14, 0)], [45]), (3, [(some 18, 0), (none, 0)], []), (3, [(some 15, 0), (none, 0)], []), (0, [(some 21, 0), (some 22, 0)], []), (20, [(some 22, 0), (some 16, 0)], [46]), (20, [(some 21, 0), (some 14, 0)], [46]), (0, [(none, 0), (none, 0)], []), (1, [(some 20, 0), (none, (-1))], []), (20, [(some 20, 0), (some 16, 0)], [46]), (0, [(none, 0), (none, 0)], []), (1, [(some 19, 0), (none, (-1))], []), (20, [(some 19, 0), (some 14, 0)], [46]), (1, [(none, 1), (none, 0)], []), (3, [(none, 3), (some 16, 0)], []), (3, [(some 16, 0), (none, 0)], []), (1, [(none, 1), (none, 0)], []), (3, [(none, 3), (some 14, 0)], []), (3, [(some 14, 0), (none, 0)], [])], (135, [(none, 1), (some 14, 0), (some 15, 0), (some 16, 0), (some 17, 0), (some 18, 0), (some 13, 0), (some 13, 0)], [45, 46, 41, 42, 43, 44, 41, 58, 43, 44]))
set_option maxRecDepth 20000 in
theorem v_xo_copy_0_28 {PT : PTy} (hp : HP9 PT) : vcOk PT w_xo_copy_0_28 := vc_iv [(13, 0, 5), (14, 1, 1), (15, 0, 60), (16, 1, 1), (17, 0, 60), (18, 0, 60), (19, 0, 2), (20, 0, 2), (21, (-1), 2), (22, (-1), 2), (23, 0, 60), (24, 0, 60), (25, 0, 60), (26, 0, 60), (27, 0, 60), (28, 0, 60)] [41, 42, 43, 44, 45, 46, 58] (by decide +kernel) (fun ρ α => by
  intro r13 g13 b13 r14 g14 b14 r15 g15 b15 r16 g16 b16 r17 g17 b17 r18 g18 b18 r19 g19 b19 r20 g20 b20 r21 g21 b21 r22 g22 b22 r23 g23 b23 r24 g24 b24 r25 g25 b25 r26 g26 b26 r27 g27 b27 r28 g28 b28 a41 h41 a42 h42 a43 h43 a44 h44 a45 h45 a46 h46 a58 h58 f0 f1 f2 f3 f4 f5 f6 f7 f8 f9 f10 f11 f12 f13 f14 f15 f16 f17 f18 f19 f20 f21 f22 f23 f24 f25 f26 f27 f28 f29 f30 f31 f32 f33 tt
  clear f3 f9 f10 f11 f17 f18 f22 f23 f25 f26 f28 f29 f30 f31 f32 f33
  have e135 : PT 135 = P_cpX := pe135_9 hp
  simp only [hF0, hF3, hF5, hF20, hF22, hFp_135, e135, P_cpX, den_s, den_c, Int.add_zero, List.map_cons, List.map_nil, g13.eq, g14.eq, g15.eq, g16.eq, g17.eq, g18.eq, g19.eq, g20.eq, g21.eq, g22.eq, g23.eq, g24.eq, g25.eq, g26.eq, g27.eq, g28.eq, h41, h42, h43, h44, h45, h46, h58] at f0 f1 f2 f4 f5 f6 f7 f8 f12 f13 f14 f15 f16 f19 f20 f21 f24 f27 ⊢
  subst f0
  subst f5
  subst f6
  subst f8
  subst f13
  subst f14
  subst f16
  subst f20
  subst f21
  subst f24
  subst f27
  ((repeat' (first | apply And.intro | intro h)) <;> first | omega | rfl | trivial | (exfalso; omega) | (congr 1; omega) | (congr 1; (repeat' split) <;> first | rfl | (exfalso; omega))))
def w_xo_copy_0_29 : VC := ((bT ++ [(1, 1), (0, 60), (2, 2), (0, 60), (0, 60), (0, 2), (0, 2), ((-1), 2), ((-1), 2), (0, 60), (0, 60), (0, 60), (0, 60), (0, 60), (0, 60)]), [(0, [(some 16, 0), (none, 2)], []), (0, [(some 14, 0), (none, 1)], []), (1, [(none, 1), (none, 0)], []), (3, [(some 28, 0), (some 17, 0)], []), (5, [(some 28, 0), (some 27, 0), (some 18, 0)], []), (20, [(some 27, 0), (some 16, 0)], [45]), (3, [(some 26, 0), (some 18, 0)], []), (20, [(some 26, 0), (some 16, 0)], [45]), (3, [(some 18, 0), (none, 0)], []), (3, [(some 17, 0), (none, 0)], []), (1, [(none, 1), (none, 0)], []), (3, [(some 25, 0), (some 15, 0)], []), (5, [(some 25, 0), (some 24, 0), (some 18, 0)], []), (20, [(some 24, 0), (some 14, 0)], [45]), (3, [(some 23, 0), (some 18, 0)], []), (20, [(some 23, 0), (some 14, 0)], [45]), (3, [(some 18, 0), (none, 0)], []), (3, [(some 15, 0), (none, 0)], []), (0, [(some 21, 0), (some 22, 0)], []), (20, [(some 22, 0), (some 16, 0)], [46]), (20, [(some 21, 0), (some 14, 0)], [46]), (0, [(none, 0), (none, 0)], []), (1, [(some 20, 0), (none, (-1))], []), (20, [(some 20, 0), (some 16, 0)], [46]), (0, [(none, 0), (none, 0)], []), (1, [(some 19, 0), (none, (-1))], []), (20, [(some 19, 0), (some 14, 0)], [46]), (1, [(none, 1), (none, 0)], []), (3, [(none, 3), (some 16, 0)], []), (3, [(some 16, 0), (none, 0)], []), (1, [(none, 1), (none, 0)], []), (3, [(none, 3), (some 14, 0)], []), (3, [(some 14, 0), (none, 0)], [])], (26, [(some 15, 0), (some 18, 0), (none, 60)], []))
set_option maxRecDepth 20000 in
theorem v_xo_copy_0_29 {PT : PTy} (hp : HP9 PT) : vcOk PT w_xo_copy_0_29 := vc_iv [(14, 1, 1), (15, 0, 60), (16, 2, 2), (17, 0, 60), (18, 0, 60), (19, 0, 2), (20, 0, 2), (21, (-1), 2), (22, (-1), 2), (23, 0, 60), (24, 0, 60), (25, 0, 60), (26, 0, 60), (27, 0, 60), (28, 0, 60)] [45, 46] (by decide +kernel) (fun ρ α => by
  intro r14 g14 b14 r15 g15 b15 r16 g16 b16 r17 g17 b17 r18 g18 b18 r19 g19 b19 r20 g20 b20 r21 g21 b21 r22 g22 b22 r23 g23 b23 r24 g24 b24 r25 g25 b25 r26 g26 b26 r27 g27 b27 r28 g28 b28 a45 h45 a46 h46 f0 f1 f2 f3 f4 f5 f6 f7 f8 f9 f10 f11 f12 f13 f14 f15 f16 f17 f18 f19 f20 f21 f22 f23 f24 f25 f26 f27 f28 f29 f30 f31 f32 tt
  clear f2 f8 f9 f10 f16 f17 f21 f22 f24 f25 f27 f28 f29 f30 f31 f32
  simp only [hF0, hF3, hF5, hF20, hF26, den_s, den_c, Int.add_zero, List.map_cons, List.map_nil, g14.eq, g15.eq, g16.eq, g17.eq, g18.eq, g19.eq, g20.eq, g21.eq, g22.eq, g23.eq, g24.eq, g25.eq, g26.eq, g27.eq, g28.eq, h45, h46] at f0 f1 f3 f4 f5 f6 f7 f11 f12 f13 f14 f15 f18 f19 f20 f23 f26 ⊢
  subst f4
  subst f5
  subst f7
  subst f12
  subst f13
  subst f15
  subst f19
  subst f20
  subst f23
  subst f26
  ((repeat' (first | apply And.intro | intro h)) <;> first | omega | rfl | trivial | (exfalso; omega) | (congr 1; omega) | (congr 1; (repeat' split) <;> first | rfl | (exfalso; omega))))
def w_xo_copy_0_30 : VC := ((bT ++ [(1, 1), (0, 60), (2, 2), (0, 60), (0, 60), (0, 2), (0, 2), ((-1), 2), ((-1), 2), (0, 60), (0, 60), (0, 60), (0, 60), (0, 60), (0, 60)]), [(0, [(some 16, 0), (none, 2)], []), (0, [(some 14, 0), (none, 1)], []), (1, [(none, 1), (none, 0)], []), (3, [(some 28, 0), (some 17, 0)], []), (5, [(some 28, 0), (some 27, 0), (some 18, 0)], []), (20, [(some 27, 0), (some 16, 0)], [45]), (3, [(some 26, 0), (some 18, 0)], []), (20, [(some 26, 0), (some 16, 0)], [45]), (3, [(some 18, 0), (none, 0)], []), (3, [(some 17, 0), (none, 0)], []), (1, [(none, 1), (none, 0)], []), (3, [(some 25, 0), (some 15, 0)], []), (5, [(some 25, 0), (some 24, 0), (some 18, 0)], []), (20, [(some 24, 0), (some 14, 0)], [45]), (3, [(some 23, 0), (some 18, 0)], []), (20, [(some 23, 0), (some 14, 0)], [45]), (3, [(some 18, 0), (none, 0)], []), (3, [(some 15, 0), (none, 0)], []), (0, [(some 21, 0), (some 22, 0)], []), (20, [(some 22, 0), (some 16, 0)], [46]), (20, [(some 21, 0), (some 14, 0)], [46]), (0, [(none, 0), (none, 0)], []), (1, [(some 20, 0), (none, (-1))], []), (20, [(some 20, 0), (some 16, 0)], [46]), (0, [(none, 0), (none, 0)], []), (1, [(some 19, 0), (none, (-1))], []), (20, [(some 19, 0), (some 14, 0)], [46]), (1, [(none, 1), (none, 0)], []), (3, [(none, 3), (some 16, 0)], []), (3, [(some 16, 0), (none, 0)], []), (1, [(none, 1), (none, 0)], []), (3, [(none, 3), (some 14, 0)], []), (3, [(some 14, 0), (none, 0)], [])], (26, [(some 17, 0), (some 18, 0), (none, 60)], []))
set_option maxRecDepth 20000 in
theorem v_xo_copy_0_30 {PT : PTy} (hp : HP9 PT) : vcOk PT w_xo_copy_0_30 := vc_iv [(14, 1, 1), (15, 0, 60), (16, 2, 2), (17, 0, 60), (18, 0, 60), (19, 0, 2), (20, 0, 2), (21, (-1), 2), (22, (-1), 2), (23, 0, 60), (24, 0, 60), (25, 0, 60), (26, 0, 60), (27, 0, 60), (28, 0, 60)] [45, 46] (by decide +kernel) (fun ρ α => by
  intro r14 g14 b14 r15 g15 b15 r16 g16 b16 r17 g17 b17 r18 g18 b18 r19 g19 b19 r20 g20 b20 r21 g21 b21 r22 g22 b22 r23 g23 b23 r24 g24 b24 r25 g25 b25 r26 g26 b26 r27 g27 b27 r28 g28 b28 a45 h45 a46 h46 f0 f1 f2 f3 f4 f5 f6 f7 f8 f9 f10 f11 f12 f13 f14 f15 f16 f17 f18 f19 f20 f21 f22 f23 f24 f25 f26 f27 f28 f29 f30 f31 f32 tt
  clear f2 f8 f9 f10 f16 f17 f21 f22 f24 f25 f27 f28 f29 f30 f31 f32
  simp only [hF0, hF3, hF5, hF20, hF26, den_s, den_c, Int.add_zero, List.map_cons, List.map_nil, g14.eq, g15.eq, g16.eq, g17.eq, g18.eq, g19.eq, g20.eq, g21.eq, g22.eq, g23.eq, g24.eq, g25.eq, g26.eq, g27.eq, g28.eq, h45, h46] at f0 f1 f3 f4 f5 f6 f7 f11 f12 f13 f14 f15 f18 f19 f20 f23 f26 ⊢
  subst f4
  subst f5
  subst f7
  subst f12
  subst f13
  subst f15
  subst f19
  subst f20
  subst f23
  subst f26
  ((repeat' (first | apply And.intro | intro h)) <;> first | omega | rfl | trivial | (exfalso; omega) | (congr 1; omega) | (congr 1; (repeat' split) <;> first | rfl | (exfalso; omega))))
def w_xo_copy_0_31 : VC := ((bT ++ [(1, 1), (0, 60), (2, 2), (0, 60), (0, 60), (0, 2), (0, 2), ((-1), 2), ((-1), 2), (0, 60), (0, 60), (0, 60), (0, 60), (0, 60), (0, 60)]), [(22, [(some 15, 0), (some 17, 0), (some 18, 0)], [58, 42, 43]), (0, [(some 16, 0), (none, 2)], []), (0, [(some 14, 0), (none, 1)], []), (1, [(none, 1), (none, 0)], []), (3, [(some 28, 0), (some 17, 0)], []), (5, [(some 28, 0), (some 27, 0), (some 18, 0)], []), (20, [(some 27, 0), (some 16, 0)], [45]), (3, [(some 26, 0), (some 18, 0)], []), (20, [(some 26, 0), (some 16, 0)], [45]), (3, [(some 18, 0), (none, 0)], []), (3, [(some 17, 0), (none, 0)], []), (1, [(none, 1), (none, 0)], []), (3, [(some 25, 0), (some 15, 0)], []), (5, [(some 25, 0), (some 24, 0), (some 18, 0)], []), (20, [(some 24, 0), (some 14, 0)], [45]), (3, [(some 23, 0), (some 18, 0)], []), (20, [(some 23, 0), (some 14, 0)], [45]), (3, [(some 18, 0), (none, 0)], []), (3, [(some 15, 0), (none, 0)], []), (0, [(some 21, 0), (some 22, 0)], []), (20, [(some 22, 0), (some 16, 0)], [46]), (20, [(some 21, 0), (some 14, 0)], [46]), (0, [(none, 0), (none, 0)], []), (1, [(some 20, 0), (none, (-1))], []), (20, [(some 20, 0), (some 16, 0)], [46]), (0, [(none, 0), (none, 0)], []), (1, [(some 19, 0), (none, (-1))], []), (20, [(some 19, 0), (some 14, 0)], [46]), (1, [(none, 1), (none, 0)], []), (3, [(none, 3), (some 16, 0)], []), (3, [(some 16, 0), (none, 0)], []), (1, [(none, 1), (none, 0)], []), (3, [(none, 3), (some 14, 0)], []), (3, [(some 14, 0), (none, 0)], [])], (135, [(none, 1), (some 14, 0), (some 15, 0), (some 16, 0), (some 17, 0), (some 18, 0), (some 13, 0), (some 13, 0)], [45, 46, 41, 42, 43, 44, 41, 42, 58, 44]))
set_option maxRecDepth 20000 in
theorem v_xo_copy_0_31 {PT : PTy} (hp : HP9 PT) : vcOk PT w_xo_copy_0_31 := vc_iv [(13, 0, 5), (14, 1, 1), (15, 0, 60), (16, 2, 2), (17, 0, 60), (18, 0, 60), (19, 0, 2), (20, 0, 2), (21, (-1), 2), (22, (-1), 2), (23, 0, 60), (24, 0, 60), (25, 0, 60), (26, 0, 60), (27, 0, 60), (28, 0, 60)] [41, 42, 43, 44, 45, 46, 58] (by decide +kernel) (fun ρ α => by
  intro r13 g13 b13 r14 g14 b14 r15 g15 b15 r16 g16 b16 r17 g17 b17 r18 g18 b18 r19 g19 b19 r20 g20 b20 r21 g21 b21 r22 g22 b22 r23 g23 b23 r24 g24 b24 r25 g25 b25 r26 g26 b26 r27 g27 b27 r28 g28 b28 a41 h41 a42 h42 a43 h43 a44 h44 a45 h45 a46 h46 a58 h58 f0 f1 f2 f3 f4 f5 f6 f7 f8 f9 f10 f11 f12 f13 f14 f15 f16 f17 f18 f19 f20 f21 f22 f23 f24 f25 f26 f27 f28 f29 f30 f31 f32 f33 tt
  clear f3 f9 f10 f11 f17 f18 f22 f23 f25 f26 f28 f29 f30 f31 f32 f33
  have e135 : PT 135 = P_cpX := pe135_9 hp
  simp only [hF0, hF3, hF5, hF20, hF22, hFp_135, e135, P_cpX, den_s, den_c, Int.add_zero, List.map_cons, List.map_nil, g13.eq, g14.eq, g15.eq, g16.eq, g17.eq, g18.eq, g19.eq, g20.eq, g21.eq, g22.eq, g23.eq, g24.eq, g25.eq, g26.eq, g27.eq, g28.eq, h41, h42, h43, h44, h45, h46, h58] at f0 f1 f2 f4 f5 f6 f7 f8 f12 f13 f14 f15 f16 f19 f20 f21 f24 f27 ⊢
  subst f0
  subst f5
  subst f6
  subst f8
  subst f13
  subst f14
  subst f16
  subst f20
  subst f21
  subst f24
  subst f27
  ((repeat' (first | apply And.intro | intro h)) <;> first | omega | rfl | trivial | (exfalso; omega) | (congr 1; omega) | (congr 1; (repeat' split) <;> first | rfl | (exfalso; omega))))
def w_xo_copy_0_32 : VC := ((bT ++ [(1, 1), (0, 60), (3, 3), (0, 60), (0, 60), (0, 2), (0, 2), ((-1), 2), ((-1), 2), (0, 60), (0, 60), (0, 60), (0, 60), (0, 60), (0, 60)]), [(0, [(some 16, 0), (none, 3)], []), (0, [(some 14, 0), (none, 1)], []), (1, [(none, 1), (none, 0)], []), (3, [(some 28, 0), (some 17, 0)], []), (5, [(some 28, 0), (some 27, 0), (some 18, 0)], []), (20, [(some 27, 0), (some 16, 0)], [45]), (3, [(some 26, 0), (some 18, 0)], []), (20, [(some 26, 0), (some 16, 0)], [45]), (3, [(some 18, 0), (none, 0)], []), (3, [(some 17, 0), (none, 0)], []), (1, [(none, 1), (none, 0)], []), (3, [(some 25, 0), (some 15, 0)], []), (5, [(some 25, 0), (some 24, 0), (some 18, 0)], []), (20, [(some 24, 0), (some 14, 0)], [45]), (3, [(some 23, 0), (some 18, 0)], []), (20, [(some 23, 0), (some 14, 0)], [45]), (3, [(some 18, 0), (none, 0)], []), (3, [(some 15, 0), (none, 0)], []), (0, [(some 21, 0), (some 22, 0)], []), (20, [(some 22, 0), (some 16, 0)], [46]), (20, [(some 21, 0), (some 14, 0)], [46]), (0, [(none, 0), (none, 0)], []), (1, [(some 20, 0), (none, (-1))], []), (20, [(some 20, 0), (some 16, 0)], [46]), (0, [(none, 0), (none, 0)], []), (1, [(some 19, 0), (none, (-1))], []), (20, [(some 19, 0), (some 14, 0)], [46]), (1, [(none, 1), (none, 0)], []), (3, [(none, 3), (some 16, 0)], []), (3, [(some 16, 0), (none, 0)], []), (1, [(none, 1), (none, 0)], []), (3, [(none, 3), (some 14, 0)], []), (3, [(some 14, 0), (none, 0)], [])], (26, [(some 15, 0), (some 18, 0), (none, 60)], []))
set_option maxRecDepth 20000 in
theorem v_xo_copy_0_32 {PT : PTy} (hp : HP9 PT) : vcOk PT w_xo_copy_0_32 := vc_iv [(14, 1, 1), (15, 0, 60), (16, 3, 3), (17, 0, 60), (18, 0, 60), (19, 0, 2), (20, 0, 2), (21, (-1), 2), (22, (-1), 2), (23, 0, 60), (24, 0, 60), (25, 0, 60), (26, 0, 60), (27, 0, 60), (28, 0, 60)] [45, 46] (by decide +kernel) (fun ρ α => by
  intro r14 g14 b14 r15 g15 b15 r16 g16 b16 r17 g17 b17 r18 g18 b18 r19 g19 b19 r20 g20 b20 r21 g21 b21 r22 g22 b22 r23 g23 b23 r24 g24 b24 r25 g25 b25 r26 g26 b26 r27 g27 b27 r28 g28 b28 a45 h45 a46 h46 f0 f1 f2 f3 f4 f5 f6 f7 f8 f9 f10 f11 f12 f13 f14 f15 f16 f17 f18 f19 f20 f21 f22 f23 f24 f25 f26 f27 f28 f29 f30 f31 f32 tt
  clear f2 f8 f9 f10 f16 f17 f21 f22 f24 f25 f27 f28 f29 f30 f31 f32
  simp only [hF0, hF3, hF5, hF20, hF26, den_s, den_c, Int.add_zero, List.map_cons, List.map_nil, g14.eq, g15.eq, g16.eq, g17.eq, g18.eq, g19.eq, g20.eq, g21.eq, g22.eq, g23.eq, g24.eq, g25.eq, g26.eq, g27.eq, g28.eq, h45, h46] at f0 f1 f3 f4 f5 f6 f7 f11 f12 f13 f14 f15 f18 f19 f20 f23 f26 ⊢
  subst f4
  subst f5
  subst f7
  subst f12
  subst f13
  subst f15
  subst f19
  subst f20
  subst f23
  subst f26
  ((repeat' (first | apply And.intro | intro h)) <;> first | omega | rfl | trivial | (exfalso; omega) | (congr 1; omega) | (congr 1; (repeat' split) <;> first | rfl | (exfalso; omega))))
def w_xo_copy_0_33 : VC := ((bT ++ [(1, 1), (0, 60), (3, 3), (0, 60), (0, 60), (0, 2), (0, 2), ((-1), 2), ((-1), 2), (0, 60), (0, 60), (0, 60), (0, 60), (0, 60), (0, 60)]), [(0, [(some 16, 0), (none, 3)], []), (0, [(some 14, 0), (none, 1)], []), (1, [(none, 1), (none, 0)], []), (3, [(some 28, 0), (some 17, 0)], []), (5, [(some 28, 0), (some 27, 0), (some 18, 0)], []), (20, [(some 27, 0), (some 16, 0)], [45]), (3, [(some 26, 0), (some 18, 0)], []), (20, [(some 26, 0), (some 16, 0)], [45]), (3, [(some 18, 0), (none, 0)], []), (3, [(some 17, 0), (none, 0)], []), (1, [(none, 1), (none, 0)], []), (3, [(some 25, 0), (some 15, 0)], []), (5, [(some 25, 0), (some 24, 0), (some 18, 0)], []), (20, [(some 24, 0), (some 14, 0)], [45]), (3, [(some 23, 0), (some 18, 0)], []), (20, [(some 23, 0), (some 14, 0)], [45]), (3, [(some 18, 0), (none, 0)], []), (3, [(some 15, 0), (none, 0)], []), (0, [(some 21, 0), (some 22, 0)], []), (20, [(some 22, 0), (some 16, 0)], [46]), (20, [(some 21, 0), (some 14, 0)], [46]), (0, [(none, 0), (none, 0)], []), (1, [(some 20, 0), (none, (-1))], []), (20, [(some 20, 0), (some 16, 0)], [46]), (0, [(none, 0), (none, 0)], []), (1, [(some 19, 0), (none, (-1))], []), (20, [(some 19, 0), (some 14, 0)], [46]), (1, [(none, 1), (none, 0)], []), (3, [(none, 3), (some 16, 0)], []), (3, [(some 16, 0), (none, 0)], []), (1, [(none, 1), (none, 0)], []), (3, [(none, 3), (some 14, 0)], []), (3, [(some 14, 0), (none, 0)], [])], (26, [(some 17, 0), (some 18, 0), (none, 60)], []))
set_option maxRecDepth 20000 in
theorem v_xo_copy_0_33 {PT : PTy} (hp : HP9 PT) : vcOk PT w_xo_copy_0_33 := vc_iv [(14, 1, 1), (15, 0, 60), (16, 3, 3), (17, 0, 60), (18, 0, 60), (19, 0, 2), (20, 0, 2), (21, (-1), 2), (22, (-1), 2), (23, 0, 60), (24, 0, 60), (25, 0, 60), (26, 0, 60), (27, 0, 60), (28, 0, 60)] [45, 46] (by decide +kernel) (fun ρ α => by
  intro r14 g14 b14 r15 g15 b15 r16 g16 b16 r17 g17 b17 r18 g18 b18 r19 g19 b19 r20 g20 b20 r21 g21 b21 r22 g22 b22 r23 g23 b23 r24 g24 b24 r25 g25 b25 r26 g26 b26 r27 g27 b27 r28 g28 b28 a45 h45 a46 h46 f0 f1 f2 f3 f4 f5 f6 f7 f8 f9 f10 f11 f12 f13 f14 f15 f16 f17 f18 f19 f20 f21 f22 f23 f24 f25 f26 f27 f28 f29 f30 f31 f32 tt
  clear f2 f8 f9 f10 f16 f17 f21 f22 f24 f25 f27 f28 f29 f30 f31 f32
  simp only [hF0, hF3, hF5, hF20, hF26, den_s, den_c, Int.add_zero, List.map_cons, List.map_nil, g14.eq, g15.eq, g16.eq, g17.eq, g18.eq, g19.eq, g20.eq, g21.eq, g22.eq, g23.eq, g24.eq, g25.eq, g26.eq, g27.eq, g28.eq, h45, h46] at f0 f1 f3 f4 f5 f6 f7 f11 f12 f13 f14 f15 f18 f19 f20 f23 f26 ⊢
  subst f4
  subst f5
  subst f7
  subst f12
  subst f13
  subst f15
  subst f19
  subst f20
  subst f23
  subst f26
  ((repeat' (first | apply And.intro | intro h)) <;> first | omega | rfl | trivial | (exfalso; omega) | (congr 1; omega) | (congr 1; (repeat' split) <;> first | rfl | (exfalso; omega))))
def w_xo_copy_0_34 : VC := ((bT ++ [(1, 1), (0, 60), (3, 3), (0, 60), (0, 60), (0, 2), (0, 2), ((-1), 2), ((-1), 2), (0, 60), (0, 60), (0, 60), (0, 60), (0, 60), (0, 60)]), [(22, [(some 15, 0), (some 17, 0), (some 18, 0)], [58, 42, 44]), (0, [(some 16, 0), (none, 3)], []), (0, [(some 14, 0), (none, 1)], []), (1, [(none, 1), (none, 0)], []), (3, [(some 28, 0), (some 17, 0)], []), (5, [(some 28, 0), (some 27, 0), (some 18, 0)], []), (20, [(some 27, 0), (some 16, 0)], [45]), (3, [(some 26, 0), (some 18, 0)], []), (20, [(some 26, 0), (some 16, 0)], [45]), (3, [(some 18, 0), (none, 0)], []), (3, [(some 17, 0), (none, 0)], []), (1, [(none, 1), (none, 0)], []), (3, [(some 25, 0), (some 15, 0)], []), (5, [(some 25, 0), (some 24, 0), (some 18, 0)], []), (20, [(some 24, 0), (some 14, 0)], [45]), (3, [(some 23, 0), (some 18, 0)], []), (20, [(some 23, 0), (some 14, 0)], [45]), (3, [(some 18, 0), (none, 0)], []), (3, [(some 15, 0), (none, 0)], []), (0, [(some 21, 0), (some 22, 0)], []), (20, [(some 22, 0), (some 16, 0)], [46]), (20, [(some 21, 0), (some 14, 0)], [46]), (0, [(none, 0), (none, 0)], []), (1, [(some 20, 0), (none, (-1))], []), (20, [(some 20, 0), (some 16, 0)], [46]), (0, [(none, 0), (none, 0)], []), (1, [(some 19, 0), (none, (-1))], []), (20, [(some 19, 0), (some 14, 0)], [46]), (1, [(none, 1), (none, 0)], []), (3, [(none, 3), (some 16, 0)], []), (3, [(some 16, 0), (none, 0)], []), (1, [(none, 1), (none, 0)], []), (3, [(none, 3), (some 14, 0)], []), (3, [(some 14, 0), (none, 0)], [])], (135, [(none, 1), (some 14, 0), (some 15, 0), (some 16, 0), (some 17, 0), (some 18, 0), (some 13, 0), (some 13, 0)], [45, 46, 41, 42, 43, 44, 41, 42, 43, 58]))
set_option maxRecDepth 20000 in
theorem v_xo_copy_0_34 {PT : PTy} (hp : HP9 PT) : vcOk PT w_xo_copy_0_34 := vc_iv [(13, 0, 5), (14, 1, 1), (15, 0, 60), (16, 3, 3), (17, 0, 60), (18, 0, 60), (19, 0, 2), (20, 0, 2), (21, (-1), 2), (22, (-1), 2), (23, 0, 60), (24, 0, 60), (25, 0, 60), (26, 0, 60), (27, 0, 60), (28, 0, 60)] [41, 42, 43, 44, 45, 46, 58] (by decide +kernel) (fun ρ α => by
  intro r13 g13 b13 r14 g14 b14 r15 g15 b15 r16 g16 b16 r17 g17 b17 r18 g18 b18 r19 g19 b19 r20 g20 b20 r21 g21 b21 r22 g22 b22 r23 g23 b23 r24 g24 b24 r25 g25 b25 r26 g26 b26 r27 g27 b27 r28 g28 b28 a41 h41 a42 h42 a43 h43 a44 h44 a45 h45 a46 h46 a58 h58 f0 f1 f2 f3 f4 f5 f6 f7 f8 f9 f10 f11 f12 f13 f14 f15 f16 f17 f18 f19 f20 f21 f22 f23 f24 f25 f26 f27 f28 f29 f30 f31 f32 f33 tt
  clear f3 f9 f10 f11 f17 f18 f22 f23 f25 f26 f28 f29 f30 f31 f32 f33
  have e135 : PT 135 = P_cpX := pe135_9 hp
  simp only [hF0, hF3, hF5, hF20, hF22, hFp_135, e135, P_cpX, den_s, den_c, Int.add_zero, List.map_cons, List.map_nil, g13.eq, g14.eq, g15.eq, g16.eq, g17.eq, g18.eq, g19.eq, g20.eq, g21.eq, g22.eq, g23.eq, g24.eq, g25.eq, g26.eq, g27.eq, g28.eq, h41, h42, h43, h44, h45, h46, h58] at f0 f1 f2 f4 f5 f6 f7 f8 f12 f13 f14 f15 f16 f19 f20 f21 f24 f27 ⊢
  subst f0
  subst f5
  subst f6
  subst f8
  subst f13
  subst f14
  subst f16
  subst f20
  subst f21
  subst f24
  subst f27
  ((repeat' (first | apply And.intro | intro h)) <;> first | omega | rfl | trivial | (exfalso; omega) | (congr 1; omega) | (congr 1; (repeat' split) <;> first | rfl | (exfalso; omega))))
def w_xo_copy_0_35 : VC := ((bT ++ [(2, 2), (0, 60), (0, 0), (0, 60), (0, 60), (0, 2), (0, 2), ((-1), 2), ((-1), 2), (0, 60), (0, 60), (0, 60), (0, 60), (0, 60), (0, 60)]), [(0, [(some 16, 0), (none, 0)], []), (0, [(some 14, 0), (none, 2)], []), (1, [(none, 1), (none, 0)], []), (3, [(some 28, 0), (some 17, 0)], []), (5, [(some 28, 0), (some 27, 0), (some 18, 0)], []), (20, [(some 27, 0), (some 16, 0)], [45]), (3, [(some 26, 0), (some 18, 0)], []), (20, [(some 26, 0), (some 16, 0)], [45]), (3, [(some 18, 0), (none, 0)], []), (3, [(some 17, 0), (none, 0)], []), (1, [(none, 1), (none, 0)], []), (3, [(some 25, 0), (some 15, 0)], []), (5, [(some 25, 0), (some 24, 0), (some 18, 0)], []), (20, [(some 24, 0), (some 14, 0)], [45]), (3, [(some 23, 0), (some 18, 0)], []), (20, [(some 23, 0), (some 14, 0)], [45]), (3, [(some 18, 0), (none, 0)], []), (3, [(some 15, 0), (none, 0)], []), (0, [(some 21, 0), (some 22, 0)], []), (20, [(some 22, 0), (some 16, 0)], [46]), (20, [(some 21, 0), (some 14, 0)], [46]), (0, [(none, 0), (none, 0)], []), (1, [(some 20, 0), (none, (-1))], []), (20, [(some 20, 0), (some 16, 0)], [46]), (0, [(none, 0), (none, 0)], []), (1, [(some 19, 0), (none, (-1))], []), (20, [(some 19, 0), (some 14, 0)], [46]), (1, [(none, 1), (none, 0)], []), (3, [(none, 3), (some 16, 0)], []), (3, [(some 16, 0), (none, 0)], []), (1, [(none, 1), (none, 0)], []), (3, [(none, 3), (some 14, 0)], []), (3, [(some 14, 0), (none, 0)], [])], (26, [(some 15, 0), (some 18, 0), (none, 60)], []))
set_option maxRecDepth 20000 in
theorem v_xo_copy_0_35 {PT : PTy} (hp : HP9 PT) : vcOk PT w_xo_copy_0_35 := vc_iv [(14, 2, 2), (15, 0, 60), (16, 0, 0), (17, 0, 60), (18, 0, 60), (19, 0, 2), (20, 0, 2), (21, (-1), 2), (22, (-1), 2), (23, 0, 60), (24, 0, 60), (25, 0, 60), (26, 0, 60), (27, 0, 60), (28, 0, 60)] [45, 46] (by decide +kernel) (fun ρ α => by
  intro r14 g14 b14 r15 g15 b15 r16 g16 b16 r17 g17 b17 r18 g18 b18 r19 g19 b19 r20 g20 b20 r21 g21 b21 r22 g22 b22 r23 g23 b23 r24 g24 b24 r25 g25 b25 r26 g26 b26 r27 g27 b27 r28 g28 b28 a45 h45 a46 h46 f0 f1 f2 f3 f4 f5 f6 f7 f8 f9 f10 f11 f12 f13 f14 f15 f16 f17 f18 f19 f20 f21 f22 f23 f24 f25 f26 f27 f28 f29 f30 f31 f32 tt
  clear f2 f8 f9 f10 f16 f17 f21 f22 f24 f25 f27 f28 f29 f30 f31 f32
  simp only [hF0, hF3, hF5, hF20, hF26, den_s, den_c, Int.add_zero, List.map_cons, List.map_nil, g14.eq, g15.eq, g16.eq, g17.eq, g18.eq, g19.eq, g20.eq, g21.eq, g22.eq, g23.eq, g24.eq, g25.eq, g26.eq, g27.eq, g28.eq, h45, h46] at f0 f1 f3 f4 f5 f6 f7 f11 f12 f13 f14 f15 f18 f19 f20 f23 f26 ⊢
  subst f4
  subst f5
  subst f7
  subst f12
  subst f13
  subst f15
  subst f19
  subst f20
  subst f23
  subst f26
  ((repeat' (first | apply And.intro | intro h)) <;> first | omega | rfl | trivial | (exfalso; omega) | (congr 1; omega) | (congr 1; (repeat' split) <;> first | rfl | (exfalso; omega))))
def w_xo_copy_0_36 : VC := ((bT ++ [(2, 2), (0, 60), (0, 0), (0, 60), (0, 60), (0, 2), (0, 2), ((-1), 2), ((-1), 2), (0, 60), (0, 60), (0, 60), (0, 60), (0, 60), (0, 60)]), [(0, [(some 16, 0), (none, 0)], []), (0, [(some 14, 0), (none, 2)], []), (1, [(none, 1), (none, 0)], []), (3, [(some 28, 0), (some 17, 0)], []), (5, [(some 28, 0), (some 27, 0), (some 18, 0)], []), (20, [(some 27, 0), (some 16, 0)], [45]), (3, [(some 26, 0), (some 18, 0)], []), (20, [(some 26, 0), (some 16, 0)], [45]), (3, [(some 18, 0), (none, 0)], []), (3, [(some 17, 0), (none, 0)], []), (1, [(none, 1), (none, 0)], []), (3, [(some 25, 0), (some 15, 0)], []), (5, [(some 25, 0), (some 24, 0), (some 18, 0)], []), (20, [(some 24, 0), (some 14, 0)], [45]), (3, [(some 23, 0), (some 18, 0)], []), (20, [(some 23, 0), (some 14, 0)], [45]), (3, [(some 18, 0), (none, 0)], []), (3, [(some 15, 0), (none, 0)], []), (0, [(some 21, 0), (some 22, 0)], []), (20, [(some 22, 0), (some 16, 0)], [46]), (20, [(some 21, 0), (some 14, 0)], [46]), (0, [(none, 0), (none, 0)], []), (1, [(some 20, 0), (none, (-1))], []), (20, [(some 20, 0), (some 16, 0)], [46]), (0, [(none, 0), (none, 0)], []), (1, [(some 19, 0), (none, (-1))], []), (20, [(some 19, 0), (some 14, 0)], [46]), (1, [(none, 1), (none, 0)], []), (3, [(none, 3), (some 16, 0)], []), (3, [(some 16, 0), (none, 0)], []), (1, [(none, 1), (none, 0)], []), (3, [(none, 3), (some 14, 0)], []), (3, [(some 14, 0), (none, 0)], [])], (26, [(some 17, 0), (some 18, 0), (none, 60)], []))
set_option maxRecDepth 20000 in
theorem v_xo_copy_0_36 {PT : PTy} (hp : HP9 PT) : vcOk PT w_xo_copy_0_36 := vc_iv [(14, 2, 2), (15, 0, 60), (16, 0, 0), (17, 0, 60), (18, 0, 60), (19, 0, 2), (20, 0, 2), (21, (-1), 2), (22, (-1), 2), (23, 0, 60), (24, 0, 60), (25, 0, 60), (26, 0, 60), (27, 0, 60), (28, 0, 60)] [45, 46] (by decide +kernel) (fun ρ α => by
  intro r14 g14 b14 r15 g15 b15 r16 g16 b16 r17 g17 b17 r18 g18 b18 r19 g19 b19 r20 g20 b20 r21 g21 b21 r22 g22 b22 r23 g23 b23 r24 g24 b24 r25 g25 b25 r26 g26 b26 r27 g27 b27 r28 g28 b28 a45 h45 a46 h46 f0 f1 f2 f3 f4 f5 f6 f7 f8 f9 f10 f11 f12 f13 f14 f15 f16 f17 f18 f19 f20 f21 f22 f23 f24 f25 f26 f27 f28 f29 f30 f31 f32 tt
  clear f2 f8 f9 f10 f16 f17 f21 f22 f24 f25 f27 f28 f29 f30 f31 f32
  simp only [hF0, hF3, hF5, hF20, hF26, den_s, den_c, Int.add_zero, List.map_cons, List.map_nil, g14.eq, g15.eq, g16.eq, g17.eq, g18.eq, g19.eq, g20.eq, g21.eq, g22.eq, g23.eq, g24.eq, g25.eq, g26.eq, g27.eq, g28.eq, h45, h46] at f0 f1 f3 f4 f5 f6 f7 f11 f12 f13 f14 f15 f18 f19 f20 f23 f26 ⊢
  subst f4
  subst f5
  subst f7
  subst f12
  subst f13
  subst f15
  subst f19
  subst f20
  subst f23
  subst f26
  ((repeat' (first | apply And.intro | intro h)) <;> first | omega | rfl | trivial | (exfalso; omega) | (congr 1; omega) | (congr 1; (repeat' split) <;> first | rfl | (exfalso; omega))))
def w_xo_copy_0_37 : VC := ((bT ++ [(2, 2), (0, 60), (0, 0), (0, 60), (0, 60), (0, 2), (0, 2), ((-1), 2), ((-1), 2), (0, 60), (0, 60), (0, 60), (0, 60), (0, 60), (0, 60)]), [(22, [(some 15, 0), (some 17, 0), (some 18, 0)], [58, 43, 41]), (0, [(some 16, 0), (none, 0)], []), (0, [(some 14, 0), (none, 2)], []), (1, [(none, 1), (none, 0)], []), (3, [(some 28, 0), (some 17, 0)], []), (5, [(some 28, 0), (some 27, 0), (some 18, 0)], []), (20, [(some 27, 0), (some 16, 0)], [45]), (3, [(some 26, 0), (some 18, 0)], []), (20, [(some 26, 0), (some 16, 0)], [45]), (3, [(some 18, 0), (none, 0)], []), (3, [(some 17, 0), (none, 0)], []), (1, [(none, 1), (none, 0)], []), (3, [(some 25, 0), (some 15, 0)], []), (5, [(some 25, 0), (some 24, 0), (some 18, 0)], []), (20, [(some 24, 0), (some 14, 0)], [45]), (3, [(some 23, 0), (some 18, 0)], []), (20, [(some 23, 0), (some 14, 0)], [45]), (3, [(some 18, 0), (none, 0)], []), (3, [(some 15, 0), (none, 0)], []), (0, [(some 21, 0), (some 22, 0)], []), (20, [(some 22, 0), (some 16, 0)], [46]), (20, [(some 21, 0), (some 14, 0)], [46]), (0, [(none, 0), (none, 0)], []), (1, [(some 20, 0), (none, (-1))], []), (20, [(some 20, 0), (some 16, 0)], [46]), (0, [(none, 0), (none, 0)], []), (1, [(some 19, 0), (none, (-1))], []), (20, [(some 19, 0), (some 14, 0)], [46]), (1, [(none, 1), (none, 0)], []), (3, [(none, 3), (some 16, 0)], []), (3, [(some 16, 0), (none, 0)], []), (1, [(none, 1), (none, 0)], []), (3, [(none, 3), (some 14, 0)], []), (3, [(some 14, 0), (none, 0)], [])], (135, [(none, 1), (some 14, 0), (some 15, 0), (some 16, 0), (some 17, 0), (some 18, 0), (some 13, 0), (some 13, 0)], [45, 46, 41, 42, 43, 44, 58, 42, 43, 44]))
set_option maxRecDepth 20000 in
theorem v_xo_copy_0_37 {PT : PTy} (hp : HP9 PT) : vcOk PT w_xo_copy_0_37 := vc_iv [(13, 0, 5), (14, 2, 2), (15, 0, 60), (16, 0, 0), (17, 0, 60), (18, 0, 60), (19, 0, 2), (20, 0, 2), (21, (-1), 2), (22, (-1), 2), (23, 0, 60), (24, 0, 60), (25, 0, 60), (26, 0, 60), (27, 0, 60), (28, 0, 60)] [41, 42, 43, 44, 45, 46, 58] (by decide +kernel) (fun ρ α => by
  intro r13 g13 b13 r14 g14 b14 r15 g15 b15 r16 g16 b16 r17 g17 b17 r18 g18 b18 r19 g19 b19 r20 g20 b20 r21 g21 b21 r22 g22 b22 r23 g23 b23 r24 g24 b24 r25 g25 b25 r26 g26 b26 r27 g27 b27 r28 g28 b28 a41 h41 a42 h42 a43 h43 a44 h44 a45 h45 a46 h46 a58 h58 f0 f1 f2 f3 f4 f5 f6 f7 f8 f9 f10 f11 f12 f13 f14 f15 f16 f17 f18 f19 f20 f21 f22 f23 f24 f25 f26 f27 f28 f29 f30 f31 f32 f33 tt
  clear f3 f9 f10 f11 f17 f18 f22 f23 f25 f26 f28 f29 f30 f31 f32 f33
  have e135 : PT 135 = P_cpX := pe135_9 hp
  simp only [hF0, hF3, hF5, hF20, hF22, hFp_135, e135, P_cpX, den_s, den_c, Int.add_zero, List.map_cons, List.map_nil, g13.eq, g14.eq, g15.eq, g16.eq, g17.eq, g18.eq, g19.eq, g20.eq, g21.eq, g22.eq, g23.eq, g24.eq, g25.eq, g26.eq, g27.eq, g28.eq, h41, h42, h43, h44, h45, h46, h58] at f0 f1 f2 f4 f5 f6 f7 f8 f12 f13 f14 f15 f16 f19 f20 f21 f24 f27 ⊢
  subst f0
  subst f5
  subst f6
  subst f8
  subst f13
  subst f14
  subst f16
  subst f20
  subst f21
  subst f24
  subst f27
  ((repeat' (first | apply And.intro | intro h)) <;> first | omega | rfl | trivial | (exfalso; omega) | (congr 1; omega) | (congr 1; (repeat' split) <;> first | rfl | (exfalso; omega))))
def w_xo_copy_0_38 : VC := ((bT ++ [(2, 2), (0, 60), (1, 1), (0, 60), (0, 60), (0, 2), (0, 2), ((-1), 2), ((-1), 2), (0, 60), (0, 60), (0, 60), (0, 60), (0, 60), (0, 60)]), [(0, [(some 16, 0), (none, 1)], []), (0, [(some 14, 0), (none, 2)], []), (1, [(none, 1), (none, 0)], []), (3, [(some 28, 0), (some 17, 0)], []), (5, [(some 28, 0), (some 27, 0), (some 18, 0)], []), (20, [(some 27, 0), (some 16, 0)], [45]), (3, [(some 26, 0), (some 18, 0)], []), (20, [(some 26, 0), (some 16, 0)], [45]), (3, [(some 18, 0), (none, 0)], []), (3, [(some 17, 0), (none, 0)], []), (1, [(none, 1), (none, 0)], []), (3, [(some 25, 0), (some 15, 0)], []), (5, [(some 25, 0), (some 24, 0), (some 18, 0)], []), (20, [(some 24, 0), (some 14, 0)], [45]), (3, [(some 23, 0), (some 18, 0)], []), (20, [(some 23, 0), (some 14, 0)], [45]), (3, [(some 18, 0), (none, 0)], []), (3, [(some 15, 0), (none, 0)], []), (0, [(some 21, 0), (some 22, 0)], []), (20, [(some 22, 0), (some 16, 0)], [46]), (20, [(some 21, 0), (some 14, 0)], [46]), (0, [(none, 0), (none, 0)], []), (1, [(some 20, 0), (none, (-1))], []), (20, [(some 20, 0), (some 16, 0)], [46]), (0, [(none, 0), (none, 0)], []), (1, [(some 19, 0), (none, (-1))], []), (20, [(some 19, 0), (some 14, 0)], [46]), (1, [(none, 1), (none, 0)], []), (3, [(none, 3), (some 16, 0)], []), (3, [(some 16, 0), (none, 0)], []), (1, [(none, 1), (none, 0)], []), (3, [(none, 3), (some 14, 0)], []), (3, [(some 14, 0), (none, 0)], [])], (26, [(some 15, 0), (some 18, 0), (none, 60)], []))
set_option maxRecDepth 20000 in
theorem v_xo_copy_0_38 {PT : PTy} (hp : HP9 PT) : vcOk PT w_xo_copy_0_38 := vc_iv [(14, 2, 2), (15, 0, 60), (16, 1, 1), (17, 0, 60), (18, 0, 60), (19, 0, 2), (20, 0, 2), (21, (-1), 2), (22, (-1), 2), (23, 0, 60), (24, 0, 60), (25, 0, 60), (26, 0, 60), (27, 0, 60), (28, 0, 60)] [45, 46] (by decide +kernel) (fun ρ α => by
  intro r14 g14 b14 r15 g15 b15 r16 g16 b16 r17 g17 b17 r18 g18 b18 r19 g19 b19 r20 g20 b20 r21 g21 b21 r22 g22 b22 r23 g23 b23 r24 g24 b24 r25 g25 b25 r26 g26 b26 r27 g27 b27 r28 g28 b28 a45 h45 a46 h46 f0 f1 f2 f3 f4 f5 f6 f7 f8 f9 f10 f11 f12 f13 f14 f15 f16 f17 f18 f19 f20 f21 f22 f23 f24 f25 f26 f27 f28 f29 f30 f31 f32 tt
  clear f2 f8 f9 f10 f16 f17 f21 f22 f24 f25 f27 f28 f29 f30 f31 f32
  simp only [hF0, hF3, hF5, hF20, hF26, den_s, den_c, Int.add_zero, List.map_cons, List.map_nil, g14.eq, g15.eq, g16.eq, g17.eq, g18.eq, g19.eq, g20.eq, g21.eq, g22.eq, g23.eq, g24.eq, g25.eq, g26.eq, g27.eq, g28.eq, h45, h46] at f0 f1 f3 f4 f5 f6 f7 f11 f12 f13 f14 f15 f18 f19 f20 f23 f26 ⊢
  subst f4
  subst f5
  subst f7
  subst f12
  subst f13
  subst f15
  subst f19
  subst f20
  subst f23
  subst f26
  ((repeat' (first | apply And.intro | intro h)) <;> first | omega | rfl | trivial | (exfalso; omega) | (congr 1; omega) | (congr 1; (repeat' split) <;> first | rfl | (exfalso; omega))))
def w_xo_copy_0_39 : VC := ((bT ++ [(2, 2), (0, 60), (1, 1), (0, 60), (0, 60), (0, 2), (0, 2), ((-1), 2), ((-1), 2), (0, 60), (0, 60), (0, 60), (0, 60), (0, 60), (0, 60)]), [(0, [(some 16, 0), (none, 1)], []), (0, [(some 14, 0), (none, 2)], []), (1, [(none, 1), (none, 0)], []), (3, [(some 28, 0), (some 17, 0)], []), (5, [(some 28, 0), (some 27, 0), (some 18, 0)], []), (20, [(some 27, 0), (some 16, 0)], [45]), (3, [(some 26, 0), (some 18, 0)], []), (20, [(some 26, 0), (some 16, 0)], [45]), (3, [(some 18, 0), (none, 0)], []), (3, [(some 17, 0), (none, 0)], []), (1, [(none, 1), (none, 0)], []), (3, [(some 25, 0), (some 15, 0)], []), (5, [(some 25, 0), (some 24, 0), (some 18, 0)], []), (20, [(some 24, 0), (some 14, 0)], [45]), (3, [(some 23, 0), (some 18, 0)], []), (20, [(some 23, 0), (some 14, 0)], [45]), (3, [(some 18, 0), (none, 0)], []), (3, [(some 15, 0), (none, 0)], []), (0, [(some 21, 0), (some 22, 0)], []), (20, [(some 22, 0), (some 16, 0)], [46]), (20, [(some 21, 0), (some 14, 0)], [46]), (0, [(none, 0), (none, 0)], []), (1, [(some 20, 0), (none, (-1))], []), (20, [(some 20, 0), (some 16, 0)], [46]), (0, [(none, 0), (none, 0)], []), (1, [(some 19, 0), (none, (-1))], []), (20, [(some 19, 0), (some 14, 0)], [46]), (1, [(none, 1), (none, 0)], []), (3, [(none, 3), (some 16, 0)], []), (3, [(some 16, 0), (none, 0)], []), (1, [(none, 1), (none, 0)], []), (3, [(none, 3), (some 14, 0)], []), (3, [(some 14, 0), (none, 0)], [])], (26, [(some 17, 0), (some 18, 0), (none, 60)], []))
set_option maxRecDepth 20000 in
theorem v_xo_copy_0_39 {PT : PTy} (hp : HP9 PT) : vcOk PT w_xo_copy_0_39 := vc_iv [(14, 2, 2), (15, 0, 60), (16, 1, 1), (17, 0, 60), (18, 0, 60), (19, 0, 2), (20, 0, 2), (21, (-1), 2), (22, (-1), 2), (23, 0, 60), (24, 0, 60), (25, 0, 60), (26, 0, 60), (27, 0, 60), (28, 0, 60)] [45, 46] (by decide +kernel) (fun ρ α => by
  intro r14 g14 b14 r15 g15 b15 r16 g16 b16 r17 g17 b17 r18 g18 b18 r19 g19 b19 r20 g20 b20 r21 g21 b21 r22 g22 b22 r23 g23 b23 r24 g24 b24 r25 g25 b25 r26 g26 b26 r27 g27 b27 r28 g28 b28 a45 h45 a46 h46 f0 f1 f2 f3 f4 f5 f6 f7 f8 f9 f10 f11 f12 f13 f14 f15 f16 f17 f18 f19 f20 f21 f22 f23 f24 f25 f26 f27 f28 f29 f30 f31 f32 tt
  clear f2 f8 f9 f10 f16 f17 f21 f22 f24 f25 f27 f28 f29 f30 f31 f32
  simp only [hF0, hF3, hF5, hF20, hF26, den_s, den_c, Int.add_zero, List.map_cons, List.map_nil, g14.eq, g15.eq, g16.eq, g17.eq, g18.eq, g19.eq, g20.eq, g21.eq, g22.eq, g23.eq, g24.eq, g25.eq, g26.eq, g27.eq, g28.eq, h45, h46] at f0 f1 f3 f4 f5 f6 f7 f11 f12 f13 f14 f15 f18 f19 f20 f23 f26 ⊢
  subst f4
  subst f5
  subst f7
  subst f12
  subst f13
  subst f15
  subst f19
  subst f20
  subst f23
  subst f26
  ((repeat' (first | apply And.intro | intro h)) <;> first | omega | rfl | trivial | (exfalso; omega) | (congr 1; omega) | (congr 1; (repeat' split) <;> first | rfl | (exfalso; omega))))
def w_xo_copy_0_40 : VC := ((bT ++ [(2, 2), (0, 60), (1, 1), (0, 60), (0, 60), (0, 2), (0, 2), ((-1), 2), ((-1), 2), (0, 60), (0, 60), (0, 60), (0, 60), (0, 60), (0, 60)]), [(22, [(some 15, 0), (some 17, 0), (some 18, 0)], [58, 43, 42]), (0, [(some 16, 0), (none, 1)], []), (0, [(some 14, 0), (none, 2)], []), (1, [(none, 1), (none, 0)], []), (3, [(some 28, 0), (some 17, 0)], []), (5, [(some 28, 0), (some 27, 0), (some 18, 0)], []), (20, [(some 27, 0), (some 16, 0)], [45]), (3, [(some 26, 0), (some 18, 0)], []), (20, [(some 26, 0), (some 16, 0)], [45]), (3, [(some 18, 0), (none, 0)], []), (3, [(some 17, 0), (none, 0)], []), (1, [(none, 1), (none, 0)], []), (3, [(some 25, 0), (some 15, 0)], []), (5, [(some 25, 0), (some 24, 0), (some 18, 0)], []), (20, [(some 24, 0), (some 14, 0)], [45]), (3, [(some 23, 0), (some 18, 0)], []), (20, [(some 23, 0), (some 14, 0)], [45]), (3, [(some 18, 0), (none, 0)], []), (3, [(some 15, 0), (none, 0)], []), (0, [(some 21, 0), (some 22, 0)], []), (20, [(some 22, 0), (some 16, 0)], [46]), (20, [(some 21, 0), (some 14, 0)], [46]), (0, [(none, 0), (none, 0)], []), (1, [(some 20, 0), (none, (-1))], []), (20, [(some 20, 0), (some 16, 0)], [46]), (0, [(none, 0), (none, 0)], []), (1, [(some 19, 0), (none, (-1))], []), (20, [(some 19, 0), (some 14, 0)], [46]), (1, [(none, 1), (none, 0)], []), (3, [(none, 3), (some 16, 0)], []), (3, [(some 16, 0), (none, 0)], []), (1, [(none, 1), (none, 0)], []), (3, [(none, 3), (some 14, 0)], []), (3, [(some 14, 0), (none, 0)], [])], (135, [(none, 1), (some 14, 0), (some 15, 0), (some 16, 0), (some 17, 0), (some 18, 0), (some 13, 0), (some 13, 0)], [45, 46, 41, 42, 43, 44, 41, 58, 43, 44]))
set_option maxRecDepth 20000 in
theorem v_xo_copy_0_40 {PT : PTy} (hp : HP9 PT) : vcOk PT w_xo_copy_0_40 := vc_iv [(13, 0, 5), (14, 2, 2), (15, 0, 60), (16, 1, 1), (17, 0, 60), (18, 0, 60), (19, 0, 2), (20, 0, 2), (21, (-1), 2), (22, (-1), 2), (23, 0, 60), (24, 0, 60), (25, 0, 60), (26, 0, 60), (27, 0, 60), (28, 0, 60)] [41, 42, 43, 44, 45, 46, 58] (by decide +kernel) (fun ρ α => by
  intro r13 g13 b13 r14 g14 b14 r15 g15 b15 r16 g16 b16 r17 g17 b17 r18 g18 b18 r19 g19 b19 r20 g20 b20 r21 g21 b21 r22 g22 b22 r23 g23 b23 r24 g24 b24 r25 g25 b25 r26 g26 b26 r27 g27 b27 r28 g28 b28 a41 h41 a42 h42 a43 h43 a44 h44 a45 h45 a46 h46 a58 h58 f0 f1 f2 f3 f4 f5 f6 f7 f8 f9 f10 f11 f12 f13 f14 f15 f16 f17 f18 f19 f20 f21 f22 f23 f24 f25 f26 f27 f28 f29 f30 f31 f32 f33 tt
  clear f3 f9 f10 f11 f17 f18 f22 f23 f25 f26 f28 f29 f30 f31 f32 f33
  have e135 : PT 135 = P_cpX := pe135_9 hp
  simp only [hF0, hF3, hF5, hF20, hF22, hFp_135, e135, P_cpX, den_s, den_c, Int.add_zero, List.map_cons, List.map_nil, g13.eq, g14.eq, g15.eq, g16.eq, g17.eq, g18.eq, g19.eq, g20.eq, g21.eq, g22.eq, g23.eq, g24.eq, g25.eq, g26.eq, g27.eq, g28.eq, h41, h42, h43, h44, h45, h46, h58] at f0 f1 f2 f4 f5 f6 f7 f8 f12 f13 f14 f15 f16 f19 f20 f21 f24 f27 ⊢
  subst f0
  subst f5
  subst f6
  subst f8
  subst f13
  subst f14
  subst f16
  subst f20
  subst f21
  subst f24
  subst f27
  ((repeat' (first | apply And.intro | intro h)) <;> first | omega | rfl | trivial | (exfalso; omega) | (congr 1; omega) | (congr 1; (repeat' split) <;> first | rfl | (exfalso; omega))))
def w_xo_copy_0_41 : VC := ((bT ++ [(2, 2), (0, 60), (2, 2), (0, 60), (0, 60), (0, 2), (0, 2), ((-1), 2), ((-1), 2), (0, 60), (0, 60), (0, 60), (0, 60), (0, 60), (0, 60)]), [(0, [(some 16, 0), (none, 2)], []), (0, [(some 14, 0), (none, 2)], []), (1, [(none, 1), (none, 0)], []), (3, [(some 28, 0), (some 17, 0)], []), (5, [(some 28, 0), (some 27, 0), (some 18, 0)], []), (20, [(some 27, 0), (some 16, 0)], [45]), (3, [(some 26, 0), (some 18, 0)], []), (20, [(some 26, 0), (some 16, 0)], [45]), (3, [(some 18, 0), (none, 0)], []), (3, [(some 17, 0), (none, 0)], []), (1, [(none, 1), (none, 0)], []), (3, [(some 25, 0), (some 15, 0)], []), (5, [(some 25, 0), (some 24, 0), (some 18, 0)], []), (20, [(some 24, 0), (some 14, 0)], [45]), (3, [(some 23, 0), (some 18, 0)], []), (20, [(some 23, 0), (some 14, 0)], [45]), (3, [(some 18, 0), (none, 0)], []), (3, [(some 15, 0), (none, 0)], []), (0, [(some 21, 0), (some 22, 0)], []), (20, [(some 22, 0), (some 16, 0)], [46]), (20, [(some 21, 0), (some 14, 0)], [46]), (0, [(none, 0), (none, 0)], []), (1, [(some 20, 0), (none, (-1))], []), (20, [(some 20, 0), (some 16, 0)], [46]), (0, [(none, 0), (none, 0)], []), (1, [(some 19, 0), (none, (-1))], []), (20, [(some 19, 0), (some 14, 0)], [46]), (1, [(none, 1), (none, 0)], []), (3, [(none, 3), (some 16, 0)], []), (3, [(some 16, 0), (none, 0)], []), (1, [(none, 1), (none, 0)], []), (3, [(none, 3), (some 14, 0)], []), (3, [(some 14, 0), (none, 0)], [])], (26, [(some 15, 0), (some 18, 0), (none, 60)], []))
set_option maxRecDepth 20000 in
theorem v_xo_copy_0_41 {PT : PTy} (hp : HP9 PT) : vcOk PT w_xo_copy_0_41 := vc_iv [(14, 2, 2), (15, 0, 60), (16, 2, 2), (17, 0, 60), (18, 0, 60), (19, 0, 2), (20, 0, 2), (21, (-1), 2), (22, (-1), 2), (23, 0, 60), (24, 0, 60), (25, 0, 60), (26, 0, 60), (27, 0, 60), (28, 0, 60)] [45, 46] (by decide +kernel) (fun ρ α => by
  intro r14 g14 b14 r15 g15 b15 r16 g16 b16 r17 g17 b17 r18 g18 b18 r19 g19 b19 r20 g20 b20 r21 g21 b21 r22 g22 b22 r23 g23 b23 r24 g24 b24 r25 g25 b25 r26 g26 b26 r27 g27 b27 r28 g28 b28 a45 h45 a46 h46 f0 f1 f2 f3 f4 f5 f6 f7 f8 f9 f10 f11 f12 f13 f14 f15 f16 f17 f18 f19 f20 f21 f22 f23 f24 f25 f26 f27 f28 f29 f30 f31 f32 tt
  clear f2 f8 f9 f10 f16 f17 f21 f22 f24 f25 f27 f28 f29 f30 f31 f32
  simp only [hF0, hF3, hF5, hF20, hF26, den_s, den_c, Int.add_zero, List.map_cons, List.map_nil, g14.eq, g15.eq, g16.eq, g17.eq, g18.eq, g19.eq, g20.eq, g21.eq, g22.eq, g23.eq, g24.eq, g25.eq, g26.eq, g27.eq, g28.eq, h45, h46] at f0 f1 f3 f4 f5 f6 f7 f11 f12 f13 f14 f15 f18 f19 f20 f23 f26 ⊢
  subst f4
  subst f5
  subst f7
  subst f12
  subst f13
  subst f15
  subst f19
  subst f20
  subst f23
  subst f26
  ((repeat' (first | apply And.intro | intro h)) <;> first | omega | rfl | trivial | (exfalso; omega) | (congr 1; omega) | (congr 1; (repeat' split) <;> first | rfl | (exfalso; omega))))
def w_xo_copy_0_42 : VC := ((bT ++ [(2, 2), (0, 60), (2, 2), (0, 60), (0, 60), (0, 2), (0, 2), ((-1), 2), ((-1), 2), (0, 60), (0, 60), (0, 60), (0, 60), (0, 60), (0, 60)]), [(0, [(some 16, 0), (none, 2)], []), (0, [(some 14, 0), (none, 2)], []), (1, [(none, 1), (none, 0)], []), (3, [(some 28, 0), (some 17, 0)], []), (5, [(some 28, 0), (some 27, 0), (some 18, 0)], []), (20, [(some 27, 0), (some 16, 0)], [45]), (3, [(some 26, 0), (some 18, 0)], []), (20, [(some 26, 0), (some 16, 0)], [45]), (3, [(some 18, 0), (none, 0)], []), (3, [(some 17, 0), (none, 0)], []), (1, [(none, 1), (none, 0)], []), (3, [(some 25, 0), (some 15, 0)], []), (5, [(some 25, 0), (some 24, 0), (some 18, 0)], []), (20, [(some 24, 0), (some 14, 0)], [45]), (3, [(some 23, 0), (some 18, 0)], []), (20, [(some 23, 0), (some 14, 0)], [45]), (3, [(some 18, 0), (none, 0)], []), (3, [(some 15, 0), (none, 0)], []), (0, [(some 21, 0), (some 22, 0)], []), (20, [(some 22, 0), (some 16, 0)], [46]), (20, [(some 21, 0), (some 14, 0)], [46]), (0, [(none, 0), (none, 0)], []), (1, [(some 20, 0), (none, (-1))], []), (20, [(some 20, 0), (some 16, 0)], [46]), (0, [(none, 0), (none, 0)], []), (1, [(some 19, 0), (none, (-1))], []), (20, [(some 19, 0), (some 14, 0)], [46]), (1, [(none, 1), (none, 0)], []), (3, [(none, 3), (some 16, 0)], []), (3, [(some 16, 0), (none, 0)], []), (1, [(none, 1), (none, 0)], []), (3, [(none, 3), (some 14, 0)], []), (3, [(some 14, 0), (none, 0)], [])], (26, [(some 17, 0), (some 18, 0), (none, 60)], []))
set_option maxRecDepth 20000 in
theorem v_xo_copy_0_42 {PT : PTy} (hp : HP9 PT) : vcOk PT w_xo_copy_0_42 := vc_iv [(14, 2, 2), (15, 0, 60), (16, 2, 2), (17, 0, 60), (18, 0, 60), (19, 0, 2), (20, 0, 2), (21, (-1), 2), (22, (-1), 2), (23, 0, 60), (24, 0, 60), (25, 0, 60), (26, 0, 60), (27, 0, 60), (28, 0, 60)] [45, 46] (by decide +kernel) (fun ρ α => by
  intro r14 g14 b14 r15 g15 b15 r16 g16 b16 r17 g17 b17 r18 g18 b18 r19 g19 b19 r20 g20 b20 r21 g21 b21 r22 g22 b22 r23 g23 b23 r24 g24 b24 r25 g25 b25 r26 g26 b26 r27 g27 b27 r28 g28 b28 a45 h45 a46 h46 f0 f1 f2 f3 f4 f5 f6 f7 f8 f9 f10 f11 f12 f13 f14 f15 f16 f17 f18 f19 f20 f21 f22 f23 f24 f25 f26 f27 f28 f29 f30 f31 f32 tt
  clear f2 f8 f9 f10 f16 f17 f21 f22 f24 f25 f27 f28 f29 f30 f31 f32
  simp only [hF0, hF3, hF5, hF20, hF26, den_s, den_c, Int.add_zero, List.map_cons, List.map_nil, g14.eq, g15.eq, g16.eq, g17.eq, g18.eq, g19.eq, g20.eq, g21.eq, g22.eq, g23.eq, g24.eq, g25.eq, g26.eq, g27.eq, g28.eq, h45, h46] at f0 f1 f3 f4 f5 f6 f7 f11 f12 f13 f14 f15 f18 f19 f20 f23 f26 ⊢
  subst f4
  subst f5
  subst f7
  subst f12
  subst f13
  subst f15
  subst f19
  subst f20
  subst f23
  subst f26
  ((repeat' (first | apply And.intro | intro h)) <;> first | omega | rfl | trivial | (exfalso; omega) | (congr 1; omega) | (congr 1; (repeat' split) <;> first | rfl | (exfalso; omega))))
def w_xo_copy_0_43 : VC := ((bT ++ [(2, 2), (0, 60), (2, 2), (0, 60), (0, 60), (0, 2), (0, 2), ((-1), 2), ((-1), 2), (0, 60), (0, 60), (0, 60), (0, 60), (0, 60), (0, 60)]), [(22, [(some 15, 0), (some 17, 0), (some 18, 0)], [58, 43, 43]), (0, [(some 16, 0), (none, 2)], []), (0, [(some 14, 0), (none, 2)], []), (1, [(none, 1), (none, 0)], []), (3, [(some 28, 0), (some 17, 0)], []), (5, [(some 28, 0), (some 27, 0), (some 18, 0)], []), (20, [(some 27, 0), (some 16, 0)], [45]), (3, [(some 26, 0), (some 18, 0)], []), (20, [(some 26, 0), (some 16, 0)], [45]), (3, [(some 18, 0), (none, 0)], []), (3, [(some 17, 0), (none, 0)], []), (1, [(none, 1), (none, 0)], []), (3, [(some 25, 0), (some 15, 0)], []), (5, [(some 25, 0), (some 24, 0), (some 18, 0)], []), (20, [(some 24, 0), (some 14, 0)], [45]), (3, [(some 23, 0), (some 18, 0)], []), (20, [(some 23, 0), (some 14, 0)], [45]), (3, [(some 18, 0), (none, 0)], []), (3, [(some 15, 0), (none, 0)], []), (0, [(some 21, 0), (some 22, 0)], []), (20, [(some 22, 0), (some 16, 0)], [46]), (20, [(some 21, 0), (some 14, 0)], [46]), (0, [(none, 0), (none, 0)], []), (1, [(some 20, 0), (none, (-1))], []), (20, [(some 20, 0), (some 16, 0)], [46]), (0, [(none, 0), (none, 0)], []), (1, [(some 19, 0), (none, (-1))], []), (20, [(some 19, 0), (some 14, 0)], [46]), (1, [(none, 1), (none, 0)], []), (3, [(none, 3), (some 16, 0)], []), (3, [(some 16, 0), (none, 0)], []), (1, [(none, 1), (none, 0)], []), (3, [(none, 3), (some 14, 0)], []), (3, [(some 14, 0), (none, 0)], [])], (135, [(none, 1), (some 14, 0), (some 15, 0), (some 16, 0), (some 17, 0), (some 18, 0), (some 13, 0), (some 13, 0)], [45, 46, 41, 42, 43, 44, 41, 42, 58, 44]))
set_option maxRecDepth 20000 in
theorem v_xo_copy_0_43 {PT : PTy} (hp : HP9 PT) : vcOk PT w_xo_copy_0_43 := vc_iv [(13, 0, 5), (14, 2, 2), (15, 0, 60), (16, 2, 2), (17, 0, 60), (18, 0, 60), (19, 0, 2), (20, 0, 2), (21, (-1), 2), (22, (-1), 2), (23, 0, 60), (24, 0, 60), (25, 0, 60), (26, 0, 60), (27, 0, 60), (28, 0, 60)] [41, 42, 43, 44, 45, 46, 58] (by decide +kernel) (fun ρ α => by
  intro r13 g13 b13 r14 g14 b14 r15 g15 b15 r16 g16 b16 r17 g17 b17 r18 g18 b18 r19 g19 b19 r20 g20 b20 r21 g21 b21 r22 g22 b22 r23 g23 b23 r24 g24 b24 r25 g25 b25 r26 g26 b26 r27 g27 b27 r28 g28 b28 a41 h41 a42 h42 a43 h43 a44 h44 a45 h45 a46 h46 a58 h58 f0 f1 f2 f3 f4 f5 f6 f7 f8 f9 f10 f11 f12 f13 f14 f15 f16 f17 f18 f19 f20 f21 f22 f23 f24 f25 f26 f27 f28 f29 f30 f31 f32 f33 tt
  clear f3 f9 f10 f11 f17 f18 f22 f23 f25 f26 f28 f29 f30 f31 f32 f33
  have e135 : PT 135 = P_cpX := pe135_9 hp
  simp only [hF0, hF3, hF5, hF20, hF22, hFp_135, e135, P_cpX, den_s, den_c, Int.add_zero, List.map_cons, List.map_nil, g13.eq, g14.eq, g15.eq, g16.eq, g17.eq, g18.eq, g19.eq, g20.eq, g21.eq, g22.eq, g23.eq, g24.eq, g25.eq, g26.eq, g27.eq, g28.eq, h41, h42, h43, h44, h45, h46, h58] at f0 f1 f2 f4 f5 f6 f7 f8 f12 f13 f14 f15 f16 f19 f20 f21 f24 f27 ⊢
  subst f0
  subst f5
  subst f6
  subst f8
  subst f13
  subst f14
  subst f16
  subst f20
  subst f21
  subst f24
  subst f27
  ((repeat' (first | apply And.intro | intro h)) <;> first | omega | rfl | trivial | (exfalso; omega) | (congr 1; omega) | (congr 1; (repeat' split) <;> first | rfl | (exfalso; omega))))
def w_xo_copy_0_44 : VC := ((bT ++ [(2, 2), (0, 60), (3, 3), (0, 60), (0, 60), (0, 2), (0, 2), ((-1), 2), ((-1), 2), (0, 60), (0, 60), (0, 60), (0, 60), (0, 60), (0, 60)]), [(0, [(some 16, 0), (none, 3)], []), (0, [(some 14, 0), (none, 2)], []), (1, [(none, 1), (none, 0)], []), (3, [(some 28, 0), (some 17, 0)], []), (5, [(some 28, 0), (some 27, 0), (some 18, 0)], []), (20, [(some 27, 0), (some 16, 0)], [45]), (3, [(some 26, 0), (some 18, 0)], []), (20, [(some 26, 0), (some 16, 0)], [45]), (3, [(some 18, 0), (none, 0)], []), (3, [(some 17, 0), (none, 0)], []), (1, [(none, 1), (none, 0)], []), (3, [(some 25, 0), (some 15, 0)], []), (5, [(some 25, 0), (some 24, 0), (some 18, 0)], []), (20, [(some 24, 0), (some 14, 0)], [45]), (3, [(some 23, 0), (some 18, 0)], []), (20, [(some 23, 0), (some 14, 0)], [45]), (3, [(some 18, 0), (none, 0)], []), (3, [(some 15, 0), (none, 0)], []), (0, [(some 21, 0), (some 22, 0)], []), (20, [(some 22, 0), (some 16, 0)], [46]), (20, [(some 21, 0), (some 14, 0)], [46]), (0, [(none, 0), (none, 0)], []), (1, [(some 20, 0), (none, (-1))], []), (20, [(some 20, 0), (some 16, 0)], [46]), (0, [(none, 0), (none, 0)], []), (1, [(some 19, 0), (none, (-1))], []), (20, [(some 19, 0), (some 14, 0)], [46]), (1, [(none, 1), (none, 0)], []), (3, [(none, 3), (some 16, 0)], []), (3, [(some 16, 0), (none, 0)], []), (1, [(none, 1), (none, 0)], []), (3, [(none, 3), (some 14, 0)], []), (3, [(some 14, 0), (none, 0)], [])], (26, [(some 15, 0), (some 18, 0), (none, 60)], []))
set_option maxRecDepth 20000 in
theorem v_xo_copy_0_44 {PT : PTy} (hp : HP9 PT) : vcOk PT w_xo_copy_0_44 := vc_iv [(14, 2, 2), (15, 0, 60), (16, 3, 3), (17, 0, 60), (18, 0, 60), (19, 0, 2), (20, 0, 2), (21, (-1), 2), (22, (-1), 2), (23, 0, 60), (24, 0, 60), (25, 0, 60), (26, 0, 60), (27, 0, 60), (28, 0, 60)] [45, 46] (by decide +kernel) (fun ρ α => by
  intro r14 g14 b14 r15 g15 b15 r16 g16 b16 r17 g17 b17 r18 g18 b18 r19 g19 b19 r20 g20 b20 r21 g21 b21 r22 g22 b22 r23 g23 b23 r24 g24 b24 r25 g25 b25 r26 g26 b26 r27 g27 b27 r28 g28 b28 a45 h45 a46 h46 f0 f1 f2 f3 f4 f5 f6 f7 f8 f9 f10 f11 f12 f13 f14 f15 f16 f17 f18 f19 f20 f21 f22 f23 f24 f25 f26 f27 f28 f29 f30 f31 f32 tt
  clear f2 f8 f9 f10 f16 f17 f21 f22 f24 f25 f27 f28 f29 f30 f31 f32
  simp only [hF0, hF3, hF5, hF20, hF26, den_s, den_c, Int.add_zero, List.map_cons, List.map_nil, g14.eq, g15.eq, g16.eq, g17.eq, g18.eq, g19.eq, g20.eq, g21.eq, g22.eq, g23.eq, g24.eq, g25.eq, g26.eq, g27.eq, g28.eq, h45, h46] at f0 f1 f3 f4 f5 f6 f7 f11 f12 f13 f14 f15 f18 f19 f20 f23 f26 ⊢
  subst f4
  subst f5
  subst f7
  subst f12
  subst f13
  subst f15
  subst f19
  subst f20
  subst f23
  subst f26
  ((repeat' (first | apply And.intro | intro h)) <;> first | omega | rfl | trivial | (exfalso; omega) | (congr 1; omega) | (congr 1; (repeat' split) <;> first | rfl | (exfalso; omega))))
def w_xo_copy_0_45 : VC := ((bT ++ [(2, 2), (0, 60), (3, 3), (0, 60), (0, 60), (0, 2), (0, 2), ((-1), 2), ((-1), 2), (0, 60), (0, 60), (0, 60), (0, 60), (0, 60), (0, 60)]), [(0, [(some 16, 0), (none, 3)], []), (0, [(some 14, 0), (none, 2)], []), (1, [(none, 1), (none, 0)], []), (3, [(some 28, 0), (some 17, 0)], []), (5, [(some 28, 0), (some 27, 0), (some 18, 0)], []), (20, [(some 27, 0), (some 16, 0)], [45]), (3, [(some 26, 0), (some 18, 0)], []), (20, [(some 26, 0), (some 16, 0)], [45]), (3, [(some 18, 0), (none, 0)], []), (3, [(some 17, 0), (none, 0)], []), (1, [(none, 1), (none, 0)], []), (3, [(some 25, 0), (some 15, 0)], []), (5, [(some 25, 0), (some 24, 0), (some 18, 0)], []), (20, [(some 24, 0), (some 14, 0)], [45]), (3, [(some 23, 0), (some 18, 0)], []), (20, [(some 23, 0), (some 14, 0)], [45]), (3, [(some 18, 0), (none, 0)], []), (3, [(some 15, 0), (none, 0)], []), (0, [(some 21, 0), (some 22, 0)], []), (20, [(some 22, 0), (some 16, 0)], [46]), (20, [(some 21, 0), (some 14, 0)], [46]), (0, [(none, 0), (none, 0)], []), (1, [(some 20, 0), (none, (-1))], []), (20, [(some 20, 0), (some 16, 0)], [46]), (0, [(none, 0), (none, 0)], []), (1, [(some 19, 0), (none, (-1))], []), (20, [(some 19, 0), (some 14, 0)], [46]), (1, [(none, 1), (none, 0)], []), (3, [(none, 3), (some 16, 0)], []), (3, [(some 16, 0), (none, 0)], []), (1, [(none, 1), (none, 0)], []), (3, [(none, 3), (some 14, 0)], []), (3, [(some 14, 0), (none, 0)], [])], (26, [(some 17, 0), (some 18, 0), (none, 60)], []))
set_option maxRecDepth 20000 in
theorem v_xo_copy_0_45 {PT : PTy} (hp : HP9 PT) : vcOk PT w_xo_copy_0_45 := vc_iv [(14, 2, 2), (15, 0, 60), (16, 3, 3), (17, 0, 60), (18, 0, 60), (19, 0, 2), (20, 0, 2), (21, (-1), 2), (22, (-1), 2), (23, 0, 60), (24, 0, 60), (25, 0, 60), (26, 0, 60), (27, 0, 60), (28, 0, 60)] [45, 46] (by decide +kernel) (fun ρ α => by
  intro r14 g14 b14 r15 g15 b15 r16 g16 b16 r17 g17 b17 r18 g18 b18 r19 g19 b19 r20 g20 b20 r21 g21 b21 r22 g22 b22 r23 g23 b23 r24 g24 b24 r25 g25 b25 r26 g26 b26 r27 g27 b27 r28 g28 b28 a45 h45 a46 h46 f0 f1 f2 f3 f4 f5 f6 f7 f8 f9 f10 f11 f12 f13 f14 f15 f16 f17 f18 f19 f20 f21 f22 f23 f24 f25 f26 f27 f28 f29 f30 f31 f32 tt
  clear f2 f8 f9 f10 f16 f17 f21 f22 f24 f25 f27 f28 f29 f30 f31 f32
  simp only [hF0, hF3, hF5, hF20, hF26, den_s, den_c, Int.add_zero, List.map_cons, List.map_nil, g14.eq, g15.eq, g16.eq, g17.eq, g18.eq, g19.eq, g20.eq, g21.eq, g22.eq, g23.eq, g24.eq, g25.eq, g26.eq, g27.eq, g28.eq, h45, h46] at f0 f1 f3 f4 f5 f6 f7 f11 f12 f13 f14 f15 f18 f19 f20 f23 f26 ⊢
  subst f4
  subst f5
  subst f7
  subst f12
  subst f13
  subst f15
  subst f19
  subst f20
  subst f23
  subst f26
  ((repeat' (first | apply And.intro | intro h)) <;> first | omega | rfl | trivial | (exfalso; omega) | (congr 1; omega) | (congr 1; (repeat' split) <;> first | rfl | (exfalso; omega))))
def w_xo_copy_0_46 : VC := ((bT ++ [(2, 2), (0, 60), (3, 3), (0, 60), (0, 60), (0, 2), (0, 2), ((-1), 2), ((-1), 2), (0, 60), (0, 60), (0, 60), (0, 60), (0, 60), (0, 60)]), [(22, [(some 15, 0), (some 17, 0), (some 18, 0)], [58, 43, 44]), (0, [(some 16, 0), (none, 3)], []), (0, [(some 14, 0), (none, 2)], []), (1, [(none, 1), (none, 0)], []), (3, [(some 28, 0), (some 17, 0)], []), (5, [(some 28, 0), (some 27, 0), (some 18, 0)], []), (20, [(some 27, 0), (some 16, 0)], [45]), (3, [(some 26, 0), (some 18, 0)], []), (20, [(some 26, 0), (some 16, 0)], [45]), (3, [(some 18, 0), (none, 0)], []), (3, [(some 17, 0), (none, 0)], []), (1, [(none, 1), (none, 0)], []), (3, [(some 25, 0), (some 15, 0)], []), (5, [(some 25, 0), (some 24, 0), (some 18, 0)], []), (20, [(some 24, 0), (some 14, 0)], [45]), (3, [(some 23, 0), (some 18, 0)], []), (20, [(some 23, 0), (some 14, 0)], [45]), (3, [(some 18, 0), (none, 0)], []), (3, [(some 15, 0), (none, 0)], []), (0, [(some 21, 0), (some 22, 0)], []), (20, [(some 22, 0), (some 16, 0)], [46]), (20, [(some 21, 0), (some 14, 0)], [46]), (0, [(none, 0), (none, 0)], []), (1, [(some 20, 0), (none, (-1))], []), (20, [(some 20, 0), (some 16, 0)], [46]), (0, [(none, 0), (none, 0)], []), (1, [(some 19, 0), (none, (-1))], []), (20, [(some 19, 0), (some 14, 0)], [46]), (1, [(none, 1), (none, 0)], []), (3, [(none, 3), (some 16, 0)], []), (3, [(some 16, 0), (none, 0)], []), (1, [(none, 1), (none, 0)], []), (3, [(none, 3), (some 14, 0)], []), (3, [(some 14, 0), (none, 0)], [])], (135, [(none, 1), (some 14, 0), (some 15, 0), (some 16, 0), (some 17, 0), (some 18, 0), (some 13, 0), (some 13, 0)], [45, 46, 41, 42, 43, 44, 41, 42, 43, 58]))
set_option maxRecDepth 20000 in
theorem v_xo_copy_0_46 {PT : PTy} (hp : HP9 PT) : vcOk PT w_xo_copy_0_46 := vc_iv [(13, 0, 5), (14, 2, 2), (15, 0, 60), (16, 3, 3), (17, 0, 60), (18, 0, 60), (19, 0, 2), (20, 0, 2), (21, (-1), 2), (22, (-1), 2), (23, 0, 60), (24, 0, 60), (25, 0, 60), (26, 0, 60), (27, 0, 60), (28, 0, 60)] [41, 42, 43, 44, 45, 46, 58] (by decide +kernel) (fun ρ α => by
  intro r13 g13 b13 r14 g14 b14 r15 g15 b15 r16 g16 b16 r17 g17 b17 r18 g18 b18 r19 g19 b19 r20 g20 b20 r21 g21 b21 r22 g22 b22 r23 g23 b23 r24 g24 b24 r25 g25 b25 r26 g26 b26 r27 g27 b27 r28 g28 b28 a41 h41 a42 h42 a43 h43 a44 h44 a45 h45 a46 h46 a58 h58 f0 f1 f2 f3 f4 f5 f6 f7 f8 f9 f10 f11 f12 f13 f14 f15 f16 f17 f18 f19 f20 f21 f22 f23 f24 f25 f26 f27 f28 f29 f30 f31 f32 f33 tt
  clear f3 f9 f10 f11 f17 f18 f22 f23 f25 f26 f28 f29 f30 f31 f32 f33
  have e135 : PT 135 = P_cpX := pe135_9 hp
  simp only [hF0, hF3, hF5, hF20, hF22, hFp_135, e135, P_cpX, den_s, den_c, Int.add_zero, List.map_cons, List.map_nil, g13.eq, g14.eq, g15.eq, g16.eq, g17.eq, g18.eq, g19.eq, g20.eq, g21.eq, g22.eq, g23.eq, g24.eq, g25.eq, g26.eq, g27.eq, g28.eq, h41, h42, h43, h44, h45, h46, h58] at f0 f1 f2 f4 f5 f6 f7 f8 f12 f13 f14 f15 f16 f19 f20 f21 f24 f27 ⊢
  subst f0
  subst f5
  subst f6
  subst f8
  subst f13
  subst f14
  subst f16
  subst f20
  subst f21
  subst f24
  subst f27
  ((repeat' (first | apply And.intro | intro h)) <;> first | omega | rfl | trivial | (exfalso; omega) | (congr 1; omega) | (congr 1; (repeat' split) <;> first | rfl | (exfalso; omega))))
def w_xo_copy_0_47 : VC := ((bT ++ [(3, 3), (0, 60), (0, 0), (0, 60), (0, 60), (0, 2), (0, 2), ((-1), 2), ((-1), 2), (0, 60), (0, 60), (0, 60), (0, 60), (0, 60), (0, 60)]), [(0, [(some 16, 0), (none, 0)], []), (0, [(some 14, 0), (none, 3)], []), (1, [(none, 1), (none, 0)], []), (3, [(some 28, 0), (some 17, 0)], []), (5, [(some 28, 0), (some 27, 0), (some 18, 0)], []), (20, [(some 27, 0), (some 16, 0)], [45]), (3, [(some 26, 0), (some 18, 0)], []), (20, [(some 26, 0), (some 16, 0)], [45]), (3, [(some 18, 0), (none, 0)], []), (3, [(some 17, 0), (none, 0)], []), (1, [(none, 1), (none, 0)], []), (3, [(some 25, 0), (some 15, 0)], []), (5, [(some 25, 0), (some 24, 0), (some 18, 0)], []), (20, [(some 24, 0), (some 14, 0)], [45]), (3, [(some 23, 0), (some 18, 0)], []), (20, [(some 23, 0), (some 14, 0)], [45]), (3, [(some 18, 0), (none, 0)], []), (3, [(some 15, 0), (none, 0)], []), (0, [(some 21, 0), (some 22, 0)], []), (20, [(some 22, 0), (some 16, 0)], [46]), (20, [(some 21, 0), (some 14, 0)], [46]), (0, [(none, 0), (none, 0)], []), (1, [(some 20, 0), (none, (-1))], []), (20, [(some 20, 0), (some 16, 0)], [46]), (0, [(none, 0), (none, 0)], []), (1, [(some 19, 0), (none, (-1))], []), (20, [(some 19, 0), (some 14, 0)], [46]), (1, [(none, 1), (none, 0)], []), (3, [(none, 3), (some 16, 0)], []), (3, [(some 16, 0), (none, 0)], []), (1, [(none, 1), (none, 0)], []), (3, [(none, 3), (some 14, 0)], []), (3, [(some 14, 0), (none, 0)], [])], (26, [(some 15, 0), (some 18, 0), (none, 60)], []))
set_option maxRecDepth 20000 in
theorem v_xo_copy_0_47 {PT : PTy} (hp : HP9 PT) : vcOk PT w_xo_copy_0_47 := vc_iv [(14, 3, 3), (15, 0, 60), (16, 0, 0), (17, 0, 60), (18, 0, 60), (19, 0, 2), (20, 0, 2), (21, (-1), 2), (22, (-1), 2), (23, 0, 60), (24, 0, 60), (25, 0, 60), (26, 0, 60), (27, 0, 60), (28, 0, 60)] [45, 46] (by decide +kernel) (fun ρ α => by
  intro r14 g14 b14 r15 g15 b15 r16 g16 b16 r17 g17 b17 r18 g18 b18 r19 g19 b19 r20 g20 b20 r21 g21 b21 r22 g22 b22 r23 g23 b23 r24 g24 b24 r25 g25 b25 r26 g26 b26 r27 g27 b27 r28 g28 b28 a45 h45 a46 h46 f0 f1 f2 f3 f4 f5 f6 f7 f8 f9 f10 f11 f12 f13 f14 f15 f16 f17 f18 f19 f20 f21 f22 f23 f24 f25 f26 f27 f28 f29 f30 f31 f32 tt
  clear f2 f8 f9 f10 f16 f17 f21 f22 f24 f25 f27 f28 f29 f30 f31 f32
  simp only [hF0, hF3, hF5, hF20, hF26, den_s, den_c, Int.add_zero, List.map_cons, List.map_nil, g14.eq, g15.eq, g16.eq, g17.eq, g18.eq, g19.eq, g20.eq, g21.eq, g22.eq, g23.eq, g24.eq, g25.eq, g26.eq, g27.eq, g28.eq, h45, h46] at f0 f1 f3 f4 f5 f6 f7 f11 f12 f13 f14 f15 f18 f19 f20 f23 f26 ⊢
  subst f4
  subst f5
  subst f7
  subst f12
  subst f13
  subst f15
  subst f19
  subst f20
  subst f23
  subst f26
  ((repeat' (first | apply And.intro | intro h)) <;> first | omega | rfl | trivial | (exfalso; omega) | (congr 1; omega) | (congr 1; (repeat' split) <;> first | rfl | (exfalso; omega))))
def w_xo_copy_0_48 : VC := ((bT ++ [(3, 3), (0, 60), (0, 0), (0, 60), (0, 60), (0, 2), (0, 2), ((-1), 2), ((-1), 2), (0, 60), (0, 60), (0, 60), (0, 60), (0, 60), (0, 60)]), [(0, [(some 16, 0), (none, 0)], []), (0, [(some 14, 0), (none, 3)], []), (1, [(none, 1), (none, 0)], []), (3, [(some 28, 0), (some 17, 0)], []), (5, [(some 28, 0), (some 27, 0), (some 18, 0)], []), (20, [(some 27, 0), (some 16, 0)], [45]), (3, [(some 26, 0), (some 18, 0)], []), (20, [(some 26, 0), (some 16, 0)], [45]), (3, [(some 18, 0), (none, 0)], []), (3, [(some 17, 0), (none, 0)], []), (1, [(none, 1), (none, 0)], []), (3, [(some 25, 0), (some 15, 0)], []), (5, [(some 25, 0), (some 24, 0), (some 18, 0)], []), (20, [(some 24, 0), (some 14, 0)], [45]), (3, [(some 23, 0), (some 18, 0)], []), (20, [(some 23, 0), (some 14, 0)], [45]), (3, [(some 18, 0), (none, 0)], []), (3, [(some 15, 0), (none, 0)], []), (0, [(some 21, 0), (some 22, 0)], []), (20, [(some 22, 0), (some 16, 0)], [46]), (20, [(some 21, 0), (some 14, 0)], [46]), (0, [(none, 0), (none, 0)], []), (1, [(some 20, 0), (none, (-1))], []), (20, [(some 20, 0), (some 16, 0)], [46]), (0, [(none, 0), (none, 0)], []), (1, [(some 19, 0), (none, (-1))], []), (20, [(some 19, 0), (some 14, 0)], [46]), (1, [(none, 1), (none, 0)], []), (3, [(none, 3), (some 16, 0)], []), (3, [(some 16, 0), (none, 0)], []), (1, [(none, 1), (none, 0)], []), (3, [(none, 3), (some 14, 0)], []), (3, [(some 14, 0), (none, 0)], [])], (26, [(some 17, 0), (some 18, 0), (none, 60)], []))
set_option maxRecDepth 20000 in
theorem v_xo_copy_0_48 {PT : PTy} (hp : HP9 PT) : vcOk PT w_xo_copy_0_48 := vc_iv [(14, 3, 3), (15, 0, 60), (16, 0, 0), (17, 0, 60), (18, 0, 60), (19, 0, 2), (20, 0, 2), (21, (-1), 2), (22, (-1), 2), (23, 0, 60), (24, 0, 60), (25, 0, 60), (26, 0, 60), (27, 0, 60), (28, 0, 60)] [45, 46] (by decide +kernel) (fun ρ α => by
  intro r14 g14 b14 r15 g15 b15 r16 g16 b16 r17 g17 b17 r18 g18 b18 r19 g19 b19 r20 g20 b20 r21 g21 b21 r22 g22 b22 r23 g23 b23 r24 g24 b24 r25 g25 b25 r26 g26 b26 r27 g27 b27 r28 g28 b28 a45 h45 a46 h46 f0 f1 f2 f3 f4 f5 f6 f7 f8 f9 f10 f11 f12 f13 f14 f15 f16 f17 f18 f19 f20 f21 f22 f23 f24 f25 f26 f27 f28 f29 f30 f31 f32 tt
  clear f2 f8 f9 f10 f16 f17 f21 f22 f24 f25 f27 f28 f29 f30 f31 f32
  simp only [hF0, hF3, hF5, hF20, hF26, den_s, den_c, Int.add_zero, List.map_cons, List.map_nil, g14.eq, g15.eq, g16.eq, g17.eq, g18.eq, g19.eq, g20.eq, g21.eq, g22.eq, g23.eq, g24.eq, g25.eq, g26.eq, g27.eq, g28.eq, h45, h46] at f0 f1 f3 f4 f5 f6 f7 f11 f12 f13 f14 f15 f18 f19 f20 f23 f26 ⊢
  subst f4
  subst f5
  subst f7
  subst f12
  subst f13
  subst f15
  subst f19
  subst f20
  subst f23
  subst f26
  ((repeat' (first | apply And.intro | intro h)) <;> first | omega | rfl | trivial | (exfalso; omega) | (congr 1; omega) | (congr 1; (repeat' split) <;> first | rfl | (exfalso; omega))))
def w_xo_copy_0_49 : VC := ((bT ++ [(3, 3), (0, 60), (0, 0), (0, 60), (0, 60), (0, 2), (0, 2), ((-1), 2), ((-1), 2), (0, 60), (0, 60), (0, 60), (0, 60), (0, 60), (0, 60)]), [(22, [(some 15, 0), (some 17, 0), (some 18, 0)], [58, 44, 41]), (0, [(some 16, 0), (none, 0)], []), (0, [(some 14, 0), (none, 3)], []), (1, [(none, 1), (none, 0)], []), (3, [(some 28, 0), (some 17, 0)], []), (5, [(some 28, 0), (some 27, 0), (some 18, 0)], []), (20, [(some 27, 0), (some 16, 0)], [45]), (3, [(some 26, 0), (some 18, 0)], []), (20, [(some 26, 0), (some 16, 0)], [45]), (3, [(some 18, 0), (none, 0)], []), (3, [(some 17, 0), (none, 0)], []), (1, [(none, 1), (none, 0)], []), (3, [(some 25, 0), (some 15, 0)], []), (5, [(some 25, 0), (some 24, 0), (some 18, 0)], []), (20, [(some 24, 0), (some 14, 0)], [45]), (3, [(some 23, 0), (some 18, 0)], []), (20, [(some 23, 0), (some 14, 0)], [45]), (3, [(some 18, 0), (none, 0)], []), (3, [(some 15, 0), (none, 0)], []), (0, [(some 21, 0), (some 22, 0)], []), (20, [(some 22, 0), (some 16, 0)], [46]), (20, [(some 21, 0), (some 14, 0)], [46]), (0, [(none, 0), (none, 0)], []), (1, [(some 20, 0), (none, (-1))], []), (20, [(some 20, 0), (some 16, 0)], [46]), (0, [(none, 0), (none, 0)], []), (1, [(some 19, 0), (none, (-1))], []), (20, [(some 19, 0), (some 14, 0)], [46]), (1, [(none, 1), (none, 0)], []), (3, [(none, 3), (some 16, 0)], []), (3, [(some 16, 0), (none, 0)], []), (1, [(none, 1), (none, 0)], []), (3, [(none, 3), (some 14, 0)], []), (3, [(some 14, 0), (none, 0)], [])], (135, [(none, 1), (some 14, 0), (some 15, 0), (some 16, 0), (some 17, 0), (some 18, 0), (some 13, 0), (some 13, 0)], [45, 46, 41, 42, 43, 44, 58, 42, 43, 44]))
set_option maxRecDepth 20000 in
theorem v_xo_copy_0_49 {PT : PTy} (hp : HP9 PT) : vcOk PT w_xo_copy_0_49 := vc_iv [(13, 0, 5), (14, 3, 3), (15, 0, 60), (16, 0, 0), (17, 0, 60), (18, 0, 60), (19, 0, 2), (20, 0, 2), (21, (-1), 2), (22, (-1), 2), (23, 0, 60), (24, 0, 60), (25, 0, 60), (26, 0, 60), (27, 0, 60), (28, 0, 60)] [41, 42, 43, 44, 45, 46, 58] (by decide +kernel) (fun ρ α => by
  intro r13 g13 b13 r14 g14 b14 r15 g15 b15 r16 g16 b16 r17 g17 b17 r18 g18 b18 r19 g19 b19 r20 g20 b20 r21 g21 b21 r22 g22 b22 r23 g23 b23 r24 g24 b24 r25 g25 b25 r26 g26 b26 r27 g27 b27 r28 g28 b28 a41 h41 a42 h42 a43 h43 a44 h44 a45 h45 a46 h46 a58 h58 f0 f1 f2 f3 f4 f5 f6 f7 f8 f9 f10 f11 f12 f13 f14 f15 f16 f17 f18 f19 f20 f21 f22 f23 f24 f25 f26 f27 f28 f29 f30 f31 f32 f33 tt
  clear f3 f9 f10 f11 f17 f18 f22 f23 f25 f26 f28 f29 f30 f31 f32 f33
  have e135 : PT 135 = P_cpX := pe135_9 hp
  simp only [hF0, hF3, hF5, hF20, hF22, hFp_135, e135, P_cpX, den_s, den_c, Int.add_zero, List.map_cons, List.map_nil, g13.eq, g14.eq, g15.eq, g16.eq, g17.eq, g18.eq, g19.eq, g20.eq, g21.eq, g22.eq, g23.eq, g24.eq, g25.eq, g26.eq, g27.eq, g28.eq, h41, h42, h43, h44, h45, h46, h58] at f0 f1 f2 f4 f5 f6 f7 f8 f12 f13 f14 f15 f16 f19 f20 f21 f24 f27 ⊢
  subst f0
  subst f5
  subst f6
  subst f8
  subst f13
  subst f14
  subst f16
  subst f20
  subst f21
  subst f24
  subst f27
  ((repeat' (first | apply And.intro | intro h)) <;> first | omega | rfl | trivial | (exfalso; omega) | (congr 1; omega) | (congr 1; (repeat' split) <;> first | rfl | (exfalso; omega))))
def w_xo_copy_0_50 : VC := ((bT ++ [(3, 3), (0, 60), (1, 1), (0, 60), (0, 60), (0, 2), (0, 2), ((-1), 2), ((-1), 2), (0, 60), (0, 60), (0, 60), (0, 60), (0, 60), (0, 60)]), [(0, [(some 16, 0), (none, 1)], []), (0, [(some 14, 0), (none, 3)], []), (1, [(none, 1), (none, 0)], []), (3, [(some 28, 0), (some 17, 0)], []), (5, [(some 28, 0), (some 27, 0), (some 18, 0)], []), (20, [(some 27, 0), (some 16, 0)], [45]), (3, [(some 26, 0), (some 18, 0)], []), (20, [(some 26, 0), (some 16, 0)], [45]), (3, [(some 18, 0), (none, 0)], []), (3, [(some 17, 0), (none, 0)], []), (1, [(none, 1), (none, 0)], []), (3, [(some 25, 0), (some 15, 0)], []), (5, [(some 25, 0), (some 24, 0), (some 18, 0)], []), (20, [(some 24, 0), (some 14, 0)], [45]), (3, [(some 23, 0), (some 18, 0)], []), (20, [(some 23, 0), (some 14, 0)], [45]), (3, [(some 18, 0), (none, 0)], []), (3, [(some 15, 0), (none, 0)], []), (0, [(some 21, 0), (some 22, 0)], []), (20, [(some 22, 0), (some 16, 0)], [46]), (20, [(some 21, 0), (some 14, 0)], [46]), (0, [(none, 0), (none, 0)], []), (1, [(some 20, 0), (none, (-1))], []), (20, [(some 20, 0), (some 16, 0)], [46]), (0, [(none, 0), (none, 0)], []), (1, [(some 19, 0), (none, (-1))], []), (20, [(some 19, 0), (some 14, 0)], [46]), (1, [(none, 1), (none, 0)], []), (3, [(none, 3), (some 16, 0)], []), (3, [(some 16, 0), (none, 0)], []), (1, [(none, 1), (none, 0)], []), (3, [(none, 3), (some 14, 0)], []), (3, [(some 14, 0), (none, 0)], [])], (26, [(some 15, 0), (some 18, 0), (none, 60)], []))
set_option maxRecDepth 20000 in
theorem v_xo_copy_0_50 {PT : PTy} (hp : HP9 PT) : vcOk PT w_xo_copy_0_50 := vc_iv [(14, 3, 3), (15, 0, 60), (16, 1, 1), (17, 0, 60), (18, 0, 60), (19, 0, 2), (20, 0, 2), (21, (-1), 2), (22, (-1), 2), (23, 0, 60), (24, 0, 60), (25, 0, 60), (26, 0, 60), (27, 0, 60), (28, 0, 60)] [45, 46] (by decide +kernel) (fun ρ α => by
  intro r14 g14 b14 r15 g15 b15 r16 g16 b16 r17 g17 b17 r18 g18 b18 r19 g19 b19 r20 g20 b20 r21 g21 b21 r22 g22 b22 r23 g23 b23 r24 g24 b24 r25 g25 b25 r26 g26 b26 r27 g27 b27 r28 g28 b28 a45 h45 a46 h46 f0 f1 f2 f3 f4 f5 f6 f7 f8 f9 f10 f11 f12 f13 f14 f15 f16 f17 f18 f19 f20 f21 f22 f23 f24 f25 f26 f27 f28 f29 f30 f31 f32 tt
  clear f2 f8 f9 f10 f16 f17 f21 f22 f24 f25 f27 f28 f29 f30 f31 f32
  simp only [hF0, hF3, hF5, hF20, hF26, den_s, den_c, Int.add_zero, List.map_cons, List.map_nil, g14.eq, g15.eq, g16.eq, g17.eq, g18.eq, g19.eq, g20.eq, g21.eq, g22.eq, g23.eq, g24.eq, g25.eq, g26.eq, g27.eq, g28.eq, h45, h46] at f0 f1 f3 f4 f5 f6 f7 f11 f12 f13 f14 f15 f18 f19 f20 f23 f26 ⊢
  subst f4
  subst f5
  subst f7
  subst f12
  subst f13
  subst f15
  subst f19
  subst f20
  subst f23
  subst f26
  ((repeat' (first | apply And.intro | intro h)) <;> first | omega | rfl | trivial | (exfalso; omega) | (congr 1; omega) | (congr 1; (repeat' split) <;> first | rfl | (exfalso; omega))))
def w_xo_copy_0_51 : VC := ((bT ++ [(3, 3), (0, 60), (1, 1), (0, 60), (0, 60), (0, 2), (0, 2), ((-1), 2), ((-1), 2), (0, 60), (0, 60), (0, 60), (0, 60), (0, 60), (0, 60)]), [(0, [(some 16, 0), (none, 1)], []), (0, [(some 14, 0), (none, 3)], []), (1, [(none, 1), (none, 0)], []), (3, [(some 28, 0), (some 17, 0)], []), (5, [(some 28, 0), (some 27, 0), (some 18, 0)], []), (20, [(some 27, 0), (some 16, 0)], [45]), (3, [(some 26, 0), (some 18, 0)], []), (20, [(some 26, 0), (some 16, 0)], [45]), (3, [(some 18, 0), (none, 0)], []), (3, [(some 17, 0), (none, 0)], []), (1, [(none, 1), (none, 0)], []), (3, [(some 25, 0), (some 15, 0)], []), (5, [(some 25, 0), (some 24, 0), (some 18, 0)], []), (20, [(some 24, 0), (some 14, 0)], [45]), (3, [(some 23, 0), (some 18, 0)], []), (20, [(some 23, 0), (some 14, 0)], [45]), (3, [(some 18, 0), (none, 0)], []), (3, [(some 15, 0), (none, 0)], []), (0, [(some 21, 0), (some 22, 0)], []), (20, [(some 22, 0), (some 16, 0)], [46]), (20, [(some 21, 0), (some 14, 0)], [46]), (0, [(none, 0), (none, 0)], []), (1, [(some 20, 0), (none, (-1))], []), (20, [(some 20, 0), (some 16, 0)], [46]), (0, [(none, 0), (none, 0)], []), (1, [(some 19, 0), (none, (-1))], []), (20, [(some 19, 0), (some 14, 0)], [46]), (1, [(none, 1), (none, 0)], []), (3, [(none, 3), (some 16, 0)], []), (3, [(some 16, 0), (none, 0)], []), (1, [(none, 1), (none, 0)], []), (3, [(none, 3), (some 14, 0)], []), (3, [(some 14, 0), (none, 0)], [])], (26, [(some 17, 0), (some 18, 0), (none, 60)], []))
set_option maxRecDepth 20000 in
theorem v_xo_copy_0_51 {PT : PTy} (hp : HP9 PT) : vcOk PT w_xo_copy_0_51 := vc_iv [(14, 3, 3), (15, 0, 60), (16, 1, 1), (17, 0, 60), (18, 0, 60), (19, 0, 2), (20, 0, 2), (21, (-1), 2), (22, (-1), 2), (23, 0, 60), (24, 0, 60), (25, 0, 60), (26, 0, 60), (27, 0, 60), (28, 0, 60)] [45, 46] (by decide +kernel) (fun ρ α => by
  intro r14 g14 b14 r15 g15 b15 r16 g16 b16 r17 g17 b17 r18 g18 b18 r19 g19 b19 r20 g20 b20 r21 g21 b21 r22 g22 b22 r23 g23 b23 r24 g24 b24 r25 g25 b25 r26 g26 b26 r27 g27 b27 r28 g28 b28 a45 h45 a46 h46 f0 f1 f2 f3 f4 f5 f6 f7 f8 f9 f10 f11 f12 f13 f14 f15 f16 f17 f18 f19 f20 f21 f22 f23 f24 f25 f26 f27 f28 f29 f30 f31 f32 tt
  clear f2 f8 f9 f10 f16 f17 f21 f22 f24 f25 f27 f28 f29 f30 f31 f32
  simp only [hF0, hF3, hF5, hF20, hF26, den_s, den_c, Int.add_zero, List.map_cons, List.map_nil, g14.eq, g15.eq, g16.eq, g17.eq, g18.eq, g19.eq, g20.eq, g21.eq, g22.eq, g23.eq, g24.eq, g25.eq, g26.eq, g27.eq, g28.eq, h45, h46] at f0 f1 f3 f4 f5 f6 f7 f11 f12 f13 f14 f15 f18 f19 f20 f23 f26 ⊢
  subst f4
  subst f5
  subst f7
  subst f12
  subst f13
  subst f15
  subst f19
  subst f20
  subst f23
  subst f26
  ((repeat' (first | apply And.intro | intro h)) <;> first | omega | rfl | trivial | (exfalso; omega) | (congr 1; omega) | (congr 1; (repeat' split) <;> first | rfl | (exfalso; omega))))
def w_xo_copy_0_52 : VC := ((bT ++ [(3, 3), (0, 60), (1, 1), (0, 60), (0, 60), (0, 2), (0, 2), ((-1), 2), ((-1), 2), (0, 60), (0, 60), (0, 60), (0, 60), (0, 60), (0, 60)]), [(22, [(some 15, 0), (some 17, 0), (some 18, 0)], [58, 44, 42]), (0, [(some 16, 0), (none, 1)], []), (0, [(some 14, 0), (none, 3)], []), (1, [(none, 1), (none, 0)], []), (3, [(some 28, 0), (some 17, 0)], []), (5, [(some 28, 0), (some 27, 0), (some 18, 0)], []), (20, [(some 27, 0), (some 16, 0)], [45]), (3, [(some 26, 0), (some 18, 0)], []), (20, [(some 26, 0), (some 16, 0)], [45]), (3, [(some 18, 0), (none, 0)], []), (3, [(some 17, 0), (none, 0)], []), (1, [(none, 1), (none, 0)], []), (3, [(some 25, 0), (some 15, 0)], []), (5, [(some 25, 0), (some 24, 0), (some 18, 0)], []), (20, [(some 24, 0), (some 14, 0)], [45]), (3, [(some 23, 0), (some 18, 0)], []), (20, [(some 23, 0), (some 14, 0)], [45]), (3, [(some 18, 0), (none, 0)], []), (3, [(some 15, 0), (none, 0)], []), (0, [(some 21, 0), (some 22, 0)], []), (20, [(some 22, 0), (some 16, 0)], [46]), (20, [(some 21, 0), (some 14, 0)], [46]), (0, [(none, 0), (none, 0)], []), (1, [(some 20, 0), (none, (-1))], []), (20, [(some 20, 0), (some 16, 0)], [46]), (0, [(none, 0), (none, 0)], []), (1, [(some 19, 0), (none, (-1))], []), (20, [(some 19, 0), (some 14, 0)], [46]), (1, [(none, 1), (none, 0)], []), (3, [(none, 3), (some 16, 0)], []), (3, [(some 16, 0), (none, 0)], []), (1, [(none, 1), (none, 0)], []), (3, [(none, 3), (some 14, 0)], []), (3, [(some 14, 0), (none, 0)], [])], (135, [(none, 1), (some 14, 0), (some 15, 0), (some 16, 0), (some 17, 0), (some 18, 0), (some 13, 0), (some 13, 0)], [45, 46, 41, 42, 43, 44, 41, 58, 43, 44]))
set_option maxRecDepth 20000 in
theorem v_xo_copy_0_52 {PT : PTy} (hp : HP9 PT) : vcOk PT w_xo_copy_0_52 := vc_iv [(13, 0, 5), (14, 3, 3), (15, 0, 60), (16, 1, 1), (17, 0, 60), (18, 0, 60), (19, 0, 2), (20, 0, 2), (21, (-1), 2), (22, (-1), 2), (23, 0, 60), (24, 0, 60), (25, 0, 60), (26, 0, 60), (27, 0, 60), (28, 0, 60)] [41, 42, 43, 44, 45, 46, 58] (by decide +kernel) (fun ρ α => by
  intro r13 g13 b13 r14 g14 b14 r15 g15 b15 r16 g16 b16 r17 g17 b17 r18 g18 b18 r19 g19 b19 r20 g20 b20 r21 g21 b21 r22 g22 b22 r23 g23 b23 r24 g24 b24 r25 g25 b25 r26 g26 b26 r27 g27 b27 r28 g28 b28 a41 h41 a42 h42 a43 h43 a44 h44 a45 h45 a46 h46 a58 h58 f0 f1 f2 f3 f4 f5 f6 f7 f8 f9 f10 f11 f12 f13 f14 f15 f16 f17 f18 f19 f20 f21 f22 f23 f24 f25 f26 f27 f28 f29 f30 f31 f32 f33 tt
  clear f3 f9 f10 f11 f17 f18 f22 f23 f25 f26 f28 f29 f30 f31 f32 f33
  have e135 : PT 135 = P_cpX := pe135_9 hp
  simp only [hF0, hF3, hF5, hF20, hF22, hFp_135, e135, P_cpX, den_s, den_c, Int.add_zero, List.map_cons, List.map_nil, g13.eq, g14.eq, g15.eq, g16.eq, g17.eq, g18.eq, g19.eq, g20.eq, g21.eq, g22.eq, g23.eq, g24.eq, g25.eq, g26.eq, g27.eq, g28.eq, h41, h42, h43, h44, h45, h46, h58] at f0 f1 f2 f4 f5 f6 f7 f8 f12 f13 f14 f15 f16 f19 f20 f21 f24 f27 ⊢
  subst f0
  subst f5
  subst f6
  subst f8
  subst f13
  subst f14
  subst f16
  subst f20
  subst f21
  subst f24
  subst f27
  ((repeat' (first | apply And.intro | intro h)) <;> first | omega | rfl | trivial | (exfalso; omega) | (congr 1; omega) | (congr 1; (repeat' split) <;> first | rfl | (exfalso; omega))))
def w_xo_copy_0_53 : VC := ((bT ++ [(3, 3), (0, 60), (2, 2), (0, 60), (0, 60), (0, 2), (0, 2), ((-1), 2), ((-1), 2), (0, 60), (0, 60), (0, 60), (0, 60), (0, 60), (0, 60)]), [(0, [(some 16, 0), (none, 2)], []), (0, [(some 14, 0), (none, 3)], []), (1, [(none, 1), (none, 0)], []), (3, [(some 28, 0), (some 17, 0)], []), (5, [(some 28, 0), (some 27, 0), (some 18, 0)], []), (20, [(some 27, 0), (some 16, 0)], [45]), (3, [(some 26, 0), (some 18, 0)], []), (20, [(some 26, 0), (some 16, 0)], [45]), (3, [(some 18, 0), (none, 0)], []), (3, [(some 17, 0), (none, 0)], []), (1, [(none, 1), (none, 0)], []), (3, [(some 25, 0), (some 15, 0)], []), (5, [(some 25, 0), (some 24, 0), (some 18, 0)], []), (20, [(some 24, 0), (some 14, 0)], [45]), (3, [(some 23, 0), (some 18, 0)], []), (20, [(some 23, 0), (some 14, 0)], [45]), (3, [(some 18, 0), (none, 0)], []), (3, [(some 15, 0), (none, 0)], []), (0, [(some 21, 0), (some 22, 0)], []), (20, [(some 22, 0), (some 16, 0)], [46]), (20, [(some 21, 0), (some 14, 0)], [46]), (0, [(none, 0), (none, 0)], []), (1, [(some 20, 0), (none, (-1))], []), (20, [(some 20, 0), (some 16, 0)], [46]), (0, [(none, 0), (none, 0)], []), (1, [(some 19, 0), (none, (-1))], []), (20, [(some 19, 0), (some 14, 0)], [46]), (1, [(none, 1), (none, 0)], []), (3, [(none, 3), (some 16, 0)], []), (3, [(some 16, 0), (none, 0)], []), (1, [(none, 1), (none, 0)], []), (3, [(none, 3), (some 14, 0)], []), (3, [(some 14, 0), (none, 0)], [])], (26, [(some 15, 0), (some 18, 0), (none, 60)], []))
set_option maxRecDepth 20000 in
theorem v_xo_copy_0_53 {PT : PTy} (hp : HP9 PT) : vcOk PT w_xo_copy_0_53 := vc_iv [(14, 3, 3), (15, 0, 60), (16, 2, 2), (17, 0, 60), (18, 0, 60), (19, 0, 2), (20, 0, 2), (21, (-1), 2), (22, (-1), 2), (23, 0, 60), (24, 0, 60), (25, 0, 60), (26, 0, 60), (27, 0, 60), (28, 0, 60)] [45, 46] (by decide +kernel) (fun ρ α => by
  intro r14 g14 b14 r15 g15 b15 r16 g16 b16 r17 g17 b17 r18 g18 b18 r19 g19 b19 r20 g20 b20 r21 g21 b21 r22 g22 b22 r23 g23 b23 r24 g24 b24 r25 g25 b25 r26 g26 b26 r27 g27 b27 r28 g28 b28 a45 h45 a46 h46 f0 f1 f2 f3 f4 f5 f6 f7 f8 f9 f10 f11 f12 f13 f14 f15 f16 f17 f18 f19 f20 f21 f22 f23 f24 f25 f26 f27 f28 f29 f30 f31 f32 tt
  clear f2 f8 f9 f10 f16 f17 f21 f22 f24 f25 f27 f28 f29 f30 f31 f32
  simp only [hF0, hF3, hF5, hF20, hF26, den_s, den_c, Int.add_zero, List.map_cons, List.map_nil, g14.eq, g15.eq, g16.eq, g17.eq, g18.eq, g19.eq, g20.eq, g21.eq, g22.eq, g23.eq, g24.eq, g25.eq, g26.eq, g27.eq, g28.eq, h45, h46] at f0 f1 f3 f4 f5 f6 f7 f11 f12 f13 f14 f15 f18 f19 f20 f23 f26 ⊢
  subst f4
  subst f5
  subst f7
  subst f12
  subst f13
  subst f15
  subst f19
  subst f20
  subst f23
  subst f26
  ((repeat' (first | apply And.intro | intro h)) <;> first | omega | rfl | trivial | (exfalso; omega) | (congr 1; omega) | (congr 1; (repeat' split) <;> first | rfl | (exfalso; omega))))
def w_xo_copy_0_54 : VC := ((bT ++ [(3, 3), (0, 60), (2, 2), (0, 60), (0, 60), (0, 2), (0, 2), ((-1), 2), ((-1), 2), (0, 60), (0, 60), (0, 60), (0, 60), (0, 60), (0, 60)]), [(0, [(some 16, 0), (none, 2)], []), (0, [(some 14, 0), (none, 3)], []), (1, [(none, 1), (none, 0)], []), (3, [(some 28, 0), (some 17, 0)], []), (5, [(some 28, 0), (some 27, 0), (some 18, 0)], []), (20, [(some 27, 0), (some 16, 0)], [45]), (3, [(some 26, 0), (some 18, 0)], []), (20, [(some 26, 0), (some 16, 0)], [45]), (3, [(some 18, 0), (none, 0)], []), (3, [(some 17, 0), (none, 0)], []), (1, [(none, 1), (none, 0)], []), (3, [(some 25, 0), (some 15, 0)], []), (5, [(some 25, 0), (some 24, 0), (some 18, 0)], []), (20, [(some 24, 0), (some 14, 0)], [45]), (3, [(some 23, 0), (some 18, 0)], []), (20, [(some 23, 0), (some 14, 0)], [45]), (3, [(some 18, 0), (none, 0)], []), (3, [(some 15, 0), (none, 0)], []), (0, [(some 21, 0), (some 22, 0)], []), (20, [(some 22, 0), (some 16, 0)], [46]), (20, [(some 21, 0), (some 14, 0)], [46]), (0, [(none, 0), (none, 0)], []), (1, [(some 20, 0), (none, (-1))], []), (20, [(some 20, 0), (some 16, 0)], [46]), (0, [(none, 0), (none, 0)], []), (1, [(some 19, 0), (none, (-1))], []), (20, [(some 19, 0), (some 14, 0)], [46]), (1, [(none, 1), (none, 0)], []), (3, [(none, 3), (some 16, 0)], []), (3, [(some 16, 0), (none, 0)], []), (1, [(none, 1), (none, 0)], []), (3, [(none, 3), (some 14, 0)], []), (3, [(some 14, 0), (none, 0)], [])], (26, [(some 17, 0), (some 18, 0), (none, 60)], []))
set_option maxRecDepth 20000 in
theorem v_xo_copy_0_54 {PT : PTy} (hp : HP9 PT) : vcOk PT w_xo_copy_0_54 := vc_iv [(14, 3, 3), (15, 0, 60), (16, 2, 2), (17, 0, 60), (18, 0, 60), (19, 0, 2), (20, 0, 2), (21, (-1), 2), (22, (-1), 2), (23, 0, 60), (24, 0, 60), (25, 0, 60), (26, 0, 60), (27, 0, 60), (28, 0, 60)] [45, 46] (by decide +kernel) (fun ρ α => by
  intro r14 g14 b14 r15 g15 b15 r16 g16 b16 r17 g17 b17 r18 g18 b18 r19 g19 b19 r20 g20 b20 r21 g21 b21 r22 g22 b22 r23 g23 b23 r24 g24 b24 r25 g25 b25 r26 g26 b26 r27 g27 b27 r28 g28 b28 a45 h45 a46 h46 f0 f1 f2 f3 f4 f5 f6 f7 f8 f9 f10 f11 f12 f13 f14 f15 f16 f17 f18 f19 f20 f21 f22 f23 f24 f25 f26 f27 f28 f29 f30 f31 f32 tt
  clear f2 f8 f9 f10 f16 f17 f21 f22 f24 f25 f27 f28 f29 f30 f31 f32
  simp only [hF0, hF3, hF5, hF20, hF26, den_s, den_c, Int.add_zero, List.map_cons, List.map_nil, g14.eq, g15.eq, g16.eq, g17.eq, g18.eq, g19.eq, g20.eq, g21.eq, g22.eq, g23.eq, g24.eq, g25.eq, g26.eq, g27.eq, g28.eq, h45, h46] at f0 f1 f3 f4 f5 f6 f7 f11 f12 f13 f14 f15 f18 f19 f20 f23 f26 ⊢
  subst f4
  subst f5
  subst f7
  subst f12
  subst f13
  subst f15
  subst f19
  subst f20
  subst f23
  subst f26
  ((repeat' (first | apply And.intro | intro h)) <;> first | omega | rfl | trivial | (exfalso; omega) | (congr 1; omega) | (congr 1; (repeat' split) <;> first | rfl | (exfalso; omega))))
def w_xo_copy_0_55 : VC := ((bT ++ [(3, 3), (0, 60), (2, 2), (0, 60), (0, 60), (0, 2), (0, 2), ((-1), 2), ((-1), 2), (0, 60), (0, 60), (0, 60), (0, 60), (0, 60), (0, 60)]), [(22, [(some 15, 0), (some 17, 0), (some 18, 0)], [58, 44, 43]), (0, [(some 16, 0), (none, 2)], []), (0, [(some 14, 0), (none, 3)], []), (1, [(none, 1), (none, 0)], []), (3, [(some 28, 0), (some 17, 0)], []), (5, [(some 28, 0), (some 27, 0), (some 18, 0)], []), (20, [(some 27, 0), (some 16, 0)], [45]), (3, [(some 26, 0), (some 18, 0)], []), (20, [(some 26, 0), (some 16, 0)], [45]), (3, [(some 18, 0), (none, 0)], []), (3, [(some 17, 0), (none, 0)], []), (1, [(none, 1), (none, 0)], []), (3, [(some 25, 0), (some 15, 0)], []), (5, [(some 25, 0), (some 24, 0), (some 18, 0)], []), (20, [(some 24, 0), (some 14, 0)], [45]), (3, [(some 23, 0), (some 18, 0)], []), (20, [(some 23, 0), (some 14, 0)], [45]), (3, [(some 18, 0), (none, 0)], []), (3, [(some 15, 0), (none, 0)], []), (0, [(some 21, 0), (some 22, 0)], []), (20, [(some 22, 0), (some 16, 0)], [46]), (20, [(some 21, 0), (some 14, 0)], [46]), (0, [(none, 0), (none, 0)], []), (1, [(some 20, 0), (none, (-1))], []), (20, [(some 20, 0), (some 16, 0)], [46]), (0, [(none, 0), (none, 0)], []), (1, [(some 19, 0), (none, (-1))], []), (20, [(some 19, 0), (some 14, 0)], [46]), (1, [(none, 1), (none, 0)], []), (3, [(none, 3), (some 16, 0)], []), (3, [(some 16, 0), (none, 0)], []), (1, [(none, 1), (none, 0)], []), (3, [(none, 3), (some 14, 0)], []), (3, [(some 14, 0), (none, 0)], [])], (135, [(none, 1), (some 14, 0), (some 15, 0), (some 16, 0), (some 17, 0), (some 18, 0), (some 13, 0), (some 13, 0)], [45, 46, 41, 42, 43, 44, 41, 42, 58, 44]))
set_option maxRecDepth 20000 in
theorem v_xo_copy_0_55 {PT : PTy} (hp : HP9 PT) : vcOk PT w_xo_copy_0_55 := vc_iv [(13, 0, 5), (14, 3, 3), (15, 0, 60), (16, 2, 2), (17, 0, 60), (18, 0, 60), (19, 0, 2), (20, 0, 2), (21, (-1), 2), (22, (-1), 2), (23, 0, 60), (24, 0, 60), (25, 0, 60), (26, 0, 60), (27, 0, 60), (28, 0, 60)] [41, 42, 43, 44, 45, 46, 58] (by decide +kernel) (fun ρ α => by
  intro r13 g13 b13 r14 g14 b14 r15 g15 b15 r16 g16 b16 r17 g17 b17 r18 g18 b18 r19 g19 b19 r20 g20 b20 r21 g21 b21 r22 g22 b22 r23 g23 b23 r24 g24 b24 r25 g25 b25 r26 g26 b26 r27 g27 b27 r28 g28 b28 a41 h41 a42 h42 a43 h43 a44 h44 a45 h45 a46 h46 a58 h58 f0 f1 f2 f3 f4 f5 f6 f7 f8 f9 f10 f11 f12 f13 f14 f15 f16 f17 f18 f19 f20 f21 f22 f23 f24 f25 f26 f27 f28 f29 f30 f31 f32 f33 tt
  clear f3 f9 f10 f11 f17 f18 f22 f23 f25 f26 f28 f29 f30 f31 f32 f33
  have e135 : PT 135 = P_cpX := pe135_9 hp
  simp only [hF0, hF3, hF5, hF20, hF22, hFp_135, e135, P_cpX, den_s, den_c, Int.add_zero, List.map_cons, List.map_nil, g13.eq, g14.eq, g15.eq, g16.eq, g17.eq, g18.eq, g19.eq, g20.eq, g21.eq, g22.eq, g23.eq, g24.eq, g25.eq, g26.eq, g27.eq, g28.eq, h41, h42, h43, h44, h45, h46, h58] at f0 f1 f2 f4 f5 f6 f7 f8 f12 f13 f14 f15 f16 f19 f20 f21 f24 f27 ⊢
  subst f0
  subst f5
  subst f6
  subst f8
  subst f13
  subst f14
  subst f16
  subst f20
  subst f21
  subst f24
  subst f27
  ((repeat' (first | apply And.intro | intro h)) <;> first | omega | rfl | trivial | (exfalso; omega) | (congr 1; omega) | (congr 1; (repeat' split) <;> first | rfl | (exfalso; omega))))
def w_xo_copy_0_56 : VC := ((bT ++ [(3, 3), (0, 60), (3, 3), (0, 60), (0, 60), (0, 2), (0, 2), ((-1), 2), ((-1), 2), (0, 60), (0, 60), (0, 60), (0, 60), (0, 60), (0, 60)]), [(0, [(some 16, 0), (none, 3)], []), (0, [(some 14, 0), (none, 3)], []), (1, [(none, 1), (none, 0)], []), (3, [(some 28, 0), (some 17, 0)], []), (5, [(some 28, 0), (some 27, 0), (some 18, 0)], []), (20, [(some 27, 0), (some 16, 0)], [45]), (3, [(some 26, 0), (some 18, 0)], []), (20, [(some 26, 0), (some 16, 0)], [45]), (3, [(some 18, 0), (none, 0)], []), (3, [(some 17, 0), (none, 0)], []), (1, [(none, 1), (none, 0)], []), (3, [(some 25, 0), (some 15, 0)], []), (5, [(some 25, 0), (some 24, 0), (some 18, 0)], []), (20, [(some 24, 0), (some 14, 0)], [45]), (3, [(some 23, 0), (some 18, 0)], []), (20, [(some 23, 0), (some 14, 0)], [45]), (3, [(some 18, 0), (none, 0)], []), (3, [(some 15, 0), (none, 0)], []), (0, [(some 21, 0), (some 22, 0)], []), (20, [(some 22, 0), (some 16, 0)], [46]), (20, [(some 21, 0), (some 14, 0)], [46]), (0, [(none, 0), (none, 0)], []), (1, [(some 20, 0), (none, (-1))], []), (20, [(some 20, 0), (some 16, 0)], [46]), (0, [(none, 0), (none, 0)], []), (1, [(some 19, 0), (none, (-1))], []), (20, [(some 19, 0), (some 14, 0)], [46]), (1, [(none, 1), (none, 0)], []), (3, [(none, 3), (some 16, 0)], []), (3, [(some 16, 0), (none, 0)], []), (1, [(none, 1), (none, 0)], []), (3, [(none, 3), (some 14, 0)], []), (3, [(some 14, 0), (none, 0)], [])], (26, [(some 15, 0), (some 18, 0), (none, 60)], []))
set_option maxRecDepth 20000 in
theorem v_xo_copy_0_56 {PT : PTy} (hp : HP9 PT) : vcOk PT w_xo_copy_0_56 := vc_iv [(14, 3, 3), (15, 0, 60), (16, 3, 3), (17, 0, 60), (18, 0, 60), (19, 0, 2), (20, 0, 2), (21, (-1), 2), (22, (-1), 2), (23, 0, 60), (24, 0, 60), (25, 0, 60), (26, 0, 60), (27, 0, 60), (28, 0, 60)] [45, 46] (by decide +kernel) (fun ρ α => by
  intro r14 g14 b14 r15 g15 b15 r16 g16 b16 r17 g17 b17 r18 g18 b18 r19 g19 b19 r20 g20 b20 r21 g21 b21 r22 g22 b22 r23 g23 b23 r24 g24 b24 r25 g25 b25 r26 g26 b26 r27 g27 b27 r28 g28 b28 a45 h45 a46 h46 f0 f1 f2 f3 f4 f5 f6 f7 f8 f9 f10 f11 f12 f13 f14 f15 f16 f17 f18 f19 f20 f21 f22 f23 f24 f25 f26 f27 f28 f29 f30 f31 f32 tt
  clear f2 f8 f9 f10 f16 f17 f21 f22 f24 f25 f27 f28 f29 f30 f31 f32
  simp only [hF0, hF3, hF5, hF20, hF26, den_s, den_c, Int.add_zero, List.map_cons, List.map_nil, g14.eq, g15.eq, g16.eq, g17.eq, g18.eq, g19.eq, g20.eq, g21.eq, g22.eq, g23.eq, g24.eq, g25.eq, g26.eq, g27.eq, g28.eq, h45, h46] at f0 f1 f3 f4 f5 f6 f7 f11 f12 f13 f14 f15 f18 f19 f20 f23 f26 ⊢
  subst f4
  subst f5
  subst f7
  subst f12
  subst f13
  subst f15
  subst f19
  subst f20
  subst f23
  subst f26
  ((repeat' (first | apply And.intro | intro h)) <;> first | omega | rfl | trivial | (exfalso; omega) | (congr 1; omega) | (congr 1; (repeat' split) <;> first | rfl | (exfalso; omega))))
def w_xo_copy_0_57 : VC := ((bT ++ [(3, 3), (0, 60), (3, 3), (0, 60), (0, 60), (0, 2), (0, 2), ((-1), 2), ((-1), 2), (0, 60), (0, 60), (0, 60), (0, 60), (0, 60), (0, 60)]), [(0, [(some 16, 0), (none, 3)], []), (0, [(some 14, 0), (none, 3)], []), (1, [(none, 1), (none, 0)], []), (3, [(some 28, 0), (some 17, 0)], []), (5, [(some 28, 0), (some 27, 0), (some 18, 0)], []), (20, [(some 27, 0), (some 16, 0)], [45]), (3, [(some 26, 0), (some 18, 0)], []), (20, [(some 26, 0), (some 16, 0)], [45]), (3, [(some 18, 0), (none, 0)], []), (3, [(some 17, 0), (none, 0)], []), (1, [(none, 1), (none, 0)], []), (3, [(some 25, 0), (some 15, 0)], []), (5, [(some 25, 0), (some 24, 0), (some 18, 0)], []), (20, [(some 24, 0), (some 14, 0)], [45]), (3, [(some 23, 0), (some 18, 0)], []), (20, [(some 23, 0), (some 14, 0)], [45]), (3, [(some 18, 0), (none, 0)], []), (3, [(some 15, 0), (none, 0)], []), (0, [(some 21, 0), (some 22, 0)], []), (20, [(some 22, 0), (some 16, 0)], [46]), (20, [(some 21, 0), (some 14, 0)], [46]), (0, [(none, 0), (none, 0)], []), (1, [(some 20, 0), (none, (-1))], []), (20, [(some 20, 0), (some 16, 0)], [46]), (0, [(none, 0), (none, 0)], []), (1, [(some 19, 0), (none, (-1))], []), (20, [(some 19, 0), (some 14, 0)], [46]), (1, [(none, 1), (none, 0)], []), (3, [(none, 3), (some 16, 0)], []), (3, [(some 16, 0), (none, 0)], []), (1, [(none, 1), (none, 0)], []), (3, [(none, 3), (some 14, 0)], []), (3, [(some 14, 0), (none, 0)], [])], (26, [(some 17, 0), (some 18, 0), (none, 60)], []))
set_option maxRecDepth 20000 in
theorem v_xo_copy_0_57 {PT : PTy} (hp : HP9 PT) : vcOk PT w_xo_copy_0_57 := vc_iv [(14, 3, 3), (15, 0, 60), (16, 3, 3), (17, 0, 60), (18, 0, 60), (19, 0, 2), (20, 0, 2), (21, (-1), 2), (22, (-1), 2), (23, 0, 60), (24, 0, 60), (25, 0, 60), (26, 0, 60), (27, 0, 60), (28, 0, 60)] [45, 46] (by decide +kernel) (fun ρ α => by
  intro r14 g14 b14 r15 g15 b15 r16 g16 b16 r17 g17 b17 r18 g18 b18 r19 g19 b19 r20 g20 b20 r21 g21 b21 r22 g22 b22 r23 g23 b23 r24 g24 b24 r25 g25 b25 r26 g26 b26 r27 g27 b27 r28 g28 b28 a45 h45 a46 h46 f0 f1 f2 f3 f4 f5 f6 f7 f8 f9 f10 f11 f12 f13 f14 f15 f16 f17 f18 f19 f20 f21 f22 f23 f24 f25 f26 f27 f28 f29 f30 f31 f32 tt
  clear f2 f8 f9 f10 f16 f17 f21 f22 f24 f25 f27 f28 f29 f30 f31 f32
  simp only [hF0, hF3, hF5, hF20, hF26, den_s, den_c, Int.add_zero, List.map_cons, List.map_nil, g14.eq, g15.eq, g16.eq, g17.eq, g18.eq, g19.eq, g20.eq, g21.eq, g22.eq, g23.eq, g24.eq, g25.eq, g26.eq, g27.eq, g28.eq, h45, h46] at f0 f1 f3 f4 f5 f6 f7 f11 f12 f13 f14 f15 f18 f19 f20 f23 f26 ⊢
  subst f4
  subst f5
  subst f7
  subst f12
  subst f13
  subst f15
  subst f19
  subst f20
  subst f23
  subst f26
  ((repeat' (first | apply And.intro | intro h)) <;> first | omega | rfl | trivial | (exfalso; omega) | (congr 1; omega) | (congr 1; (repeat' split) <;> first | rfl | (exfalso; omega))))
def w_xo_copy_0_58 : VC := ((bT ++ [(3, 3), (0, 60), (3, 3), (0, 60), (0, 60), (0, 2), (0, 2), ((-1), 2), ((-1), 2), (0, 60), (0, 60), (0, 60), (0, 60), (0, 60), (0, 60)]), [(22, [(some 15, 0), (some 17, 0), (some 18, 0)], [58, 44, 44]), (0, [(some 16, 0), (none, 3)], []), (0, [(some 14, 0), (none, 3)], []), (1, [(none, 1), (none, 0)], []), (3, [(some 28, 0), (some 17, 0)], []), (5, [(some 28, 0), (some 27, 0), (some 18, 0)], []), (20, [(some 27, 0), (some 16, 0)], [45]), (3, [(some 26, 0), (some 18, 0)], []), (20, [(some 26, 0), (some 16, 0)], [45]), (3, [(some 18, 0), (none, 0)], []), (3, [(some 17, 0), (none, 0)], []), (1, [(none, 1), (none, 0)], []), (3, [(some 25, 0), (some 15, 0)], []), (5, [(some 25, 0), (some 24, 0), (some 18, 0)], []), (20, [(some 24, 0), (some 14, 0)], [45]), (3, [(some 23, 0), (some 18, 0)], []), (20, [(some 23, 0), (some 14, 0)], [45]), (3, [(some 18, 0), (none, 0)], []), (3, [(some 15, 0), (none, 0)], []), (0, [(some 21, 0), (some 22, 0)], []), (20, [(some 22, 0), (some 16, 0)], [46]), (20, [(some 21, 0), (some 14, 0)], [46]), (0, [(none, 0), (none, 0)], []), (1, [(some 20, 0), (none, (-1))], []), (20, [(some 20, 0), (some 16, 0)], [46]), (0, [(none, 0), (none, 0)], []), (1, [(some 19, 0), (none, (-1))], []), (20, [(some 19, 0), (some 14, 0)], [46]), (1, [(none, 1), (none, 0)], []), (3, [(none, 3), (some 16, 0)], []), (3, [(some 16, 0), (none, 0)], []), (1, [(none, 1), (none, 0)], []), (3, [(none, 3), (some 14, 0)], []), (3, [(some 14, 0), (none, 0)], [])], (135, [(none, 1), (some 14, 0), (some 15, 0), (some 16, 0), (some 17, 0), (some 18, 0), (some 13, 0), (some 13, 0)], [45, 46, 41, 42, 43, 44, 41, 42, 43, 58]))
set_option maxRecDepth 20000 in
theorem v_xo_copy_0_58 {PT : PTy} (hp : HP9 PT) : vcOk PT w_xo_copy_0_58 := vc_iv [(13, 0, 5), (14, 3, 3), (15, 0, 60), (16, 3, 3), (17, 0, 60), (18, 0, 60), (19, 0, 2), (20, 0, 2), (21, (-1), 2), (22, (-1), 2), (23, 0, 60), (24, 0, 60), (25, 0, 60), (26, 0, 60), (27, 0, 60), (28, 0, 60)] [41, 42, 43, 44, 45, 46, 58] (by decide +kernel) (fun ρ α => by
  intro r13 g13 b13 r14 g14 b14 r15 g15 b15 r16 g16 b16 r17 g17 b17 r18 g18 b18 r19 g19 b19 r20 g20 b20 r21 g21 b21 r22 g22 b22 r23 g23 b23 r24 g24 b24 r25 g25 b25 r26 g26 b26 r27 g27 b27 r28 g28 b28 a41 h41 a42 h42 a43 h43 a44 h44 a45 h45 a46 h46 a58 h58 f0 f1 f2 f3 f4 f5 f6 f7 f8 f9 f10 f11 f12 f13 f14 f15 f16 f17 f18 f19 f20 f21 f22 f23 f24 f25 f26 f27 f28 f29 f30 f31 f32 f33 tt
  clear f3 f9 f10 f11 f17 f18 f22 f23 f25 f26 f28 f29 f30 f31 f32 f33
  have e135 : PT 135 = P_cpX := pe135_9 hp
  simp only [hF0, hF3, hF5, hF20, hF22, hFp_135, e135, P_cpX, den_s, den_c, Int.add_zero, List.map_cons, List.map_nil, g13.eq, g14.eq, g15.eq, g16.eq, g17.eq, g18.eq, g19.eq, g20.eq, g21.eq, g22.eq, g23.eq, g24.eq, g25.eq, g26.eq, g27.eq, g28.eq, h41, h42, h43, h44, h45, h46, h58] at f0 f1 f2 f4 f5 f6 f7 f8 f12 f13 f14 f15 f16 f19 f20 f21 f24 f27 ⊢
  subst f0
  subst f5
  subst f6
  subst f8
  subst f13
  subst f14
  subst f16
  subst f20
  subst f21
  subst f24
  subst f27
  ((repeat' (first | apply And.intro | intro h)) <;> first | omega | rfl | trivial | (exfalso; omega) | (congr 1; omega) | (congr 1; (repeat' split) <;> first | rfl | (exfalso; omega))))
def w_xo_copy_0_59 : VC := ((bT ++ [(0, 3), ((-2147483648), 2147483647), (0, 3), ((-2147483648), 2147483647), ((-2147483648), 2147483647), (0, 2), (0, 2), ((-1), 2), ((-1), 2)]), [(1, [(some 21, 0), (some 22, 0)], []), (20, [(some 22, 0), (some 16, 0)], [46]), (20, [(some 21, 0), (some 14, 0)], [46]), (0, [(none, 0), (none, 0)], []), (1, [(some 20, 0), (none, (-1))], []), (20, [(some 20, 0), (some 16, 0)], [46]), (0, [(none, 0), (none, 0)], []), (1, [(some 19, 0), (none, (-1))], []), (20, [(some 19, 0), (some 14, 0)], [46]), (1, [(none, 1), (none, 0)], []), (3, [(none, 3), (some 16, 0)], []), (3, [(some 16, 0), (none, 0)], []), (1, [(none, 1), (none, 0)], []), (3, [(none, 3), (some 14, 0)], []), (3, [(some 14, 0), (none, 0)], [])], (135, [(none, (-14)), (some 14, 0), (some 15, 0), (some 16, 0), (some 17, 0), (some 18, 0), (some 13, 0), (none, 4)], [45, 46, 41, 42, 43, 44, 41, 42, 43, 44]))
set_option maxRecDepth 20000 in
theorem v_xo_copy_0_59 {PT : PTy} (hp : HP9 PT) : vcOk PT w_xo_copy_0_59 := vc_iv [(13, 0, 5), (14, 0, 3), (15, (-2147483648), 2147483647), (16, 0, 3), (17, (-2147483648), 2147483647), (18, (-2147483648), 2147483647), (19, 0, 2), (20, 0, 2), (21, (-1), 2), (22, (-1), 2)] [41, 42, 43, 44, 45, 46] (by decide +kernel) (fun ρ α => by
  intro r13 g13 b13 r14 g14 b14 r15 g15 b15 r16 g16 b16 r17 g17 b17 r18 g18 b18 r19 g19 b19 r20 g20 b20 r21 g21 b21 r22 g22 b22 a41 h41 a42 h42 a43 h43 a44 h44 a45 h45 a46 h46 f0 f1 f2 f3 f4 f5 f6 f7 f8 f9 f10 f11 f12 f13 f14 tt
  clear f3 f4 f6 f7 f9 f10 f11 f12 f13 f14
  have e135 : PT 135 = P_cpX := pe135_9 hp
  simp only [hF1, hF20, hFp_135, e135, P_cpX, den_s, den_c, Int.add_zero, List.map_cons, List.map_nil, g13.eq, g14.eq, g15.eq, g16.eq, g17.eq, g18.eq, g19.eq, g20.eq, g21.eq, g22.eq, h41, h42, h43, h44, h45, h46] at f0 f1 f2 f5 f8 ⊢
  subst f1
  subst f2
  subst f5
  subst f8
  ((repeat' (first | apply And.intro | intro h)) <;> first | omega | rfl | trivial | (exfalso; omega) | (congr 1; omega) | (congr 1; (repeat' split) <;> first | rfl | (exfalso; omega))))
def w_xo_copy_0_60 : VC := ((bT ++ [(0, 3), ((-2147483648), 2147483647), (0, 3), ((-2147483648), 2147483647), ((-2147483648), 2147483647), (0, 2), ((-1), (-1))]), [(1, [(none, 1), (none, 0)], []), (0, [(some 20, 0), (none, (-1))], []), (20, [(some 20, 0), (some 16, 0)], [46]), (0, [(none, 0), (none, 0)], []), (1, [(some 19, 0), (none, (-1))], []), (20, [(some 19, 0), (some 14, 0)], [46]), (1, [(none, 1), (none, 0)], []), (3, [(none, 3), (some 16, 0)], []), (3, [(some 16, 0), (none, 0)], []), (1, [(none, 1), (none, 0)], []), (3, [(none, 3), (some 14, 0)], []), (3, [(some 14, 0), (none, 0)], [])], (135, [(none, (-11)), (some 14, 0), (some 15, 0), (some 16, 0), (some 17, 0), (some 18, 0), (some 13, 0), (none, 1)], [45, 46, 41, 42, 43, 44, 41, 42, 43, 44]))
set_option maxRecDepth 20000 in
theorem v_xo_copy_0_60 {PT : PTy} (hp : HP9 PT) : vcOk PT w_xo_copy_0_60 := vc_iv [(13, 0, 5), (14, 0, 3), (15, (-2147483648), 2147483647), (16, 0, 3), (17, (-2147483648), 2147483647), (18, (-2147483648), 2147483647), (19, 0, 2), (20, (-1), (-1))] [41, 42, 43, 44, 45, 46] (by decide +kernel) (fun ρ α => by
  intro r13 g13 b13 r14 g14 b14 r15 g15 b15 r16 g16 b16 r17 g17 b17 r18 g18 b18 r19 g19 b19 r20 g20 b20 a41 h41 a42 h42 a43 h43 a44 h44 a45 h45 a46 h46 f0 f1 f2 f3 f4 f5 f6 f7 f8 f9 f10 f11 tt
  clear f0 f3 f4 f6 f7 f8 f9 f10 f11
  have e135 : PT 135 = P_cpX := pe135_9 hp
  simp only [hF0, hF20, hFp_135, e135, P_cpX, den_s, den_c, Int.add_zero, List.map_cons, List.map_nil, g13.eq, g14.eq, g15.eq, g16.eq, g17.eq, g18.eq, g19.eq, g20.eq, h41, h42, h43, h44, h45, h46] at f1 f2 f5 ⊢
  subst f2
  subst f5
  ((repeat' (first | apply And.intro | intro h)) <;> first | omega | rfl | trivial | (exfalso; omega) | (congr 1; omega) | (congr 1; (repeat' split) <;> first | rfl | (exfalso; omega))))
def w_xo_copy_0_61 : VC := ((bT ++ [(0, 3), ((-2147483648), 2147483647), (0, 3), ((-2147483648), 2147483647), ((-2147483648), 2147483647), ((-1), (-1))]), [(1, [(none, 1), (none, 0)], []), (0, [(some 19, 0), (none, (-1))], []), (20, [(some 19, 0), (some 14, 0)], [46]), (1, [(none, 1), (none, 0)], []), (3, [(none, 3), (some 16, 0)], []), (3, [(some 16, 0), (none, 0)], []), (1, [(none, 1), (none, 0)], []), (3, [(none, 3), (some 14, 0)], []), (3, [(some 14, 0), (none, 0)], [])], (135, [(none, (-11)), (some 14, 0), (some 15, 0), (some 16, 0), (some 17, 0), (some 18, 0), (some 13, 0), (none, 1)], [45, 46, 41, 42, 43, 44, 41, 42, 43, 44]))
set_option maxRecDepth 20000 in
theorem v_xo_copy_0_61 {PT : PTy} (hp : HP9 PT) : vcOk PT w_xo_copy_0_61 := vc_iv [(13, 0, 5), (14, 0, 3), (15, (-2147483648), 2147483647), (16, 0, 3), (17, (-2147483648), 2147483647), (18, (-2147483648), 2147483647), (19, (-1), (-1))] [41, 42, 43, 44, 45, 46] (by decide +kernel) (fun ρ α => by
  intro r13 g13 b13 r14 g14 b14 r15 g15 b15 r16 g16 b16 r17 g17 b17 r18 g18 b18 r19 g19 b19 a41 h41 a42 h42 a43 h43 a44 h44 a45 h45 a46 h46 f0 f1 f2 f3 f4 f5 f6 f7 f8 tt
  clear f0 f3 f4 f5 f6 f7 f8
  have e135 : PT 135 = P_cpX := pe135_9 hp
  simp only [hF0, hF20, hFp_135, e135, P_cpX, den_s, den_c, Int.add_zero, List.map_cons, List.map_nil, g13.eq, g14.eq, g15.eq, g16.eq, g17.eq, g18.eq, g19.eq, h41, h42, h43, h44, h45, h46] at f1 f2 ⊢
  subst f2
  ((repeat' (first | apply And.intro | intro h)) <;> first | omega | rfl | trivial | (exfalso; omega) | (congr 1; omega) | (congr 1; (repeat' split) <;> first | rfl | (exfalso; omega))))
set_option maxRecDepth 1000000 in
theorem k_xo_copy {PT : PTy} (hp : HP9 PT) : wfX c_xo_copy = true ∧ xcOk PT c_xo_copy := xctr (xl0) c_xo_copy 159 mX6_copy rfl h_xo_copy (by decide +kernel) (by decide +kernel) (by decide) (vcs_by [w_xo_copy_0_0, w_xo_copy_0_1, w_xo_copy_0_2, w_xo_copy_0_3, w_xo_copy_0_4, w_xo_copy_0_5, w_xo_copy_0_6, w_xo_copy_0_7, w_xo_copy_0_8, w_xo_copy_0_9, w_xo_copy_0_10, w_xo_copy_0_11, w_xo_copy_0_12, w_xo_copy_0_13, w_xo_copy_0_14, w_xo_copy_0_15, w_xo_copy_0_16, w_xo_copy_0_17, w_xo_copy_0_18, w_xo_copy_0_19, w_xo_copy_0_20, w_xo_copy_0_21, w_xo_copy_0_22, w_xo_copy_0_23, w_xo_copy_0_24, w_xo_copy_0_25, w_xo_copy_0_26, w_xo_copy_0_27, w_xo_copy_0_28, w_xo_copy_0_29, w_xo_copy_0_30, w_xo_copy_0_31, w_xo_copy_0_32, w_xo_copy_0_33, w_xo_copy_0_34, w_xo_copy_0_35, w_xo_copy_0_36, w_xo_copy_0_37, w_xo_copy_0_38, w_xo_copy_0_39, w_xo_copy_0_40, w_xo_copy_0_41, w_xo_copy_0_42, w_xo_copy_0_43, w_xo_copy_0_44, w_xo_copy_0_45, w_xo_copy_0_46, w_xo_copy_0_47, w_xo_copy_0_48, w_xo_copy_0_49, w_xo_copy_0_50, w_xo_copy_0_51, w_xo_copy_0_52, w_xo_copy_0_53, w_xo_copy_0_54, w_xo_copy_0_55, w_xo_copy_0_56, w_xo_copy_0_57, w_xo_copy_0_58, w_xo_copy_0_59, w_xo_copy_0_60, w_xo_copy_0_61] (by decide +kernel) (vc (v_xo_copy_0_0 hp) (vc (v_xo_copy_0_1 hp) (vc (v_xo_copy_0_2 hp) (vc (v_xo_copy_0_3 hp) (vc (v_xo_copy_0_4 hp) (vc (v_xo_copy_0_5 hp) (vc (v_xo_copy_0_6 hp) (vc (v_xo_copy_0_7 hp) (vc (v_xo_copy_0_8 hp) (vc (v_xo_copy_0_9 hp) (vc (v_xo_copy_0_10 hp) (vc (v_xo_copy_0_11 hp) (vc (v_xo_copy_0_12 hp) (vc (v_xo_copy_0_13 hp) (vc (v_xo_copy_0_14 hp) (vc (v_xo_copy_0_15 hp) (vc (v_xo_copy_0_16 hp) (vc (v_xo_copy_0_17 hp) (vc (v_xo_copy_0_18 hp) (vc (v_xo_copy_0_19 hp) (vc (v_xo_copy_0_20 hp) (vc (v_xo_copy_0_21 hp) (vc (v_xo_copy_0_22 hp) (vc (v_xo_copy_0_23 hp) (vc (v_xo_copy_0_24 hp) (vc (v_xo_copy_0_25 hp) (vc (v_xo_copy_0_26 hp) (vc (v_xo_copy_0_27 hp) (vc (v_xo_copy_0_28 hp) (vc (v_xo_copy_0_29 hp) (vc (v_xo_copy_0_30 hp) (vc (v_xo_copy_0_31 hp) (vc (v_xo_copy_0_32 hp) (vc (v_xo_copy_0_33 hp) (vc (v_xo_copy_0_34 hp) (vc (v_xo_copy_0_35 hp) (vc (v_xo_copy_0_36 hp) (vc (v_xo_copy_0_37 hp) (vc (v_xo_copy_0_38 hp) (vc (v_xo_copy_0_39 hp) (vc (v_xo_copy_0_40 hp) (vc (v_xo_copy_0_41 hp) (vc (v_xo_copy_0_42 hp) (vc (v_xo_copy_0_43 hp) (vc (v_xo_copy_0_44 hp) (vc (v_xo_copy_0_45 hp) (vc (v_xo_copy_0_46 hp) (vc (v_xo_copy_0_47 hp) (vc (v_xo_copy_0_48 hp) (vc (v_xo_copy_0_49 hp) (vc (v_xo_copy_0_50 hp) (vc (v_xo_copy_0_51 hp) (vc (v_xo_copy_0_52 hp) (vc (v_xo_copy_0_53 hp) (vc (v_xo_copy_0_54 hp) (vc (v_xo_copy_0_55 hp) (vc (v_xo_copy_0_56 hp) (vc (v_xo_copy_0_57 hp) (vc (v_xo_copy_0_58 hp) (vc (v_xo_copy_0_59 hp) (vc (v_xo_copy_0_60 hp) (vc (v_xo_copy_0_61 hp) vn))))))))))))))))))))))))))))))))))))))))))))))))))))))))))))))) fmn
def c_xo_count : XC := (78, 0, (bT ++ [((-2147483648), 2147483647)]), [.inr (.inl 0), .inl (some 14, 0)], (gX 999), [], [((bT ++ [((-2147483648), 2147483647), ((-2), 49)]), some (.inl (some 15, 0)), (gX 999), (List.range 58), 58, [(144, [(some 15, 0), (some 14, 0), (some 2, 0), (some 3, 0), (some 0, 0), (some 1, 0), (some 4, 0), (some 5, 0), (some 6, 0), (some 7, 0), (some 13, 0)], [])])])
def h_xo_count : List XH := []
def w_xo_count_0_0 : VC := ((bT ++ [((-2147483648), 2147483647)]), [(25, [(some 14, 0), (none, 0), (none, 8)], [])], (144, [(none, (-2)), (some 14, 0), (some 2, 0), (some 3, 0), (some 0, 0), (some 1, 0), (some 4, 0), (some 5, 0), (some 6, 0), (some 7, 0), (some 13, 0)], []))
theorem pe144_9 {PT : PTy} (hp : HP9 PT) : PT 144 = P_coX := hp.2.2.2.2.2.2.2.2.2.2.1
set_option maxRecDepth 20000 in
theorem v_xo_count_0_0 {PT : PTy} (hp : HP9 PT) : vcOk PT w_xo_count_0_0 := vc_iv [(0, 0, 23), (1, 0, 49), (2, 0, 8), (3, 0, 10), (4, 0, 8), (5, 0, 6), (6, 0, 6), (7, 0, 8), (13, 0, 5), (14, (-2147483648), 2147483647)] [] (by decide +kernel) (fun ρ α => by
  intro r0 g0 b0 r1 g1 b1 r2 g2 b2 r3 g3 b3 r4 g4 b4 r5 g5 b5 r6 g6 b6 r7 g7 b7 r13 g13 b13 r14 g14 b14 f0 tt
  have e144 : PT 144 = P_coX := pe144_9 hp
  simp only [hF25, hFp_144, e144, P_coX, den_s, den_c, Int.add_zero, List.map_cons, List.map_nil, g0.eq, g1.eq, g2.eq, g3.eq, g4.eq, g5.eq, g6.eq, g7.eq, g13.eq, g14.eq] at f0 ⊢
  ((repeat' (first | apply And.intro | intro h)) <;> first | omega | rfl | trivial | (exfalso; omega)))
def w_xo_count_0_1 : VC := ((bT ++ [(0, 0)]), [(0, [(some 14, 0), (none, 0)], [])], (144, [(some 2, 0), (some 14, 0), (some 2, 0), (some 3, 0), (some 0, 0), (some 1, 0), (some 4, 0), (some 5, 0), (some 6, 0), (some 7, 0), (some 13, 0)], []))
set_option maxRecDepth 20000 in
theorem v_xo_count_0_1 {PT : PTy} (hp : HP9 PT) : vcOk PT w_xo_count_0_1 := vc_iv [(0, 0, 23), (1, 0, 49), (2, 0, 8), (3, 0, 10), (4, 0, 8), (5, 0, 6), (6, 0, 6), (7, 0, 8), (13, 0, 5), (14, 0, 0)] [] (by decide +kernel) (fun ρ α => by
  intro r0 g0 b0 r1 g1 b1 r2 g2 b2 r3 g3 b3 r4 g4 b4 r5 g5 b5 r6 g6 b6 r7 g7 b7 r13 g13 b13 r14 g14 b14 f0 tt
  have e144 : PT 144 = P_coX := pe144_9 hp
  simp only [hF0, hFp_144, e144, P_coX, den_s, den_c, Int.add_zero, List.map_cons, List.map_nil, g0.eq, g1.eq, g2.eq, g3.eq, g4.eq, g5.eq, g6.eq, g7.eq, g13.eq, g14.eq] at f0 ⊢
  ((repeat' (first | apply And.intro | intro h)) <;> first | omega | rfl | trivial | (exfalso; omega)))
def w_xo_count_0_2 : VC := ((bT ++ [(1, 1)]), [(0, [(some 14, 0), (none, 1)], [])], (144, [(some 3, 0), (some 14, 0), (some 2, 0), (some 3, 0), (some 0, 0), (some 1, 0), (some 4, 0), (some 5, 0), (some 6, 0), (some 7, 0), (some 13, 0)], []))
set_option maxRecDepth 20000 in
theorem v_xo_count_0_2 {PT : PTy} (hp : HP9 PT) : vcOk PT w_xo_count_0_2 := vc_iv [(0, 0, 23), (1, 0, 49), (2, 0, 8), (3, 0, 10), (4, 0, 8), (5, 0, 6), (6, 0, 6), (7, 0, 8), (13, 0, 5), (14, 1, 1)] [] (by decide +kernel) (fun ρ α => by
  intro r0 g0 b0 r1 g1 b1 r2 g2 b2 r3 g3 b3 r4 g4 b4 r5 g5 b5 r6 g6 b6 r7 g7 b7 r13 g13 b13 r14 g14 b14 f0 tt
  have e144 : PT 144 = P_coX := pe144_9 hp
  simp only [hF0, hFp_144, e144, P_coX, den_s, den_c, Int.add_zero, List.map_cons, List.map_nil, g0.eq, g1.eq, g2.eq, g3.eq, g4.eq, g5.eq, g6.eq, g7.eq, g13.eq, g14.eq] at f0 ⊢
  ((repeat' (first | apply And.intro | intro h)) <;> first | omega | rfl | trivial | (exfalso; omega)))
def w_xo_count_0_3 : VC := ((bT ++ [(2, 2)]), [(0, [(some 14, 0), (none, 2)], [])], (144, [(some 0, 0), (some 14, 0), (some 2, 0), (some 3, 0), (some 0, 0), (some 1, 0), (some 4, 0), (some 5, 0), (some 6, 0), (some 7, 0), (some 13, 0)], []))
set_option maxRecDepth 20000 in
theorem v_xo_count_0_3 {PT : PTy} (hp : HP9 PT) : vcOk PT w_xo_count_0_3 := vc_iv [(0, 0, 23), (1, 0, 49), (2, 0, 8), (3, 0, 10), (4, 0, 8), (5, 0, 6), (6, 0, 6), (7, 0, 8), (13, 0, 5), (14, 2, 2)] [] (by decide +kernel) (fun ρ α => by
  intro r0 g0 b0 r1 g1 b1 r2 g2 b2 r3 g3 b3 r4 g4 b4 r5 g5 b5 r6 g6 b6 r7 g7 b7 r13 g13 b13 r14 g14 b14 f0 tt
  have e144 : PT 144 = P_coX := pe144_9 hp
  simp only [hF0, hFp_144, e144, P_coX, den_s, den_c, Int.add_zero, List.map_cons, List.map_nil, g0.eq, g1.eq, g2.eq, g3.eq, g4.eq, g5.eq, g6.eq, g7.eq, g13.eq, g14.eq] at f0 ⊢
  ((repeat' (first | apply And.intro | intro h)) <;> first | omega | rfl | trivial | (exfalso; omega)))
def w_xo_count_0_4 : VC := ((bT ++ [(3, 3)]), [(0, [(some 14, 0), (none, 3)], [])], (144, [(some 1, 0), (some 14, 0), (some 2, 0), (some 3, 0), (some 0, 0), (some 1, 0), (some 4, 0), (some 5, 0), (some 6, 0), (some 7, 0), (some 13, 0)], []))
set_option maxRecDepth 20000 in
theorem v_xo_count_0_4 {PT : PTy} (hp : HP9 PT) : vcOk PT w_xo_count_0_4 := vc_iv [(0, 0, 23), (1, 0, 49), (2, 0, 8), (3, 0, 10), (4, 0, 8), (5, 0, 6), (6, 0, 6), (7, 0, 8), (13, 0, 5), (14, 3, 3)] [] (by decide +kernel) (fun ρ α => by
  intro r0 g0 b0 r1 g1 b1 r2 g2 b2 r3 g3 b3 r4 g4 b4 r5 g5 b5 r6 g6 b6 r7 g7 b7 r13 g13 b13 r14 g14 b14 f0 tt
  have e144 : PT 144 = P_coX := pe144_9 hp
  simp only [hF0, hFp_144, e144, P_coX, den_s, den_c, Int.add_zero, List.map_cons, List.map_nil, g0.eq, g1.eq, g2.eq, g3.eq, g4.eq, g5.eq, g6.eq, g7.eq, g13.eq, g14.eq] at f0 ⊢
  ((repeat' (first | apply And.intro | intro h)) <;> first | omega | rfl | trivial | (exfalso; omega)))
def w_xo_count_0_5 : VC := ((bT ++ [(4, 4)]), [(0, [(some 14, 0), (none, 4)], [])], (144, [(some 4, 0), (some 14, 0), (some 2, 0), (some 3, 0), (some 0, 0), (some 1, 0), (some 4, 0), (some 5, 0), (some 6, 0), (some 7, 0), (some 13, 0)], []))
set_option maxRecDepth 20000 in
theorem v_xo_count_0_5 {PT : PTy} (hp : HP9 PT) : vcOk PT w_xo_count_0_5 := vc_iv [(0, 0, 23), (1, 0, 49), (2, 0, 8), (3, 0, 10), (4, 0, 8), (5, 0, 6), (6, 0, 6), (7, 0, 8), (13, 0, 5), (14, 4, 4)] [] (by decide +kernel) (fun ρ α => by
  intro r0 g0 b0 r1 g1 b1 r2 g2 b2 r3 g3 b3 r4 g4 b4 r5 g5 b5 r6 g6 b6 r7 g7 b7 r13 g13 b13 r14 g14 b14 f0 tt
  have e144 : PT 144 = P_coX := pe144_9 hp
  simp only [hF0, hFp_144, e144, P_coX, den_s, den_c, Int.add_zero, List.map_cons, List.map_nil, g0.eq, g1.eq, g2.eq, g3.eq, g4.eq, g5.eq, g6.eq, g7.eq, g13.eq, g14.eq] at f0 ⊢
  ((repeat' (first | apply And.intro | intro h)) <;> first | omega | rfl | trivial | (exfalso; omega)))
def w_xo_count_0_6 : VC := ((bT ++ [(5, 5)]), [(0, [(some 14, 0), (none, 5)], [])], (144, [(some 5, 0), (some 14, 0), (some 2, 0), (some 3, 0), (some 0, 0), (some 1, 0), (some 4, 0), (some 5, 0), (some 6, 0), (some 7, 0), (some 13, 0)], []))
set_option maxRecDepth 20000 in
theorem v_xo_count_0_6 {PT : PTy} (hp : HP9 PT) : vcOk PT w_xo_count_0_6 := vc_iv [(0, 0, 23), (1, 0, 49), (2, 0, 8), (3, 0, 10), (4, 0, 8), (5, 0, 6), (6, 0, 6), (7, 0, 8), (13, 0, 5), (14, 5, 5)] [] (by decide +kernel) (fun ρ α => by
  intro r0 g0 b0 r1 g1 b1 r2 g2 b2 r3 g3 b3 r4 g4 b4 r5 g5 b5 r6 g6 b6 r7 g7 b7 r13 g13 b13 r14 g14 b14 f0 tt
  have e144 : PT 144 = P_coX := pe144_9 hp
  simp only [hF0, hFp_144, e144, P_coX, den_s, den_c, Int.add_zero, List.map_cons, List.map_nil, g0.eq, g1.eq, g2.eq, g3.eq, g4.eq, g5.eq, g6.eq, g7.eq, g13.eq, g14.eq] at f0 ⊢
  ((repeat' (first | apply And.intro | intro h)) <;> first | omega | rfl | trivial | (exfalso; omega)))
def w_xo_count_0_7 : VC := ((bT ++ [(6, 6)]), [(0, [(some 14, 0), (none, 6)], [])], (144, [(some 6, 0), (some 14, 0), (some 2, 0), (some 3, 0), (some 0, 0), (some 1, 0), (some 4, 0), (some 5, 0), (some 6, 0), (some 7, 0), (some 13, 0)], []))
set_option maxRecDepth 20000 in
theorem v_xo_count_0_7 {PT : PTy} (hp : HP9 PT) : vcOk PT w_xo_count_0_7 := vc_iv [(0, 0, 23), (1, 0, 49), (2, 0, 8), (3, 0, 10), (4, 0, 8), (5, 0, 6), (6, 0, 6), (7, 0, 8), (13, 0, 5), (14, 6, 6)] [] (by decide +kernel) (fun ρ α => by
  intro r0 g0 b0 r1 g1 b1 r2 g2 b2 r3 g3 b3 r4 g4 b4 r5 g5 b5 r6 g6 b6 r7 g7 b7 r13 g13 b13 r14 g14 b14 f0 tt
  have e144 : PT 144 = P_coX := pe144_9 hp
  simp only [hF0, hFp_144, e144, P_coX, den_s, den_c, Int.add_zero, List.map_cons, List.map_nil, g0.eq, g1.eq, g2.eq, g3.eq, g4.eq, g5.eq, g6.eq, g7.eq, g13.eq, g14.eq] at f0 ⊢
  ((repeat' (first | apply And.intro | intro h)) <;> first | omega | rfl | trivial | (exfalso; omega)))
def w_xo_count_0_8 : VC := ((bT ++ [(7, 7)]), [(0, [(some 14, 0), (none, 7)], [])], (144, [(some 7, 0), (some 14, 0), (some 2, 0), (some 3, 0), (some 0, 0), (some 1, 0), (some 4, 0), (some 5, 0), (some 6, 0), (some 7, 0), (some 13, 0)], []))
set_option maxRecDepth 20000 in
theorem v_xo_count_0_8 {PT : PTy} (hp : HP9 PT) : vcOk PT w_xo_count_0_8 := vc_iv [(0, 0, 23), (1, 0, 49), (2, 0, 8), (3, 0, 10), (4, 0, 8), (5, 0, 6), (6, 0, 6), (7, 0, 8), (13, 0, 5), (14, 7, 7)] [] (by decide +kernel) (fun ρ α => by
  intro r0 g0 b0 r1 g1 b1 r2 g2 b2 r3 g3 b3 r4 g4 b4 r5 g5 b5 r6 g6 b6 r7 g7 b7 r13 g13 b13 r14 g14 b14 f0 tt
  have e144 : PT 144 = P_coX := pe144_9 hp
  simp only [hF0, hFp_144, e144, P_coX, den_s, den_c, Int.add_zero, List.map_cons, List.map_nil, g0.eq, g1.eq, g2.eq, g3.eq, g4.eq, g5.eq, g6.eq, g7.eq, g13.eq, g14.eq] at f0 ⊢
  ((repeat' (first | apply And.intro | intro h)) <;> first | omega | rfl | trivial | (exfalso; omega)))
def w_xo_count_0_9 : VC := ((bT ++ [(8, 8)]), [(0, [(some 14, 0), (none, 8)], [])], (144, [(some 13, 0), (some 14, 0), (some 2, 0), (some 3, 0), (some 0, 0), (some 1, 0), (some 4, 0), (some 5, 0), (some 6, 0), (some 7, 0), (some 13, 0)], []))
set_option maxRecDepth 20000 in
theorem v_xo_count_0_9 {PT : PTy} (hp : HP9 PT) : vcOk PT w_xo_count_0_9 := vc_iv [(0, 0, 23), (1, 0, 49), (2, 0, 8), (3, 0, 10), (4, 0, 8), (5, 0, 6), (6, 0, 6), (7, 0, 8), (13, 0, 5), (14, 8, 8)] [] (by decide +kernel) (fun ρ α => by
  intro r0 g0 b0 r1 g1 b1 r2 g2 b2 r3 g3 b3 r4 g4 b4 r5 g5 b5 r6 g6 b6 r7 g7 b7 r13 g13 b13 r14 g14 b14 f0 tt
  have e144 : PT 144 = P_coX := pe144_9 hp
  simp only [hF0, hFp_144, e144, P_coX, den_s, den_c, Int.add_zero, List.map_cons, List.map_nil, g0.eq, g1.eq, g2.eq, g3.eq, g4.eq, g5.eq, g6.eq, g7.eq, g13.eq, g14.eq] at f0 ⊢
  ((repeat' (first | apply And.intro | intro h)) <;> first | omega | rfl | trivial | (exfalso; omega)))
set_option maxRecDepth 1000000 in
theorem k_xo_count {PT : PTy} (hp : HP9 PT) : wfX c_xo_count = true ∧ xcOk PT c_xo_count := xctr (xl0) c_xo_count 26 mX6_count rfl h_xo_count (by decide +kernel) (by decide +kernel) (by decide) (vcs_by [w_xo_count_0_0, w_xo_count_0_1, w_xo_count_0_2, w_xo_count_0_3, w_xo_count_0_4, w_xo_count_0_5, w_xo_count_0_6, w_xo_count_0_7, w_xo_count_0_8, w_xo_count_0_9] (by decide +kernel) (vc (v_xo_count_0_0 hp) (vc (v_xo_count_0_1 hp) (vc (v_xo_count_0_2 hp) (vc (v_xo_count_0_3 hp) (vc (v_xo_count_0_4 hp) (vc (v_xo_count_0_5 hp) (vc (v_xo_count_0_6 hp) (vc (v_xo_count_0_7 hp) (vc (v_xo_count_0_8 hp) (vc (v_xo_count_0_9 hp) vn))))))))))) fmn
def c_yo_count : XC := (195, 6, (bY ++ [((-2147483648), 2147483647)]), [.inr (.inl 0), .inl (some 13, 0)], gY2, [(78, [], [1])], [((bY ++ [((-2147483648), 2147483647), ((-2), 49), (0, 8), (0, 10)]), some (.inl (some 14, 0)), (hst gY2 [(0, .inr (.inr (.inr (7, [.inr (.inl 1), .inr (.inl 2), .inl (some 15, 0), .inr (.inl 3), .inr (.inl 4), .inl (some 16, 0), .inr (.inl 5), .inr (.inl 6), .inr (.inl 7), .inr (.inl 8), .inl (some 4, 0), .inr (.inl 9), .inr (.inl 10), .inl (some 5, 0), .inr (.inl 11), .inr (.inl 12), .inr (.inl 13), .inl (some 6, 0), .inr (.inl 14), .inr (.inl 15), .inr (.inl 16), .inl (some 8, 0), .inl (some 9, 0), .inr (.inl 17), .inr (.inl 18), .inl (some 10, 0), .inl (some 11, 0), .inr (.inl 19), .inr (.inl 20), .inr (.inl 21), .inr (.inl 22), .inr (.inl 23), .inr (.inl 24), .inr (.inl 25), .inl (some 7, 0), .inr (.inl 26), .inr (.inl 27), .inr (.inl 28), .inr (.inl 29), .inr (.inl 30), .inr (.inl 31), .inr (.inl 32), .inr (.inl 33), .inr (.inl 34), .inl (some 12, 0)]))))]), (ansT 35 [(3, 35), (4, 36), (5, 37), (6, 38), (7, 39), (8, 40)]), 41, [(145, [(some 14, 0), (some 13, 0), (some 4, 0), (some 5, 0), (some 6, 0), (some 7, 0), (some 12, 0)], [1, 2])])])
def h_yo_count : List XH := []
def w_yo_count_0_0 : VC := ((bY ++ [((-2147483648), 2147483647)]), [(25, [(some 13, 0), (none, 0), (none, 8)], []), (78, [], [1])], (145, [(none, (-2)), (some 13, 0), (some 4, 0), (some 5, 0), (some 6, 0), (some 7, 0), (some 12, 0)], [1, 2]))
theorem pe78_9 {PT : PTy} (hp : HP9 PT) : PT 78 = P_ly := hp.1.1.1.1.1.1.1.2.2.2.2.2.2.2.1
theorem pe145_9 {PT : PTy} (hp : HP9 PT) : PT 145 = P_coY := hp.2.2.2.2.2.2.2.2.2.2.2.1
set_option maxRecDepth 20000 in
theorem v_yo_count_0_0 {PT : PTy} (hp : HP9 PT) : vcOk PT w_yo_count_0_0 := vc_iv [(4, 0, 8), (5, 0, 6), (6, 0, 6), (7, 0, 8), (12, 0, 5), (13, (-2147483648), 2147483647)] [1, 2] (by decide +kernel) (fun ρ α => by
  intro r4 g4 b4 r5 g5 b5 r6 g6 b6 r7 g7 b7 r12 g12 b12 r13 g13 b13 a1 h1 a2 h2 f0 f1 tt
  have e78 : PT 78 = P_ly := pe78_9 hp
  have e145 : PT 145 = P_coY := pe145_9 hp
  simp only [hF25, hFp_78, hFp_145, e78, e145, P_ly, P_coY, den_s, den_c, Int.add_zero, List.map_cons, List.map_nil, g4.eq, g5.eq, g6.eq, g7.eq, g12.eq, g13.eq, h1, h2] at f0 f1 ⊢
  try obtain ⟨x, y, h1, h2, h3⟩ := MISSING
  ((repeat' (first | exact h1.2.1 | exact h2.2.1 | apply And.intro | intro h)) <;> first | omega | rfl | trivial | exact h1.2.1 | exact h2.2.1 | (exfalso; omega) | (congr 1; omega)))
def w_yo_count_0_1 : VC := ((bY ++ [(0, 0), ((-1), 54), (0, 8), (0, 10)]), [(0, [(some 13, 0), (none, 0)], []), (79, [(some 14, 0), (none, 0), (some 15, 0), (some 16, 0)], [1, 2, 35, 36, 37, 38, 39, 40]), (0, [(some 13, 0), (none, 0)], []), (78, [], [1])], (145, [(some 15, 0), (some 13, 0), (some 4, 0), (some 5, 0), (some 6, 0), (some 7, 0), (some 12, 0)], [1, 2]))
theorem pe79_9 {PT : PTy} (hp : HP9 PT) : PT 79 = P_fo := hp.1.1.1.1.1.1.1.2.2.2.2.2.2.2.2.1
set_option maxRecDepth 20000 in
theorem v_yo_count_0_1 {PT : PTy} (hp : HP9 PT) : vcOk PT w_yo_count_0_1 := vc_iv [(4, 0, 8), (5, 0, 6), (6, 0, 6), (7, 0, 8), (12, 0, 5), (13, 0, 0), (14, (-1), 54), (15, 0, 8), (16, 0, 10)] [1, 2, 35, 36, 37, 38, 39, 40] (by decide +kernel) (fun ρ α => by
  intro r4 g4 b4 r5 g5 b5 r6 g6 b6 r7 g7 b7 r12 g12 b12 r13 g13 b13 r14 g14 b14 r15 g15 b15 r16 g16 b16 a1 h1 a2 h2 a35 h35 a36 h36 a37 h37 a38 h38 a39 h39 a40 h40 f0 f1 f2 f3 tt
  clear f2
  have e78 : PT 78 = P_ly := pe78_9 hp
  have e79 : PT 79 = P_fo := pe79_9 hp
  have e145 : PT 145 = P_coY := pe145_9 hp
  simp only [hF0, hFp_78, hFp_79, hFp_145, e78, e79, e145, P_ly, P_fo, P_coY, den_s, den_c, Int.add_zero, List.map_cons, List.map_nil, g4.eq, g5.eq, g6.eq, g7.eq, g12.eq, g13.eq, g14.eq, g15.eq, g16.eq, h1, h2, h35, h36, h37, h38, h39, h40] at f0 f1 f3 ⊢
  try obtain ⟨x, y, h1, h2, h3⟩ := f1
  ((repeat' (first | exact h1.2.1 | exact h2.2.1 | apply And.intro | intro h)) <;> first | omega | rfl | trivial | exact h1.2.1 | exact h2.2.1 | (exfalso; omega) | (congr 1; omega)))
def w_yo_count_0_2 : VC := ((bY ++ [(1, 1), ((-1), 54), (0, 8), (0, 10)]), [(1, [(some 13, 0), (none, 0)], []), (79, [(some 14, 0), (none, 0), (some 15, 0), (some 16, 0)], [1, 2, 35, 36, 37, 38, 39, 40]), (0, [(some 13, 0), (none, 1)], []), (78, [], [1])], (145, [(some 16, 0), (some 13, 0), (some 4, 0), (some 5, 0), (some 6, 0), (some 7, 0), (some 12, 0)], [1, 2]))
set_option maxRecDepth 20000 in
theorem v_yo_count_0_2 {PT : PTy} (hp : HP9 PT) : vcOk PT w_yo_count_0_2 := vc_iv [(4, 0, 8), (5, 0, 6), (6, 0, 6), (7, 0, 8), (12, 0, 5), (13, 1, 1), (14, (-1), 54), (15, 0, 8), (16, 0, 10)] [1, 2, 35, 36, 37, 38, 39, 40] (by decide +kernel) (fun ρ α => by
  intro r4 g4 b4 r5 g5 b5 r6 g6 b6 r7 g7 b7 r12 g12 b12 r13 g13 b13 r14 g14 b14 r15 g15 b15 r16 g16 b16 a1 h1 a2 h2 a35 h35 a36 h36 a37 h37 a38 h38 a39 h39 a40 h40 f0 f1 f2 f3 tt
  clear f0
  have e78 : PT 78 = P_ly := pe78_9 hp
  have e79 : PT 79 = P_fo := pe79_9 hp
  have e145 : PT 145 = P_coY := pe145_9 hp
  simp only [hF0, hFp_78, hFp_79, hFp_145, e78, e79, e145, P_ly, P_fo, P_coY, den_s, den_c, Int.add_zero, List.map_cons, List.map_nil, g4.eq, g5.eq, g6.eq, g7.eq, g12.eq, g13.eq, g14.eq, g15.eq, g16.eq, h1, h2, h35, h36, h37, h38, h39, h40] at f1 f2 f3 ⊢
  try obtain ⟨x, y, h1, h2, h3⟩ := f1
  ((repeat' (first | exact h1.2.1 | exact h2.2.1 | apply And.intro | intro h)) <;> first | omega | rfl | trivial | exact h1.2.1 | exact h2.2.1 | (exfalso; omega) | (congr 1; omega)))
def w_yo_count_0_3 : VC := ((bY ++ [(2, 2), (0, 49)]), [(20, [(some 14, 0), (some 13, (-2))], [1]), (0, [(some 13, 0), (none, 2)], []), (78, [], [1])], (145, [(some 14, 0), (some 13, 0), (some 4, 0), (some 5, 0), (some 6, 0), (some 7, 0), (some 12, 0)], [1, 2]))
set_option maxRecDepth 20000 in
theorem v_yo_count_0_3 {PT : PTy} (hp : HP9 PT) : vcOk PT w_yo_count_0_3 := vc_iv [(4, 0, 8), (5, 0, 6), (6, 0, 6), (7, 0, 8), (12, 0, 5), (13, 2, 2), (14, 0, 49)] [1, 2] (by decide +kernel) (fun ρ α => by
  intro r4 g4 b4 r5 g5 b5 r6 g6 b6 r7 g7 b7 r12 g12 b12 r13 g13 b13 r14 g14 b14 a1 h1 a2 h2 f0 f1 f2 tt
  have e78 : PT 78 = P_ly := pe78_9 hp
  have e145 : PT 145 = P_coY := pe145_9 hp
  simp only [hF0, hF20, hFp_78, hFp_145, e78, e145, P_ly, P_coY, den_s, den_c, Int.add_zero, List.map_cons, List.map_nil, g4.eq, g5.eq, g6.eq, g7.eq, g12.eq, g13.eq, g14.eq, h1, h2] at f0 f1 f2 ⊢
  subst f0
  try obtain ⟨x, y, h1, h2, h3⟩ := MISSING
  ((repeat' (first | exact h1.2.1 | exact h2.2.1 | apply And.intro | intro h)) <;> first | omega | rfl | trivial | exact h1.2.1 | exact h2.2.1 | (exfalso; omega) | (congr 1; omega)))
def w_yo_count_0_4 : VC := ((bY ++ [(3, 3), (0, 49)]), [(20, [(some 14, 0), (some 13, (-2))], [1]), (0, [(some 13, 0), (none, 3)], []), (78, [], [1])], (145, [(some 14, 0), (some 13, 0), (some 4, 0), (some 5, 0), (some 6, 0), (some 7, 0), (some 12, 0)], [1, 2]))
set_option maxRecDepth 20000 in
theorem v_yo_count_0_4 {PT : PTy} (hp : HP9 PT) : vcOk PT w_yo_count_0_4 := vc_iv [(4, 0, 8), (5, 0, 6), (6, 0, 6), (7, 0, 8), (12, 0, 5), (13, 3, 3), (14, 0, 49)] [1, 2] (by decide +kernel) (fun ρ α => by
  intro r4 g4 b4 r5 g5 b5 r6 g6 b6 r7 g7 b7 r12 g12 b12 r13 g13 b13 r14 g14 b14 a1 h1 a2 h2 f0 f1 f2 tt
  have e78 : PT 78 = P_ly := pe78_9 hp
  have e145 : PT 145 = P_coY := pe145_9 hp
  simp only [hF0, hF20, hFp_78, hFp_145, e78, e145, P_ly, P_coY, den_s, den_c, Int.add_zero, List.map_cons, List.map_nil, g4.eq, g5.eq, g6.eq, g7.eq, g12.eq, g13.eq, g14.eq, h1, h2] at f0 f1 f2 ⊢
  subst f0
  try obtain ⟨x, y, h1, h2, h3⟩ := MISSING
  ((repeat' (first | exact h1.2.1 | exact h2.2.1 | apply And.intro | intro h)) <;> first | omega | rfl | trivial | exact h1.2.1 | exact h2.2.1 | (exfalso; omega) | (congr 1; omega)))
def w_yo_count_0_5 : VC := ((bY ++ [(4, 4)]), [(0, [(some 13, 0), (none, 4)], []), (78, [], [1])], (145, [(some 4, 0), (some 13, 0), (some 4, 0), (some 5, 0), (some 6, 0), (some 7, 0), (some 12, 0)], [1, 2]))
set_option maxRecDepth 20000 in
theorem v_yo_count_0_5 {PT : PTy} (hp : HP9 PT) : vcOk PT w_yo_count_0_5 := vc_iv [(4, 0, 8), (5, 0, 6), (6, 0, 6), (7, 0, 8), (12, 0, 5), (13, 4, 4)] [1, 2] (by decide +kernel) (fun ρ α => by
  intro r4 g4 b4 r5 g5 b5 r6 g6 b6 r7 g7 b7 r12 g12 b12 r13 g13 b13 a1 h1 a2 h2 f0 f1 tt
  have e78 : PT 78 = P_ly := pe78_9 hp
  have e145 : PT 145 = P_coY := pe145_9 hp
  simp only [hF0, hFp_78, hFp_145, e78, e145, P_ly, P_coY, den_s, den_c, Int.add_zero, List.map_cons, List.map_nil, g4.eq, g5.eq, g6.eq, g7.eq, g12.eq, g13.eq, h1, h2] at f0 f1 ⊢
  try obtain ⟨x, y, h1, h2, h3⟩ := MISSING
  ((repeat' (first | exact h1.2.1 | exact h2.2.1 | apply And.intro | intro h)) <;> first | omega | rfl | trivial | exact h1.2.1 | exact h2.2.1 | (exfalso; omega) | (congr 1; omega)))
def w_yo_count_0_6 : VC := ((bY ++ [(5, 5)]), [(0, [(some 13, 0), (none, 5)], []), (78, [], [1])], (145, [(some 5, 0), (some 13, 0), (some 4, 0), (some 5, 0), (some 6, 0), (some 7, 0), (some 12, 0)], [1, 2]))
set_option maxRecDepth 20000 in
theorem v_yo_count_0_6 {PT : PTy} (hp : HP9 PT) : vcOk PT w_yo_count_0_6 := vc_iv [(4, 0, 8), (5, 0, 6), (6, 0, 6), (7, 0, 8), (12, 0, 5), (13, 5, 5)] [1, 2] (by decide +kernel) (fun ρ α => by
  intro r4 g4 b4 r5 g5 b5 r6 g6 b6 r7 g7 b7 r12 g12 b12 r13 g13 b13 a1 h1 a2 h2 f0 f1 tt
  have e78 : PT 78 = P_ly := pe78_9 hp
  have e145 : PT 145 = P_coY := pe145_9 hp
  simp only [hF0, hFp_78, hFp_145, e78, e145, P_ly, P_coY, den_s, den_c, Int.add_zero, List.map_cons, List.map_nil, g4.eq, g5.eq, g6.eq, g7.eq, g12.eq, g13.eq, h1, h2] at f0 f1 ⊢
  try obtain ⟨x, y, h1, h2, h3⟩ := MISSING
  ((repeat' (first | exact h1.2.1 | exact h2.2.1 | apply And.intro | intro h)) <;> first | omega | rfl | trivial | exact h1.2.1 | exact h2.2.1 | (exfalso; omega) | (congr 1; omega)))
def w_yo_count_0_7 : VC := ((bY ++ [(6, 6)]), [(0, [(some 13, 0), (none, 6)], []), (78, [], [1])], (145, [(some 6, 0), (some 13, 0), (some 4, 0), (some 5, 0), (some 6, 0), (some 7, 0), (some 12, 0)], [1, 2]))
set_option maxRecDepth 20000 in
theorem v_yo_count_0_7 {PT : PTy} (hp : HP9 PT) : vcOk PT w_yo_count_0_7 := vc_iv [(4, 0, 8), (5, 0, 6), (6, 0, 6), (7, 0, 8), (12, 0, 5), (13, 6, 6)] [1, 2] (by decide +kernel) (fun ρ α => by
  intro r4 g4 b4 r5 g5 b5 r6 g6 b6 r7 g7 b7 r12 g12 b12 r13 g13 b13 a1 h1 a2 h2 f0 f1 tt
  have e78 : PT 78 = P_ly := pe78_9 hp
  have e145 : PT 145 = P_coY := pe145_9 hp
  simp only [hF0, hFp_78, hFp_145, e78, e145, P_ly, P_coY, den_s, den_c, Int.add_zero, List.map_cons, List.map_nil, g4.eq, g5.eq, g6.eq, g7.eq, g12.eq, g13.eq, h1, h2] at f0 f1 ⊢
  try obtain ⟨x, y, h1, h2, h3⟩ := MISSING
  ((repeat' (first | exact h1.2.1 | exact h2.2.1 | apply And.intro | intro h)) <;> first | omega | rfl | trivial | exact h1.2.1 | exact h2.2.1 | (exfalso; omega) | (congr 1; omega)))
def w_yo_count_0_8 : VC := ((bY ++ [(7, 7)]), [(0, [(some 13, 0), (none, 7)], []), (78, [], [1])], (145, [(some 7, 0), (some 13, 0), (some 4, 0), (some 5, 0), (some 6, 0), (some 7, 0), (some 12, 0)], [1, 2]))
set_option maxRecDepth 20000 in
theorem v_yo_count_0_8 {PT : PTy} (hp : HP9 PT) : vcOk PT w_yo_count_0_8 := vc_iv [(4, 0, 8), (5, 0, 6), (6, 0, 6), (7, 0, 8), (12, 0, 5), (13, 7, 7)] [1, 2] (by decide +kernel) (fun ρ α => by
  intro r4 g4 b4 r5 g5 b5 r6 g6 b6 r7 g7 b7 r12 g12 b12 r13 g13 b13 a1 h1 a2 h2 f0 f1 tt
  have e78 : PT 78 = P_ly := pe78_9 hp
  have e145 : PT 145 = P_coY := pe145_9 hp
  simp only [hF0, hFp_78, hFp_145, e78, e145, P_ly, P_coY, den_s, den_c, Int.add_zero, List.map_cons, List.map_nil, g4.eq, g5.eq, g6.eq, g7.eq, g12.eq, g13.eq, h1, h2] at f0 f1 ⊢
  try obtain ⟨x, y, h1, h2, h3⟩ := MISSING
  ((repeat' (first | exact h1.2.1 | exact h2.2.1 | apply And.intro | intro h)) <;> first | omega | rfl | trivial | exact h1.2.1 | exact h2.2.1 | (exfalso; omega) | (congr 1; omega)))
def w_yo_count_0_9 : VC := ((bY ++ [(8, 8)]), [(0, [(some 13, 0), (none, 8)], []), (78, [], [1])], (145, [(some 12, 0), (some 13, 0), (some 4, 0), (some 5, 0), (some 6, 0), (some 7, 0), (some 12, 0)], [1, 2]))
set_option maxRecDepth 20000 in
theorem v_yo_count_0_9 {PT : PTy} (hp : HP9 PT) : vcOk PT w_yo_count_0_9 := vc_iv [(4, 0, 8), (5, 0, 6), (6, 0, 6), (7, 0, 8), (12, 0, 5), (13, 8, 8)] [1, 2] (by decide +kernel) (fun ρ α => by
  intro r4 g4 b4 r5 g5 b5 r6 g6 b6 r7 g7 b7 r12 g12 b12 r13 g13 b13 a1 h1 a2 h2 f0 f1 tt
  have e78 : PT 78 = P_ly := pe78_9 hp
  have e145 : PT 145 = P_coY := pe145_9 hp
  simp only [hF0, hFp_78, hFp_145, e78, e145, P_ly, P_coY, den_s, den_c, Int.add_zero, List.map_cons, List.map_nil, g4.eq, g5.eq, g6.eq, g7.eq, g12.eq, g13.eq, h1, h2] at f0 f1 ⊢
  try obtain ⟨x, y, h1, h2, h3⟩ := MISSING
  ((repeat' (first | exact h1.2.1 | exact h2.2.1 | apply And.intro | intro h)) <;> first | omega | rfl | trivial | exact h1.2.1 | exact h2.2.1 | (exfalso; omega) | (congr 1; omega)))
set_option maxRecDepth 1000000 in
theorem k_yo_count {PT : PTy} (hp : HP9 PT) : wfX c_yo_count = true ∧ xcOk PT c_yo_count := xctr (xl (k_faultOf hp.1.1.1.1.1.1.1) (xl0)) c_yo_count 39 mX7_count rfl h_yo_count (by decide +kernel) (by decide +kernel) (by decide) (vcs_by [w_yo_count_0_0, w_yo_count_0_1, w_yo_count_0_2, w_yo_count_0_3, w_yo_count_0_4, w_yo_count_0_5, w_yo_count_0_6, w_yo_count_0_7, w_yo_count_0_8, w_yo_count_0_9] (by decide +kernel) (vc (v_yo_count_0_0 hp) (vc (v_yo_count_0_1 hp) (vc (v_yo_count_0_2 hp) (vc (v_yo_count_0_3 hp) (vc (v_yo_count_0_4 hp) (vc (v_yo_count_0_5 hp) (vc (v_yo_count_0_6 hp) (vc (v_yo_count_0_7 hp) (vc (v_yo_count_0_8 hp) (vc (v_yo_count_0_9 hp) vn))))))))))) fmn
def c_yo_copy : XC := (192, 2, (bY ++ [((-2147483648), 2147483647), ((-2147483648), 2147483647), ((-2147483648), 2147483647), ((-2147483648), 2147483647), ((-2147483648), 2147483647)]), [.inr (.inl 0), .inl (some 13, 0), .inl (some 14, 0), .inl (some 15, 0), .inl (some 16, 0), .inl (some 17, 0)], gY2, [], [((bY ++ [((-2147483648), 2147483647), ((-2147483648), 2147483647), ((-2147483648), 2147483647), ((-2147483648), 2147483647), ((-2147483648), 2147483647), ((-14), 1), (0, 5)]), some (.inl (some 18, 0)), (hst gY2 [(0, .inr (.inr (.inr (7, [.inr (.inl 1), .inr (.inl 2), .inl (some 2, 0), .inr (.inl 3), .inr (.inl 4), .inl (some 3, 0), .inr (.inl 5), .inr (.inl 6), .inr (.inl 7), .inr (.inl 8), .inl (some 4, 0), .inr (.inl 9), .inr (.inl 10), .inl (some 5, 0), .inr (.inl 11), .inr (.inl 12), .inr (.inl 13), .inl (some 6, 0), .inr (.inl 14), .inr (.inl 15), .inr (.inl 16), .inl (some 8, 0), .inl (some 9, 0), .inr (.inl 17), .inr (.inl 18), .inl (some 10, 0), .inl (some 11, 0), .inr (.inl 19), .inr (.inl 20), .inr (.inl 21), .inr (.inl 22), .inr (.inl 23), .inr (.inl 24), .inr (.inl 25), .inl (some 7, 0), .inr (.inl 26), .inr (.inl 27), .inr (.inl 28), .inr (.inl 29), .inr (.inl 30), .inr (.inl 31), .inr (.inl 32), .inr (.inl 33), .inr (.inl 34), .inl (some 19, 0)]))))]), (ansT 35 [(33, 35), (34, 36)]), 37, [(136, [(some 18, 0), (some 13, 0), (some 14, 0), (some 15, 0), (some 16, 0), (some 17, 0), (some 12, 0), (some 19, 0)], [30, 31, 32, 33, 35])])])
def h_yo_copy : List XH := [(120, (bY ++ [(0, 3), (0, 2147483647), (0, 3), (0, 2147483647), (0, 2147483647), (0, 60)]), [some (.inr (.inl 0)), some (.inl (some 13, 0)), some (.inl (some 14, 0)), some (.inl (some 15, 0)), some (.inl (some 16, 0)), some (.inl (some 17, 0)), some (.inl (some 18, 0))], gY2, (ansT 35 [(34, 35)]), 36, [(137, [(some 13, 0), (some 14, 0), (some 15, 0), (some 16, 0), (some 17, 0)], [30, 31, 32]), (138, [(some 18, 0), (some 13, 0), (some 14, 0)], [33, 35]), (3, [(some 17, 0), (some 18, 0)], [])], [(true, (none, 1)), (true, (some 18, 0))]),
  (157, (bY ++ [(0, 3), (0, 2147483647), (0, 3), (0, 2147483647), (0, 60), (0, 60)]), [some (.inr (.inl 0)), some (.inl (some 13, 0)), some (.inl (some 14, 0)), some (.inl (some 15, 0)), some (.inl (some 16, 0)), some (.inl (some 17, 0)), some (.inl (some 18, 0))], gY2, (ansT 35 [(33, 35), (34, 36)]), 37, [(137, [(some 13, 0), (some 14, 0), (some 15, 0), (some 16, 0), (some 17, 0)], [30, 31, 32]), (138, [(some 17, 0), (some 13, 0), (some 14, 0)], [33, 36]), (139, [(some 18, 0), (some 15, 0), (some 16, 0)], [33, 36, 35]), (3, [(some 17, 0), (some 18, 0)], [])], [(true, (none, 2)), (true, (some 18, 0))])]
def w_yo_copy_0_0 : VC := ((bY ++ [((-2147483648), (-1)), ((-2147483648), 2147483647), ((-2147483648), 2147483647), ((-2147483648), 2147483647), ((-2147483648), 2147483647)]), [(0, [(none, 0), (none, 0)], []), (2, [(some 13, 0), (none, 0)], [])], (136, [(none, (-2)), (some 13, 0), (some 14, 0), (some 15, 0), (some 16, 0), (some 17, 0), (some 12, 0), (some 12, 0)], [30, 31, 32, 33, 33]))
theorem pe136_9 {PT : PTy} (hp : HP9 PT) : PT 136 = P_cpY := hp.2.2.1
set_option maxRecDepth 20000 in
theorem v_yo_copy_0_0 {PT : PTy} (hp : HP9 PT) : vcOk PT w_yo_copy_0_0 := vc_iv [(12, 0, 5), (13, (-2147483648), (-1)), (14, (-2147483648), 2147483647), (15, (-2147483648), 2147483647), (16, (-2147483648), 2147483647), (17, (-2147483648), 2147483647)] [30, 31, 32, 33] (by decide +kernel) (fun ρ α => by
  intro r12 g12 b12 r13 g13 b13 r14 g14 b14 r15 g15 b15 r16 g16 b16 r17 g17 b17 a30 h30 a31 h31 a32 h32 a33 h33 f0 f1 tt
  have e136 : PT 136 = P_cpY := pe136_9 hp
  simp only [hF0, hF2, hFp_136, e136, P_cpY, den_s, den_c, Int.add_zero, List.map_cons, List.map_nil, g12.eq, g13.eq, g14.eq, g15.eq, g16.eq, g17.eq, h30, h31, h32, h33] at f0 f1 ⊢
  clear g12 g13 g14 g15 g16 g17 h30 h31 h32 h33 e136 tt
  try simp only [cmpI_pos, cmpI_npos] at *
  try simp (disch := omega) only [mAdd_in] at *
  first
    | omega
    | exact ⟨by omega, by omega, by omega, by omega, by omega, by omega, by omega, by omega, by omega, by omega, by omega, by omega, by omega, by omega⟩
    | (intro q h1 h2; omega)
    | rfl
    | ((repeat' (first | apply And.intro | intro h)) <;> first | omega | rfl | trivial | (exfalso; omega) | (congr 1; omega) | (congr 1; (repeat' split) <;> first | rfl | (exfalso; omega))))
def w_yo_copy_0_1 : VC := ((bY ++ [(4, 2147483647), ((-2147483648), 2147483647), ((-2147483648), 2147483647), ((-2147483648), 2147483647), ((-2147483648), 2147483647)]), [(0, [(none, 0), (none, 0)], []), (2, [(none, 3), (some 13, 0)], []), (3, [(some 13, 0), (none, 0)], [])], (136, [(none, (-2)), (some 13, 0), (some 14, 0), (some 15, 0), (some 16, 0), (some 17, 0), (some 12, 0), (some 12, 0)], [30, 31, 32, 33, 33]))
set_option maxRecDepth 20000 in
theorem v_yo_copy_0_1 {PT : PTy} (hp : HP9 PT) : vcOk PT w_yo_copy_0_1 := vc_iv [(12, 0, 5), (13, 4, 2147483647), (14, (-2147483648), 2147483647), (15, (-2147483648), 2147483647), (16, (-2147483648), 2147483647), (17, (-2147483648), 2147483647)] [30, 31, 32, 33] (by decide +kernel) (fun ρ α => by
  intro r12 g12 b12 r13 g13 b13 r14 g14 b14 r15 g15 b15 r16 g16 b16 r17 g17 b17 a30 h30 a31 h31 a32 h32 a33 h33 f0 f1 f2 tt
  have e136 : PT 136 = P_cpY := pe136_9 hp
  simp only [hF0, hF2, hF3, hFp_136, e136, P_cpY, den_s, den_c, Int.add_zero, List.map_cons, List.map_nil, g12.eq, g13.eq, g14.eq, g15.eq, g16.eq, g17.eq, h30, h31, h32, h33] at f0 f1 f2 ⊢
  clear g12 g13 g14 g15 g16 g17 h30 h31 h32 h33 e136 tt
  try simp only [cmpI_pos, cmpI_npos] at *
  try simp (disch := omega) only [mAdd_in] at *
  first
    | omega
    | exact ⟨by omega, by omega, by omega, by omega, by omega, by omega, by omega, by omega, by omega, by omega, by omega, by omega, by omega, by omega⟩
    | (intro q h1 h2; omega)
    | rfl
    | ((repeat' (first | apply And.intro | intro h)) <;> first | omega | rfl | trivial | (exfalso; omega) | (congr 1; omega) | (congr 1; (repeat' split) <;> first | rfl | (exfalso; omega))))
def w_yo_copy_0_2 : VC := ((bY ++ [(0, 3), ((-2147483648), 2147483647), ((-2147483648), (-1)), ((-2147483648), 2147483647), ((-2147483648), 2147483647)]), [(0, [(none, 0), (none, 0)], []), (2, [(some 15, 0), (none, 0)], []), (1, [(none, 1), (none, 0)], []), (3, [(none, 3), (some 13, 0)], []), (3, [(some 13, 0), (none, 0)], [])], (136, [(none, (-2)), (some 13, 0), (some 14, 0), (some 15, 0), (some 16, 0), (some 17, 0), (some 12, 0), (some 12, 0)], [30, 31, 32, 33, 33]))
set_option maxRecDepth 20000 in
theorem v_yo_copy_0_2 {PT : PTy} (hp : HP9 PT) : vcOk PT w_yo_copy_0_2 := vc_iv [(12, 0, 5), (13, 0, 3), (14, (-2147483648), 2147483647), (15, (-2147483648), (-1)), (16, (-2147483648), 2147483647), (17, (-2147483648), 2147483647)] [30, 31, 32, 33] (by decide +kernel) (fun ρ α => by
  intro r12 g12 b12 r13 g13 b13 r14 g14 b14 r15 g15 b15 r16 g16 b16 r17 g17 b17 a30 h30 a31 h31 a32 h32 a33 h33 f0 f1 f2 f3 f4 tt
  have e136 : PT 136 = P_cpY := pe136_9 hp
  simp only [hF0, hF1, hF2, hF3, hFp_136, e136, P_cpY, den_s, den_c, Int.add_zero, List.map_cons, List.map_nil, g12.eq, g13.eq, g14.eq, g15.eq, g16.eq, g17.eq, h30, h31, h32, h33] at f0 f1 f2 f3 f4 ⊢
  clear g12 g13 g14 g15 g16 g17 h30 h31 h32 h33 e136 tt
  try simp only [cmpI_pos, cmpI_npos] at *
  try simp (disch := omega) only [mAdd_in] at *
  first
    | omega
    | exact ⟨by omega, by omega, by omega, by omega, by omega, by omega, by omega, by omega, by omega, by omega, by omega, by omega, by omega, by omega⟩
    | (intro q h1 h2; omega)
    | rfl
    | ((repeat' (first | apply And.intro | intro h)) <;> first | omega | rfl | trivial | (exfalso; omega) | (congr 1; omega) | (congr 1; (repeat' split) <;> first | rfl | (exfalso; omega))))
def w_yo_copy_0_3 : VC := ((bY ++ [(0, 3), ((-2147483648), 2147483647), (4, 2147483647), ((-2147483648), 2147483647), ((-2147483648), 2147483647)]), [(0, [(none, 0), (none, 0)], []), (2, [(none, 3), (some 15, 0)], []), (3, [(some 15, 0), (none, 0)], []), (1, [(none, 1), (none, 0)], []), (3, [(none, 3), (some 13, 0)], []), (3, [(some 13, 0), (none, 0)], [])], (136, [(none, (-2)), (some 13, 0), (some 14, 0), (some 15, 0), (some 16, 0), (some 17, 0), (some 12, 0), (some 12, 0)], [30, 31, 32, 33, 33]))
set_option maxRecDepth 20000 in
theorem v_yo_copy_0_3 {PT : PTy} (hp : HP9 PT) : vcOk PT w_yo_copy_0_3 := vc_iv [(12, 0, 5), (13, 0, 3), (14, (-2147483648), 2147483647), (15, 4, 2147483647), (16, (-2147483648), 2147483647), (17, (-2147483648), 2147483647)] [30, 31, 32, 33] (by decide +kernel) (fun ρ α => by
  intro r12 g12 b12 r13 g13 b13 r14 g14 b14 r15 g15 b15 r16 g16 b16 r17 g17 b17 a30 h30 a31 h31 a32 h32 a33 h33 f0 f1 f2 f3 f4 f5 tt
  have e136 : PT 136 = P_cpY := pe136_9 hp
  simp only [hF0, hF1, hF2, hF3, hFp_136, e136, P_cpY, den_s, den_c, Int.add_zero, List.map_cons, List.map_nil, g12.eq, g13.eq, g14.eq, g15.eq, g16.eq, g17.eq, h30, h31, h32, h33] at f0 f1 f2 f3 f4 f5 ⊢
  clear g12 g13 g14 g15 g16 g17 h30 h31 h32 h33 e136 tt
  try simp only [cmpI_pos, cmpI_npos] at *
  try simp (disch := omega) only [mAdd_in] at *
  first
    | omega
    | exact ⟨by omega, by omega, by omega, by omega, by omega, by omega, by omega, by omega, by omega, by omega, by omega, by omega, by omega, by omega⟩
    | (intro q h1 h2; omega)
    | rfl
    | ((repeat' (first | apply And.intro | intro h)) <;> first | omega | rfl | trivial | (exfalso; omega) | (congr 1; omega) | (congr 1; (repeat' split) <;> first | rfl | (exfalso; omega))))
def w_yo_copy_0_4 : VC := ((bY ++ [(0, 3), ((-2147483648), 2147483647), (0, 3), ((-2147483648), 2147483647), ((-2147483648), 2147483647), (0, 0)]), [(0, [(some 18, 0), (none, 0)], []), (20, [(some 18, 0), (some 13, 0)], [30]), (1, [(none, 1), (none, 0)], []), (3, [(none, 3), (some 15, 0)], []), (3, [(some 15, 0), (none, 0)], []), (1, [(none, 1), (none, 0)], []), (3, [(none, 3), (some 13, 0)], []), (3, [(some 13, 0), (none, 0)], [])], (136, [(none, (-11)), (some 13, 0), (some 14, 0), (some 15, 0), (some 16, 0), (some 17, 0), (some 12, 0), (none, 1)], [30, 31, 32, 33, 33]))
set_option maxRecDepth 20000 in
theorem v_yo_copy_0_4 {PT : PTy} (hp : HP9 PT) : vcOk PT w_yo_copy_0_4 := vc_iv [(12, 0, 5), (13, 0, 3), (14, (-2147483648), 2147483647), (15, 0, 3), (16, (-2147483648), 2147483647), (17, (-2147483648), 2147483647), (18, 0, 0)] [30, 31, 32, 33] (by decide +kernel) (fun ρ α => by
  intro r12 g12 b12 r13 g13 b13 r14 g14 b14 r15 g15 b15 r16 g16 b16 r17 g17 b17 r18 g18 b18 a30 h30 a31 h31 a32 h32 a33 h33 f0 f1 f2 f3 f4 f5 f6 f7 tt
  have e136 : PT 136 = P_cpY := pe136_9 hp
  simp only [hF0, hF1, hF3, hF20, hFp_136, e136, P_cpY, den_s, den_c, Int.add_zero, List.map_cons, List.map_nil, g12.eq, g13.eq, g14.eq, g15.eq, g16.eq, g17.eq, g18.eq, h30, h31, h32, h33] at f0 f1 f2 f3 f4 f5 f6 f7 ⊢
  clear g12 g13 g14 g15 g16 g17 g18 h30 h31 h32 h33 e136 tt
  subst f1
  try simp only [cmpI_pos, cmpI_npos] at *
  try simp (disch := omega) only [mAdd_in] at *
  first
    | omega
    | exact ⟨by omega, by omega, by omega, by omega, by omega, by omega, by omega, by omega, by omega, by omega, by omega, by omega, by omega, by omega⟩
    | (intro q h1 h2; omega)
    | rfl
    | ((repeat' (first | apply And.intro | intro h)) <;> first | omega | rfl | trivial | (exfalso; omega) | (congr 1; omega) | (congr 1; (repeat' split) <;> first | rfl | (exfalso; omega))))
def w_yo_copy_0_5 : VC := ((bY ++ [(0, 3), ((-2147483648), (-1)), (0, 3), ((-2147483648), 2147483647), ((-2147483648), 2147483647), (1, 1), (1, 1), (0, 2), (0, 2)]), [(2, [(some 14, 0), (none, 0)], []), (0, [(some 20, 0), (some 21, 0)], []), (20, [(some 21, 0), (some 15, 0)], [31]), (20, [(some 20, 0), (some 13, 0)], [31]), (1, [(some 19, 0), (none, 0)], []), (20, [(some 19, 0), (some 15, 0)], [30]), (1, [(some 18, 0), (none, 0)], []), (20, [(some 18, 0), (some 13, 0)], [30]), (1, [(none, 1), (none, 0)], []), (3, [(none, 3), (some 15, 0)], []), (3, [(some 15, 0), (none, 0)], []), (1, [(none, 1), (none, 0)], []), (3, [(none, 3), (some 13, 0)], []), (3, [(some 13, 0), (none, 0)], [])], (136, [(none, (-12)), (some 13, 0), (some 14, 0), (some 15, 0), (some 16, 0), (some 17, 0), (some 12, 0), (none, 2)], [30, 31, 32, 33, 33]))
set_option maxRecDepth 20000 in
theorem v_yo_copy_0_5 {PT : PTy} (hp : HP9 PT) : vcOk PT w_yo_copy_0_5 := vc_iv [(12, 0, 5), (13, 0, 3), (14, (-2147483648), (-1)), (15, 0, 3), (16, (-2147483648), 2147483647), (17, (-2147483648), 2147483647), (18, 1, 1), (19, 1, 1), (20, 0, 2), (21, 0, 2)] [30, 31, 32, 33] (by decide +kernel) (fun ρ α => by
  intro r12 g12 b12 r13 g13 b13 r14 g14 b14 r15 g15 b15 r16 g16 b16 r17 g17 b17 r18 g18 b18 r19 g19 b19 r20 g20 b20 r21 g21 b21 a30 h30 a31 h31 a32 h32 a33 h33 f0 f1 f2 f3 f4 f5 f6 f7 f8 f9 f10 f11 f12 f13 tt
  have e136 : PT 136 = P_cpY := pe136_9 hp
  simp only [hF0, hF1, hF2, hF3, hF20, hFp_136, e136, P_cpY, den_s, den_c, Int.add_zero, List.map_cons, List.map_nil, g12.eq, g13.eq, g14.eq, g15.eq, g16.eq, g17.eq, g18.eq, g19.eq, g20.eq, g21.eq, h30, h31, h32, h33] at f0 f1 f2 f3 f4 f5 f6 f7 f8 f9 f10 f11 f12 f13 ⊢
  clear g12 g13 g14 g15 g16 g17 g18 g19 g20 g21 h30 h31 h32 h33 e136 tt
  subst f2
  subst f3
  subst f5
  subst f7
  try simp only [cmpI_pos, cmpI_npos] at *
  try simp (disch := omega) only [mAdd_in] at *
  first
    | omega
    | exact ⟨by omega, by omega, by omega, by omega, by omega, by omega, by omega, by omega, by omega, by omega, by omega, by omega, by omega, by omega⟩
    | (intro q h1 h2; omega)
    | rfl
    | ((repeat' (first | apply And.intro | intro h)) <;> first | omega | rfl | trivial | (exfalso; omega) | (congr 1; omega) | (congr 1; (repeat' split) <;> first | rfl | (exfalso; omega))))
def w_yo_copy_0_6 : VC := ((bY ++ [(0, 3), (0, 2147483647), (0, 3), ((-2147483648), (-1)), ((-2147483648), 2147483647), (1, 1), (1, 1), (0, 2), (0, 2)]), [(2, [(some 16, 0), (none, 0)], []), (3, [(some 14, 0), (none, 0)], []), (0, [(some 20, 0), (some 21, 0)], []), (20, [(some 21, 0), (some 15, 0)], [31]), (20, [(some 20, 0), (some 13, 0)], [31]), (1, [(some 19, 0), (none, 0)], []), (20, [(some 19, 0), (some 15, 0)], [30]), (1, [(some 18, 0), (none, 0)], []), (20, [(some 18, 0), (some 13, 0)], [30]), (1, [(none, 1), (none, 0)], []), (3, [(none, 3), (some 15, 0)], []), (3, [(some 15, 0), (none, 0)], []), (1, [(none, 1), (none, 0)], []), (3, [(none, 3), (some 13, 0)], []), (3, [(some 13, 0), (none, 0)], [])], (136, [(none, (-12)), (some 13, 0), (some 14, 0), (some 15, 0), (some 16, 0), (some 17, 0), (some 12, 0), (none, 2)], [30, 31, 32, 33, 33]))
set_option maxRecDepth 20000 in
theorem v_yo_copy_0_6 {PT : PTy} (hp : HP9 PT) : vcOk PT w_yo_copy_0_6 := vc_iv [(12, 0, 5), (13, 0, 3), (14, 0, 2147483647), (15, 0, 3), (16, (-2147483648), (-1)), (17, (-2147483648), 2147483647), (18, 1, 1), (19, 1, 1), (20, 0, 2), (21, 0, 2)] [30, 31, 32, 33] (by decide +kernel) (fun ρ α => by
  intro r12 g12 b12 r13 g13 b13 r14 g14 b14 r15 g15 b15 r16 g16 b16 r17 g17 b17 r18 g18 b18 r19 g19 b19 r20 g20 b20 r21 g21 b21 a30 h30 a31 h31 a32 h32 a33 h33 f0 f1 f2 f3 f4 f5 f6 f7 f8 f9 f10 f11 f12 f13 f14 tt
  have e136 : PT 136 = P_cpY := pe136_9 hp
  simp only [hF0, hF1, hF2, hF3, hF20, hFp_136, e136, P_cpY, den_s, den_c, Int.add_zero, List.map_cons, List.map_nil, g12.eq, g13.eq, g14.eq, g15.eq, g16.eq, g17.eq, g18.eq, g19.eq, g20.eq, g21.eq, h30, h31, h32, h33] at f0 f1 f2 f3 f4 f5 f6 f7 f8 f9 f10 f11 f12 f13 f14 ⊢
  clear g12 g13 g14 g15 g16 g17 g18 g19 g20 g21 h30 h31 h32 h33 e136 tt
  subst f3
  subst f4
  subst f6
  subst f8
  try simp only [cmpI_pos, cmpI_npos] at *
  try simp (disch := omega) only [mAdd_in] at *
  first
    | omega
    | exact ⟨by omega, by omega, by omega, by omega, by omega, by omega, by omega, by omega, by omega, by omega, by omega, by omega, by omega, by omega⟩
    | (intro q h1 h2; omega)
    | rfl
    | ((repeat' (first | apply And.intro | intro h)) <;> first | omega | rfl | trivial | (exfalso; omega) | (congr 1; omega) | (congr 1; (repeat' split) <;> first | rfl | (exfalso; omega))))
def w_yo_copy_0_7 : VC := ((bY ++ [(0, 3), (0, 2147483647), (0, 3), (0, 2147483647), ((-2147483648), (-1)), (1, 1), (1, 1), (0, 2), (0, 2)]), [(2, [(some 17, 0), (none, 0)], []), (3, [(some 16, 0), (none, 0)], []), (3, [(some 14, 0), (none, 0)], []), (0, [(some 20, 0), (some 21, 0)], []), (20, [(some 21, 0), (some 15, 0)], [31]), (20, [(some 20, 0), (some 13, 0)], [31]), (1, [(some 19, 0), (none, 0)], []), (20, [(some 19, 0), (some 15, 0)], [30]), (1, [(some 18, 0), (none, 0)], []), (20, [(some 18, 0), (some 13, 0)], [30]), (1, [(none, 1), (none, 0)], []), (3, [(none, 3), (some 15, 0)], []), (3, [(some 15, 0), (none, 0)], []), (1, [(none, 1), (none, 0)], []), (3, [(none, 3), (some 13, 0)], []), (3, [(some 13, 0), (none, 0)], [])], (136, [(none, (-12)), (some 13, 0), (some 14, 0), (some 15, 0), (some 16, 0), (some 17, 0), (some 12, 0), (none, 2)], [30, 31, 32, 33, 33]))
set_option maxRecDepth 20000 in
theorem v_yo_copy_0_7 {PT : PTy} (hp : HP9 PT) : vcOk PT w_yo_copy_0_7 := vc_iv [(12, 0, 5), (13, 0, 3), (14, 0, 2147483647), (15, 0, 3), (16, 0, 2147483647), (17, (-2147483648), (-1)), (18, 1, 1), (19, 1, 1), (20, 0, 2), (21, 0, 2)] [30, 31, 32, 33] (by decide +kernel) (fun ρ α => by
  intro r12 g12 b12 r13 g13 b13 r14 g14 b14 r15 g15 b15 r16 g16 b16 r17 g17 b17 r18 g18 b18 r19 g19 b19 r20 g20 b20 r21 g21 b21 a30 h30 a31 h31 a32 h32 a33 h33 f0 f1 f2 f3 f4 f5 f6 f7 f8 f9 f10 f11 f12 f13 f14 f15 tt
  have e136 : PT 136 = P_cpY := pe136_9 hp
  simp only [hF0, hF1, hF2, hF3, hF20, hFp_136, e136, P_cpY, den_s, den_c, Int.add_zero, List.map_cons, List.map_nil, g12.eq, g13.eq, g14.eq, g15.eq, g16.eq, g17.eq, g18.eq, g19.eq, g20.eq, g21.eq, h30, h31, h32, h33] at f0 f1 f2 f3 f4 f5 f6 f7 f8 f9 f10 f11 f12 f13 f14 f15 ⊢
  clear g12 g13 g14 g15 g16 g17 g18 g19 g20 g21 h30 h31 h32 h33 e136 tt
  subst f4
  subst f5
  subst f7
  subst f9
  try simp only [cmpI_pos, cmpI_npos] at *
  try simp (disch := omega) only [mAdd_in] at *
  first
    | omega
    | exact ⟨by omega, by omega, by omega, by omega, by omega, by omega, by omega, by omega, by omega, by omega, by omega, by omega, by omega, by omega⟩
    | (intro q h1 h2; omega)
    | rfl
    | ((repeat' (first | apply And.intro | intro h)) <;> first | omega | rfl | trivial | (exfalso; omega) | (congr 1; omega) | (congr 1; (repeat' split) <;> first | rfl | (exfalso; omega))))
def w_yo_copy_0_8 : VC := ((bY ++ [(0, 3), (0, 2147483647), (0, 3), (0, 2147483647), (0, 2147483647), (1, 1), (1, 1), (0, 2), (0, 2), (0, 4294967294), (0, 60), (1, 1)]), [(2, [(none, 0), (some 24, 0)], []), (28, [(some 24, 0), (some 22, 0), (some 23, 0)], []), (20, [(some 23, 0), (some 13, 0)], [32]), (4, [(some 22, 0), (some 14, 0), (some 17, 0)], []), (3, [(some 17, 0), (none, 0)], []), (3, [(some 16, 0), (none, 0)], []), (3, [(some 14, 0), (none, 0)], []), (0, [(some 20, 0), (some 21, 0)], []), (20, [(some 21, 0), (some 15, 0)], [31]), (20, [(some 20, 0), (some 13, 0)], [31]), (1, [(some 19, 0), (none, 0)], []), (20, [(some 19, 0), (some 15, 0)], [30]), (1, [(some 18, 0), (none, 0)], []), (20, [(some 18, 0), (some 13, 0)], [30]), (1, [(none, 1), (none, 0)], []), (3, [(none, 3), (some 15, 0)], []), (3, [(some 15, 0), (none, 0)], []), (1, [(none, 1), (none, 0)], []), (3, [(none, 3), (some 13, 0)], []), (3, [(some 13, 0), (none, 0)], [])], (136, [(none, (-12)), (some 13, 0), (some 14, 0), (some 15, 0), (some 16, 0), (some 17, 0), (some 12, 0), (none, 2)], [30, 31, 32, 33, 33]))
set_option maxRecDepth 20000 in
theorem v_yo_copy_0_8 {PT : PTy} (hp : HP9 PT) : vcOk PT w_yo_copy_0_8 := vc_iv [(12, 0, 5), (13, 0, 3), (14, 0, 2147483647), (15, 0, 3), (16, 0, 2147483647), (17, 0, 2147483647), (18, 1, 1), (19, 1, 1), (20, 0, 2), (21, 0, 2), (22, 0, 4294967294), (23, 0, 60), (24, 1, 1)] [30, 31, 32, 33] (by decide +kernel) (fun ρ α => by
  intro r12 g12 b12 r13 g13 b13 r14 g14 b14 r15 g15 b15 r16 g16 b16 r17 g17 b17 r18 g18 b18 r19 g19 b19 r20 g20 b20 r21 g21 b21 r22 g22 b22 r23 g23 b23 r24 g24 b24 a30 h30 a31 h31 a32 h32 a33 h33 f0 f1 f2 f3 f4 f5 f6 f7 f8 f9 f10 f11 f12 f13 f14 f15 f16 f17 f18 f19 tt
  have e136 : PT 136 = P_cpY := pe136_9 hp
  simp only [hF0, hF1, hF2, hF3, hF4, hF20, hF28, hFp_136, e136, P_cpY, den_s, den_c, Int.add_zero, List.map_cons, List.map_nil, g12.eq, g13.eq, g14.eq, g15.eq, g16.eq, g17.eq, g18.eq, g19.eq, g20.eq, g21.eq, g22.eq, g23.eq, g24.eq, h30, h31, h32, h33] at f0 f1 f2 f3 f4 f5 f6 f7 f8 f9 f10 f11 f12 f13 f14 f15 f16 f17 f18 f19 ⊢
  clear g12 g13 g14 g15 g16 g17 g18 g19 g20 g21 g22 g23 g24 h30 h31 h32 h33 e136 tt
  subst f1
  subst f2
  subst f3
  subst f8
  subst f9
  subst f11
  subst f13
  try simp only [cmpI_pos, cmpI_npos] at *
  try simp (disch := omega) only [mAdd_in] at *
  first
    | omega
    | exact ⟨by omega, by omega, by omega, by omega, by omega, by omega, by omega, by omega, by omega, by omega, by omega, by omega, by omega, by omega⟩
    | (intro q h1 h2; omega)
    | rfl
    | ((repeat' (first | apply And.intro | intro h)) <;> first | omega | rfl | trivial | (exfalso; omega) | (congr 1; omega) | (congr 1; (repeat' split) <;> first | rfl | (exfalso; omega))))
def w_yo_copy_0_9 : VC := ((bY ++ [(0, 3), (0, 2147483647), (0, 3), (0, 2147483647), (0, 2147483647), (1, 1), (1, 1), (0, 2), (0, 2), (0, 4294967294), (0, 60), ((-1), 0), (0, 4294967294), (0, 60), ((-1), 0)]), [(3, [(none, 0), (some 27, 0)], []), (28, [(some 27, 0), (some 25, 0), (some 26, 0)], []), (20, [(some 26, 0), (some 15, 0)], [32]), (4, [(some 25, 0), (some 16, 0), (some 17, 0)], []), (3, [(none, 0), (some 24, 0)], []), (28, [(some 24, 0), (some 22, 0), (some 23, 0)], []), (20, [(some 23, 0), (some 13, 0)], [32]), (4, [(some 22, 0), (some 14, 0), (some 17, 0)], []), (3, [(some 17, 0), (none, 0)], []), (3, [(some 16, 0), (none, 0)], []), (3, [(some 14, 0), (none, 0)], []), (0, [(some 20, 0), (some 21, 0)], []), (20, [(some 21, 0), (some 15, 0)], [31]), (20, [(some 20, 0), (some 13, 0)], [31]), (1, [(some 19, 0), (none, 0)], []), (20, [(some 19, 0), (some 15, 0)], [30]), (1, [(some 18, 0), (none, 0)], []), (20, [(some 18, 0), (some 13, 0)], [30]), (1, [(none, 1), (none, 0)], []), (3, [(none, 3), (some 15, 0)], []), (3, [(some 15, 0), (none, 0)], []), (1, [(none, 1), (none, 0)], []), (3, [(none, 3), (some 13, 0)], []), (3, [(some 13, 0), (none, 0)], [])], (137, [(some 13, 0), (some 14, 0), (some 15, 0), (some 16, 0), (some 17, 0)], [30, 31, 32]))
theorem pe137_9 {PT : PTy} (hp : HP9 PT) : PT 137 = P_cpR := hp.2.2.2.1
set_option maxRecDepth 20000 in
theorem v_yo_copy_0_9 {PT : PTy} (hp : HP9 PT) : vcOk PT w_yo_copy_0_9 := vc_iv [(13, 0, 3), (14, 0, 2147483647), (15, 0, 3), (16, 0, 2147483647), (17, 0, 2147483647), (18, 1, 1), (19, 1, 1), (20, 0, 2), (21, 0, 2), (22, 0, 4294967294), (23, 0, 60), (24, (-1), 0), (25, 0, 4294967294), (26, 0, 60), (27, (-1), 0)] [30, 31, 32] (by decide +kernel) (fun ρ α => by
  intro r13 g13 b13 r14 g14 b14 r15 g15 b15 r16 g16 b16 r17 g17 b17 r18 g18 b18 r19 g19 b19 r20 g20 b20 r21 g21 b21 r22 g22 b22 r23 g23 b23 r24 g24 b24 r25 g25 b25 r26 g26 b26 r27 g27 b27 a30 h30 a31 h31 a32 h32 f0 f1 f2 f3 f4 f5 f6 f7 f8 f9 f10 f11 f12 f13 f14 f15 f16 f17 f18 f19 f20 f21 f22 f23 tt
  have e137 : PT 137 = P_cpR := pe137_9 hp
  simp only [hF0, hF1, hF3, hF4, hF20, hF28, hFp_137, e137, P_cpR, den_s, den_c, Int.add_zero, List.map_cons, List.map_nil, g13.eq, g14.eq, g15.eq, g16.eq, g17.eq, g18.eq, g19.eq, g20.eq, g21.eq, g22.eq, g23.eq, g24.eq, g25.eq, g26.eq, g27.eq, h30, h31, h32] at f0 f1 f2 f3 f4 f5 f6 f7 f8 f9 f10 f11 f12 f13 f14 f15 f16 f17 f18 f19 f20 f21 f22 f23 ⊢
  clear g13 g14 g15 g16 g17 g18 g19 g20 g21 g22 g23 g24 g25 g26 g27 h30 h31 h32 e137 tt
  subst f1
  subst f2
  subst f3
  subst f5
  subst f6
  subst f7
  subst f12
  subst f13
  subst f15
  subst f17
  try simp only [cmpI_pos, cmpI_npos] at *
  try simp (disch := omega) only [mAdd_in] at *
  first
    | omega
    | exact ⟨by omega, by omega, by omega, by omega, by omega, by omega, by omega, by omega, by omega, by omega, by omega, by omega, by omega, by omega⟩
    | (intro q h1 h2; omega)
    | rfl
    | ((repeat' (first | apply And.intro | intro h)) <;> first | omega | rfl | trivial | (exfalso; omega) | (congr 1; omega) | (congr 1; (repeat' split) <;> first | rfl | (exfalso; omega))))
def w_yo_copy_0_10 : VC := ((bY ++ [(0, 3), (0, 2147483647), (0, 3), (0, 2147483647), (0, 2147483647), (1, 1), (1, 1), (0, 2), (0, 2), (0, 4294967294), (0, 60), ((-1), 0), (0, 4294967294), (0, 60), ((-1), 0)]), [(3, [(none, 0), (some 27, 0)], []), (28, [(some 27, 0), (some 25, 0), (some 26, 0)], []), (20, [(some 26, 0), (some 15, 0)], [32]), (4, [(some 25, 0), (some 16, 0), (some 17, 0)], []), (3, [(none, 0), (some 24, 0)], []), (28, [(some 24, 0), (some 22, 0), (some 23, 0)], []), (20, [(some 23, 0), (some 13, 0)], [32]), (4, [(some 22, 0), (some 14, 0), (some 17, 0)], []), (3, [(some 17, 0), (none, 0)], []), (3, [(some 16, 0), (none, 0)], []), (3, [(some 14, 0), (none, 0)], []), (0, [(some 20, 0), (some 21, 0)], []), (20, [(some 21, 0), (some 15, 0)], [31]), (20, [(some 20, 0), (some 13, 0)], [31]), (1, [(some 19, 0), (none, 0)], []), (20, [(some 19, 0), (some 15, 0)], [30]), (1, [(some 18, 0), (none, 0)], []), (20, [(some 18, 0), (some 13, 0)], [30]), (1, [(none, 1), (none, 0)], []), (3, [(none, 3), (some 15, 0)], []), (3, [(some 15, 0), (none, 0)], []), (1, [(none, 1), (none, 0)], []), (3, [(none, 3), (some 13, 0)], []), (3, [(some 13, 0), (none, 0)], [])], (138, [(none, 0), (some 13, 0), (some 14, 0)], [33, 34]))
theorem pe138_9 {PT : PTy} (hp : HP9 PT) : PT 138 = P_cpA := hp.2.2.2.2.1
set_option maxRecDepth 20000 in
theorem v_yo_copy_0_10 {PT : PTy} (hp : HP9 PT) : vcOk PT w_yo_copy_0_10 := vc_iv [(13, 0, 3), (14, 0, 2147483647), (15, 0, 3), (16, 0, 2147483647), (17, 0, 2147483647), (18, 1, 1), (19, 1, 1), (20, 0, 2), (21, 0, 2), (22, 0, 4294967294), (23, 0, 60), (24, (-1), 0), (25, 0, 4294967294), (26, 0, 60), (27, (-1), 0)] [30, 31, 32, 33, 34] (by decide +kernel) (fun ρ α => by
  intro r13 g13 b13 r14 g14 b14 r15 g15 b15 r16 g16 b16 r17 g17 b17 r18 g18 b18 r19 g19 b19 r20 g20 b20 r21 g21 b21 r22 g22 b22 r23 g23 b23 r24 g24 b24 r25 g25 b25 r26 g26 b26 r27 g27 b27 a30 h30 a31 h31 a32 h32 a33 h33 a34 h34 f0 f1 f2 f3 f4 f5 f6 f7 f8 f9 f10 f11 f12 f13 f14 f15 f16 f17 f18 f19 f20 f21 f22 f23 tt
  have e138 : PT 138 = P_cpA := pe138_9 hp
  simp only [hF0, hF1, hF3, hF4, hF20, hF28, hFp_138, e138, P_cpA, den_s, den_c, Int.add_zero, List.map_cons, List.map_nil, g13.eq, g14.eq, g15.eq, g16.eq, g17.eq, g18.eq, g19.eq, g20.eq, g21.eq, g22.eq, g23.eq, g24.eq, g25.eq, g26.eq, g27.eq, h30, h31, h32, h33, h34] at f0 f1 f2 f3 f4 f5 f6 f7 f8 f9 f10 f11 f12 f13 f14 f15 f16 f17 f18 f19 f20 f21 f22 f23 ⊢
  clear g13 g14 g15 g16 g17 g18 g19 g20 g21 g22 g23 g24 g25 g26 g27 h30 h31 h32 h33 h34 e138 tt
  subst f1
  subst f2
  subst f3
  subst f5
  subst f6
  subst f7
  subst f12
  subst f13
  subst f15
  subst f17
  try simp only [cmpI_pos, cmpI_npos] at *
  try simp (disch := omega) only [mAdd_in] at *
  first
    | omega
    | exact ⟨by omega, by omega, by omega, by omega, by omega, by omega, by omega, by omega, by omega, by omega, by omega, by omega, by omega, by omega⟩
    | (intro q h1 h2; omega)
    | rfl
    | ((repeat' (first | apply And.intro | intro h)) <;> first | omega | rfl | trivial | (exfalso; omega) | (congr 1; omega) | (congr 1; (repeat' split) <;> first | rfl | (exfalso; omega))))
def w_yo_copy_0_11 : VC := ((bY ++ [(0, 3), (0, 2147483647), (0, 3), (0, 2147483647), (0, 2147483647), (1, 1), (1, 1), (0, 2), (0, 2), (0, 4294967294), (0, 60), ((-1), 0), (0, 4294967294), (0, 60), (1, 1)]), [(2, [(none, 0), (some 27, 0)], []), (28, [(some 27, 0), (some 25, 0), (some 26, 0)], []), (20, [(some 26, 0), (some 15, 0)], [32]), (4, [(some 25, 0), (some 16, 0), (some 17, 0)], []), (3, [(none, 0), (some 24, 0)], []), (28, [(some 24, 0), (some 22, 0), (some 23, 0)], []), (20, [(some 23, 0), (some 13, 0)], [32]), (4, [(some 22, 0), (some 14, 0), (some 17, 0)], []), (3, [(some 17, 0), (none, 0)], []), (3, [(some 16, 0), (none, 0)], []), (3, [(some 14, 0), (none, 0)], []), (0, [(some 20, 0), (some 21, 0)], []), (20, [(some 21, 0), (some 15, 0)], [31]), (20, [(some 20, 0), (some 13, 0)], [31]), (1, [(some 19, 0), (none, 0)], []), (20, [(some 19, 0), (some 15, 0)], [30]), (1, [(some 18, 0), (none, 0)], []), (20, [(some 18, 0), (some 13, 0)], [30]), (1, [(none, 1), (none, 0)], []), (3, [(none, 3), (some 15, 0)], []), (3, [(some 15, 0), (none, 0)], []), (1, [(none, 1), (none, 0)], []), (3, [(none, 3), (some 13, 0)], []), (3, [(some 13, 0), (none, 0)], [])], (136, [(none, (-12)), (some 13, 0), (some 14, 0), (some 15, 0), (some 16, 0), (some 17, 0), (some 12, 0), (none, 2)], [30, 31, 32, 33, 33]))
set_option maxRecDepth 20000 in
theorem v_yo_copy_0_11 {PT : PTy} (hp : HP9 PT) : vcOk PT w_yo_copy_0_11 := vc_iv [(12, 0, 5), (13, 0, 3), (14, 0, 2147483647), (15, 0, 3), (16, 0, 2147483647), (17, 0, 2147483647), (18, 1, 1), (19, 1, 1), (20, 0, 2), (21, 0, 2), (22, 0, 4294967294), (23, 0, 60), (24, (-1), 0), (25, 0, 4294967294), (26, 0, 60), (27, 1, 1)] [30, 31, 32, 33] (by decide +kernel) (fun ρ α => by
  intro r12 g12 b12 r13 g13 b13 r14 g14 b14 r15 g15 b15 r16 g16 b16 r17 g17 b17 r18 g18 b18 r19 g19 b19 r20 g20 b20 r21 g21 b21 r22 g22 b22 r23 g23 b23 r24 g24 b24 r25 g25 b25 r26 g26 b26 r27 g27 b27 a30 h30 a31 h31 a32 h32 a33 h33 f0 f1 f2 f3 f4 f5 f6 f7 f8 f9 f10 f11 f12 f13 f14 f15 f16 f17 f18 f19 f20 f21 f22 f23 tt
  have e136 : PT 136 = P_cpY := pe136_9 hp
  simp only [hF0, hF1, hF2, hF3, hF4, hF20, hF28, hFp_136, e136, P_cpY, den_s, den_c, Int.add_zero, List.map_cons, List.map_nil, g12.eq, g13.eq, g14.eq, g15.eq, g16.eq, g17.eq, g18.eq, g19.eq, g20.eq, g21.eq, g22.eq, g23.eq, g24.eq, g25.eq, g26.eq, g27.eq, h30, h31, h32, h33] at f0 f1 f2 f3 f4 f5 f6 f7 f8 f9 f10 f11 f12 f13 f14 f15 f16 f17 f18 f19 f20 f21 f22 f23 ⊢
  clear g12 g13 g14 g15 g16 g17 g18 g19 g20 g21 g22 g23 g24 g25 g26 g27 h30 h31 h32 h33 e136 tt
  subst f1
  subst f2
  subst f3
  subst f5
  subst f6
  subst f7
  subst f12
  subst f13
  subst f15
  subst f17
  try simp only [cmpI_pos, cmpI_npos] at *
  try simp (disch := omega) only [mAdd_in] at *
  first
    | omega
    | exact ⟨by omega, by omega, by omega, by omega, by omega, by omega, by omega, by omega, by omega, by omega, by omega, by omega, by omega, by omega⟩
    | (intro q h1 h2; omega)
    | rfl
    | ((repeat' (first | apply And.intro | intro h)) <;> first | omega | rfl | trivial | (exfalso; omega) | (congr 1; omega) | (congr 1; (repeat' split) <;> first | rfl | (exfalso; omega))))
def w_yo_copy_0_12 : VC := ((bY ++ [(0, 3), ((-2147483648), 2147483647), (0, 3), ((-2147483648), 2147483647), ((-2147483648), 2147483647), (1, 1), (1, 1), (0, 2), (0, 2)]), [(1, [(some 20, 0), (some 21, 0)], []), (20, [(some 21, 0), (some 15, 0)], [31]), (20, [(some 20, 0), (some 13, 0)], [31]), (1, [(some 19, 0), (none, 0)], []), (20, [(some 19, 0), (some 15, 0)], [30]), (1, [(some 18, 0), (none, 0)], []), (20, [(some 18, 0), (some 13, 0)], [30]), (1, [(none, 1), (none, 0)], []), (3, [(none, 3), (some 15, 0)], []), (3, [(some 15, 0), (none, 0)], []), (1, [(none, 1), (none, 0)], []), (3, [(none, 3), (some 13, 0)], []), (3, [(some 13, 0), (none, 0)], [])], (136, [(none, (-14)), (some 13, 0), (some 14, 0), (some 15, 0), (some 16, 0), (some 17, 0), (some 12, 0), (none, 4)], [30, 31, 32, 33, 33]))
set_option maxRecDepth 20000 in
theorem v_yo_copy_0_12 {PT : PTy} (hp : HP9 PT) : vcOk PT w_yo_copy_0_12 := vc_iv [(12, 0, 5), (13, 0, 3), (14, (-2147483648), 2147483647), (15, 0, 3), (16, (-2147483648), 2147483647), (17, (-2147483648), 2147483647), (18, 1, 1), (19, 1, 1), (20, 0, 2), (21, 0, 2)] [30, 31, 32, 33] (by decide +kernel) (fun ρ α => by
  intro r12 g12 b12 r13 g13 b13 r14 g14 b14 r15 g15 b15 r16 g16 b16 r17 g17 b17 r18 g18 b18 r19 g19 b19 r20 g20 b20 r21 g21 b21 a30 h30 a31 h31 a32 h32 a33 h33 f0 f1 f2 f3 f4 f5 f6 f7 f8 f9 f10 f11 f12 tt
  have e136 : PT 136 = P_cpY := pe136_9 hp
  simp only [hF1, hF3, hF20, hFp_136, e136, P_cpY, den_s, den_c, Int.add_zero, List.map_cons, List.map_nil, g12.eq, g13.eq, g14.eq, g15.eq, g16.eq, g17.eq, g18.eq, g19.eq, g20.eq, g21.eq, h30, h31, h32, h33] at f0 f1 f2 f3 f4 f5 f6 f7 f8 f9 f10 f11 f12 ⊢
  clear g12 g13 g14 g15 g16 g17 g18 g19 g20 g21 h30 h31 h32 h33 e136 tt
  subst f1
  subst f2
  subst f4
  subst f6
  try simp only [cmpI_pos, cmpI_npos] at *
  try simp (disch := omega) only [mAdd_in] at *
  first
    | omega
    | exact ⟨by omega, by omega, by omega, by omega, by omega, by omega, by omega, by omega, by omega, by omega, by omega, by omega, by omega, by omega⟩
    | (intro q h1 h2; omega)
    | rfl
    | ((repeat' (first | apply And.intro | intro h)) <;> first | omega | rfl | trivial | (exfalso; omega) | (congr 1; omega) | (congr 1; (repeat' split) <;> first | rfl | (exfalso; omega))))
def w_yo_copy_0_13 : VC := ((bY ++ [(0, 3), ((-2147483648), 2147483647), (0, 3), ((-2147483648), 2147483647), ((-2147483648), 2147483647), (1, 1), (0, 0)]), [(0, [(some 19, 0), (none, 0)], []), (20, [(some 19, 0), (some 15, 0)], [30]), (1, [(some 18, 0), (none, 0)], []), (20, [(some 18, 0), (some 13, 0)], [30]), (1, [(none, 1), (none, 0)], []), (3, [(none, 3), (some 15, 0)], []), (3, [(some 15, 0), (none, 0)], []), (1, [(none, 1), (none, 0)], []), (3, [(none, 3), (some 13, 0)], []), (3, [(some 13, 0), (none, 0)], [])], (136, [(none, (-11)), (some 13, 0), (some 14, 0), (some 15, 0), (some 16, 0), (some 17, 0), (some 12, 0), (none, 1)], [30, 31, 32, 33, 33]))
set_option maxRecDepth 20000 in
theorem v_yo_copy_0_13 {PT : PTy} (hp : HP9 PT) : vcOk PT w_yo_copy_0_13 := vc_iv [(12, 0, 5), (13, 0, 3), (14, (-2147483648), 2147483647), (15, 0, 3), (16, (-2147483648), 2147483647), (17, (-2147483648), 2147483647), (18, 1, 1), (19, 0, 0)] [30, 31, 32, 33] (by decide +kernel) (fun ρ α => by
  intro r12 g12 b12 r13 g13 b13 r14 g14 b14 r15 g15 b15 r16 g16 b16 r17 g17 b17 r18 g18 b18 r19 g19 b19 a30 h30 a31 h31 a32 h32 a33 h33 f0 f1 f2 f3 f4 f5 f6 f7 f8 f9 tt
  have e136 : PT 136 = P_cpY := pe136_9 hp
  simp only [hF0, hF1, hF3, hF20, hFp_136, e136, P_cpY, den_s, den_c, Int.add_zero, List.map_cons, List.map_nil, g12.eq, g13.eq, g14.eq, g15.eq, g16.eq, g17.eq, g18.eq, g19.eq, h30, h31, h32, h33] at f0 f1 f2 f3 f4 f5 f6 f7 f8 f9 ⊢
  clear g12 g13 g14 g15 g16 g17 g18 g19 h30 h31 h32 h33 e136 tt
  subst f1
  subst f3
  try simp only [cmpI_pos, cmpI_npos] at *
  try simp (disch := omega) only [mAdd_in] at *
  first
    | omega
    | exact ⟨by omega, by omega, by omega, by omega, by omega, by omega, by omega, by omega, by omega, by omega, by omega, by omega, by omega, by omega⟩
    | (intro q h1 h2; omega)
    | rfl
    | ((repeat' (first | apply And.intro | intro h)) <;> first | omega | rfl | trivial | (exfalso; omega) | (congr 1; omega) | (congr 1; (repeat' split) <;> first | rfl | (exfalso; omega))))
def w_yo_copy_1_0 : VC := ((bY ++ [(0, 3), (0, 2147483647), (0, 3), (0, 2147483647), (0, 60), (0, 60)]), [(3, [(some 18, 0), (some 17, 0)], []), (137, [(some 13, 0), (some 14, 0), (some 15, 0), (some 16, 0), (some 17, 0)], [30, 31, 32]), (138, [(some 18, 0), (some 13, 0), (some 14, 0)], [33, 35]), (3, [(some 17, 0), (some 18, 0)], [])], (138, [(some 17, 0), (some 13, 0), (some 14, 0)], [33, 35]))
set_option maxRecDepth 20000 in
theorem v_yo_copy_1_0 {PT : PTy} (hp : HP9 PT) : vcOk PT w_yo_copy_1_0 := vc_iv [(13, 0, 3), (14, 0, 2147483647), (15, 0, 3), (16, 0, 2147483647), (17, 0, 60), (18, 0, 60)] [30, 31, 32, 33, 35] (by decide +kernel) (fun ρ α => by
  intro r13 g13 b13 r14 g14 b14 r15 g15 b15 r16 g16 b16 r17 g17 b17 r18 g18 b18 a30 h30 a31 h31 a32 h32 a33 h33 a35 h35 f0 f1 f2 f3 tt
  have e137 : PT 137 = P_cpR := pe137_9 hp
  have e138 : PT 138 = P_cpA := pe138_9 hp
  simp only [hF3, hFp_137, hFp_138, e137, e138, P_cpR, P_cpA, den_s, den_c, Int.add_zero, List.map_cons, List.map_nil, g13.eq, g14.eq, g15.eq, g16.eq, g17.eq, g18.eq, h30, h31, h32, h33, h35] at f0 f1 f2 f3 ⊢
  clear g13 g14 g15 g16 g17 g18 h30 h31 h32 h33 h35 e137 e138 tt
  have hR := f1
  obtain ⟨c1, c2, c3, c4, c5, c6, c7, c8, c9, c10, c11, c12, c13, c14⟩ := hR
  have hA := f2
  try simp (disch := omega) only [mAdd_in] at *
  first
    | omega
    | exact ⟨c1, c2, c3, c4, c5, c6, c7, c8, c9, c10, c11, c12, c13, c14⟩
    | rfl
    | (intro q h1 h2; exact hA q h1 (by omega))
    | (intro q h1 h2; by_cases z : q = r18; (rw [z, updI_at]); (rw [updI_ne z]; exact hA q h1 (by omega))))
def w_yo_copy_1_1 : VC := ((bY ++ [(0, 3), (0, 2147483647), (0, 3), (0, 2147483647), (0, 60), (0, 60)]), [(3, [(some 18, 0), (some 17, 0)], []), (137, [(some 13, 0), (some 14, 0), (some 15, 0), (some 16, 0), (some 17, 0)], [30, 31, 32]), (138, [(some 18, 0), (some 13, 0), (some 14, 0)], [33, 35]), (3, [(some 17, 0), (some 18, 0)], [])], (139, [(none, 0), (some 15, 0), (some 16, 0)], [33, 35, 33]))
theorem pe139_9 {PT : PTy} (hp : HP9 PT) : PT 139 = P_cpB := hp.2.2.2.2.2.1
set_option maxRecDepth 20000 in
theorem v_yo_copy_1_1 {PT : PTy} (hp : HP9 PT) : vcOk PT w_yo_copy_1_1 := vc_iv [(13, 0, 3), (14, 0, 2147483647), (15, 0, 3), (16, 0, 2147483647), (17, 0, 60), (18, 0, 60)] [30, 31, 32, 33, 35] (by decide +kernel) (fun ρ α => by
  intro r13 g13 b13 r14 g14 b14 r15 g15 b15 r16 g16 b16 r17 g17 b17 r18 g18 b18 a30 h30 a31 h31 a32 h32 a33 h33 a35 h35 f0 f1 f2 f3 tt
  have e137 : PT 137 = P_cpR := pe137_9 hp
  have e138 : PT 138 = P_cpA := pe138_9 hp
  have e139 : PT 139 = P_cpB := pe139_9 hp
  simp only [hF3, hFp_137, hFp_138, hFp_139, e137, e138, e139, P_cpR, P_cpA, P_cpB, den_s, den_c, Int.add_zero, List.map_cons, List.map_nil, g13.eq, g14.eq, g15.eq, g16.eq, g17.eq, g18.eq, h30, h31, h32, h33, h35] at f0 f1 f2 f3 ⊢
  clear g13 g14 g15 g16 g17 g18 h30 h31 h32 h33 h35 e137 e138 e139 tt
  have hR := f1
  obtain ⟨c1, c2, c3, c4, c5, c6, c7, c8, c9, c10, c11, c12, c13, c14⟩ := hR
  have hA := f2
  try simp (disch := omega) only [mAdd_in] at *
  first
    | omega
    | exact ⟨c1, c2, c3, c4, c5, c6, c7, c8, c9, c10, c11, c12, c13, c14⟩
    | rfl
    | (intro q h1 h2; exact hA q h1 (by omega))
    | (intro q h1 h2; by_cases z : q = r18; (rw [z, updI_at]); (rw [updI_ne z]; exact hA q h1 (by omega))))
def w_yo_copy_1_2 : VC := ((bY ++ [(0, 3), (0, 2147483647), (0, 3), (0, 2147483647), (0, 60), (0, 60)]), [(3, [(some 18, 0), (some 17, 0)], []), (137, [(some 13, 0), (some 14, 0), (some 15, 0), (some 16, 0), (some 17, 0)], [30, 31, 32]), (138, [(some 18, 0), (some 13, 0), (some 14, 0)], [33, 35]), (3, [(some 17, 0), (some 18, 0)], [])], (3, [(some 17, 0), (none, 0)], []))
set_option maxRecDepth 20000 in
theorem v_yo_copy_1_2 {PT : PTy} (hp : HP9 PT) : vcOk PT w_yo_copy_1_2 := vc_iv [(13, 0, 3), (14, 0, 2147483647), (15, 0, 3), (16, 0, 2147483647), (17, 0, 60), (18, 0, 60)] [30, 31, 32, 33, 35] (by decide +kernel) (fun ρ α => by
  intro r13 g13 b13 r14 g14 b14 r15 g15 b15 r16 g16 b16 r17 g17 b17 r18 g18 b18 a30 h30 a31 h31 a32 h32 a33 h33 a35 h35 f0 f1 f2 f3 tt
  have e137 : PT 137 = P_cpR := pe137_9 hp
  have e138 : PT 138 = P_cpA := pe138_9 hp
  simp only [hF3, hFp_137, hFp_138, e137, e138, P_cpR, P_cpA, den_s, den_c, Int.add_zero, List.map_cons, List.map_nil, g13.eq, g14.eq, g15.eq, g16.eq, g17.eq, g18.eq, h30, h31, h32, h33, h35] at f0 f1 f2 f3 ⊢
  clear g13 g14 g15 g16 g17 g18 h30 h31 h32 h33 h35 e137 e138 tt
  have hR := f1
  obtain ⟨c1, c2, c3, c4, c5, c6, c7, c8, c9, c10, c11, c12, c13, c14⟩ := hR
  have hA := f2
  try simp (disch := omega) only [mAdd_in] at *
  first
    | omega
    | exact ⟨c1, c2, c3, c4, c5, c6, c7, c8, c9, c10, c11, c12, c13, c14⟩
    | rfl
    | (intro q h1 h2; exact hA q h1 (by omega))
    | (intro q h1 h2; by_cases z : q = r18; (rw [z, updI_at]); (rw [updI_ne z]; exact hA q h1 (by omega))))
def w_yo_copy_1_3 : VC := ((bY ++ [(0, 3), (0, 2147483647), (0, 3), (0, 2147483647), (1, 2147483647), (0, 60), (0, 180), ((-2147483648), 2147483647), ((-2147483648), 2147483647)]), [(16, [(some 21, 0), (some 20, 0), (some 18, 0)], []), (16, [(some 20, 0), (some 19, 0), (some 14, 0)], []), (6, [(some 19, 0), (none, 60), (some 13, 0)], []), (2, [(some 18, 0), (some 17, 0)], []), (137, [(some 13, 0), (some 14, 0), (some 15, 0), (some 16, 0), (some 17, 0)], [30, 31, 32]), (138, [(some 18, 0), (some 13, 0), (some 14, 0)], [33, 35]), (3, [(some 17, 0), (some 18, 0)], [])], (3, [(some 21, 0), (none, 0)], []))
set_option maxRecDepth 20000 in
theorem v_yo_copy_1_3 {PT : PTy} (hp : HP9 PT) : vcOk PT w_yo_copy_1_3 := vc_iv [(13, 0, 3), (14, 0, 2147483647), (15, 0, 3), (16, 0, 2147483647), (17, 1, 2147483647), (18, 0, 60), (19, 0, 180), (20, (-2147483648), 2147483647), (21, (-2147483648), 2147483647)] [30, 31, 32, 33, 35] (by decide +kernel) (fun ρ α => by
  intro r13 g13 b13 r14 g14 b14 r15 g15 b15 r16 g16 b16 r17 g17 b17 r18 g18 b18 r19 g19 b19 r20 g20 b20 r21 g21 b21 a30 h30 a31 h31 a32 h32 a33 h33 a35 h35 f0 f1 f2 f3 f4 f5 f6 tt
  have e137 : PT 137 = P_cpR := pe137_9 hp
  have e138 : PT 138 = P_cpA := pe138_9 hp
  simp only [hF2, hF3, hF6, hF16, hFp_137, hFp_138, e137, e138, P_cpR, P_cpA, den_s, den_c, Int.add_zero, List.map_cons, List.map_nil, g13.eq, g14.eq, g15.eq, g16.eq, g17.eq, g18.eq, g19.eq, g20.eq, g21.eq, h30, h31, h32, h33, h35] at f0 f1 f2 f3 f4 f5 f6 ⊢
  clear g13 g14 g15 g16 g17 g18 g19 g20 g21 h30 h31 h32 h33 h35 e137 e138 tt
  subst f0
  subst f1
  subst f2
  have hR := f4
  obtain ⟨c1, c2, c3, c4, c5, c6, c7, c8, c9, c10, c11, c12, c13, c14⟩ := hR
  have hA := f5
  try simp (disch := omega) only [mAdd_in] at *
  first
    | omega
    | exact ⟨c1, c2, c3, c4, c5, c6, c7, c8, c9, c10, c11, c12, c13, c14⟩
    | rfl
    | (intro q h1 h2; exact hA q h1 (by omega))
    | (intro q h1 h2; by_cases z : q = r18; (rw [z, updI_at]); (rw [updI_ne z]; exact hA q h1 (by omega))))
def w_yo_copy_1_4 : VC := ((bY ++ [(0, 3), (0, 2147483647), (0, 3), (0, 2147483647), (1, 2147483647), (0, 60), (0, 180), ((-2147483648), 2147483647), ((-2147483648), 2147483647)]), [(16, [(some 21, 0), (some 20, 0), (some 18, 0)], []), (16, [(some 20, 0), (some 19, 0), (some 14, 0)], []), (6, [(some 19, 0), (none, 60), (some 13, 0)], []), (2, [(some 18, 0), (some 17, 0)], []), (137, [(some 13, 0), (some 14, 0), (some 15, 0), (some 16, 0), (some 17, 0)], [30, 31, 32]), (138, [(some 18, 0), (some 13, 0), (some 14, 0)], [33, 35]), (3, [(some 17, 0), (some 18, 0)], [])], (3, [(none, 239), (some 21, 0)], []))
set_option maxRecDepth 20000 in
theorem v_yo_copy_1_4 {PT : PTy} (hp : HP9 PT) : vcOk PT w_yo_copy_1_4 := vc_iv [(13, 0, 3), (14, 0, 2147483647), (15, 0, 3), (16, 0, 2147483647), (17, 1, 2147483647), (18, 0, 60), (19, 0, 180), (20, (-2147483648), 2147483647), (21, (-2147483648), 2147483647)] [30, 31, 32, 33, 35] (by decide +kernel) (fun ρ α => by
  intro r13 g13 b13 r14 g14 b14 r15 g15 b15 r16 g16 b16 r17 g17 b17 r18 g18 b18 r19 g19 b19 r20 g20 b20 r21 g21 b21 a30 h30 a31 h31 a32 h32 a33 h33 a35 h35 f0 f1 f2 f3 f4 f5 f6 tt
  have e137 : PT 137 = P_cpR := pe137_9 hp
  have e138 : PT 138 = P_cpA := pe138_9 hp
  simp only [hF2, hF3, hF6, hF16, hFp_137, hFp_138, e137, e138, P_cpR, P_cpA, den_s, den_c, Int.add_zero, List.map_cons, List.map_nil, g13.eq, g14.eq, g15.eq, g16.eq, g17.eq, g18.eq, g19.eq, g20.eq, g21.eq, h30, h31, h32, h33, h35] at f0 f1 f2 f3 f4 f5 f6 ⊢
  clear g13 g14 g15 g16 g17 g18 g19 g20 g21 h30 h31 h32 h33 h35 e137 e138 tt
  subst f0
  subst f1
  subst f2
  have hR := f4
  obtain ⟨c1, c2, c3, c4, c5, c6, c7, c8, c9, c10, c11, c12, c13, c14⟩ := hR
  have hA := f5
  try simp (disch := omega) only [mAdd_in] at *
  first
    | omega
    | exact ⟨c1, c2, c3, c4, c5, c6, c7, c8, c9, c10, c11, c12, c13, c14⟩
    | rfl
    | (intro q h1 h2; exact hA q h1 (by omega))
    | (intro q h1 h2; by_cases z : q = r18; (rw [z, updI_at]); (rw [updI_ne z]; exact hA q h1 (by omega))))
def w_yo_copy_1_5 : VC := ((bY ++ [(0, 3), (0, 2147483647), (0, 3), (0, 2147483647), (1, 2147483647), (0, 60), (0, 180), ((-2147483648), 2147483647), (0, 239), ((-2147483648), 2147483647)]), [(20, [(some 22, 0), (some 21, 0)], [33]), (16, [(some 21, 0), (some 20, 0), (some 18, 0)], []), (16, [(some 20, 0), (some 19, 0), (some 14, 0)], []), (6, [(some 19, 0), (none, 60), (some 13, 0)], []), (2, [(some 18, 0), (some 17, 0)], []), (137, [(some 13, 0), (some 14, 0), (some 15, 0), (some 16, 0), (some 17, 0)], [30, 31, 32]), (138, [(some 18, 0), (some 13, 0), (some 14, 0)], [33, 35]), (3, [(some 17, 0), (some 18, 0)], [])], (3, [(some 18, 0), (none, 0)], []))
set_option maxRecDepth 20000 in
theorem v_yo_copy_1_5 {PT : PTy} (hp : HP9 PT) : vcOk PT w_yo_copy_1_5 := vc_iv [(13, 0, 3), (14, 0, 2147483647), (15, 0, 3), (16, 0, 2147483647), (17, 1, 2147483647), (18, 0, 60), (19, 0, 180), (20, (-2147483648), 2147483647), (21, 0, 239), (22, (-2147483648), 2147483647)] [30, 31, 32, 33, 35] (by decide +kernel) (fun ρ α => by
  intro r13 g13 b13 r14 g14 b14 r15 g15 b15 r16 g16 b16 r17 g17 b17 r18 g18 b18 r19 g19 b19 r20 g20 b20 r21 g21 b21 r22 g22 b22 a30 h30 a31 h31 a32 h32 a33 h33 a35 h35 f0 f1 f2 f3 f4 f5 f6 f7 tt
  have e137 : PT 137 = P_cpR := pe137_9 hp
  have e138 : PT 138 = P_cpA := pe138_9 hp
  simp only [hF2, hF3, hF6, hF16, hF20, hFp_137, hFp_138, e137, e138, P_cpR, P_cpA, den_s, den_c, Int.add_zero, List.map_cons, List.map_nil, g13.eq, g14.eq, g15.eq, g16.eq, g17.eq, g18.eq, g19.eq, g20.eq, g21.eq, g22.eq, h30, h31, h32, h33, h35] at f0 f1 f2 f3 f4 f5 f6 f7 ⊢
  clear g13 g14 g15 g16 g17 g18 g19 g20 g21 g22 h30 h31 h32 h33 h35 e137 e138 tt
  subst f0
  subst f1
  subst f2
  subst f3
  have hR := f5
  obtain ⟨c1, c2, c3, c4, c5, c6, c7, c8, c9, c10, c11, c12, c13, c14⟩ := hR
  have hA := f6
  try simp (disch := omega) only [mAdd_in] at *
  first
    | omega
    | exact ⟨c1, c2, c3, c4, c5, c6, c7, c8, c9, c10, c11, c12, c13, c14⟩
    | rfl
    | (intro q h1 h2; exact hA q h1 (by omega))
    | (intro q h1 h2; by_cases z : q = r18; (rw [z, updI_at]); (rw [updI_ne z]; exact hA q h1 (by omega))))
def w_yo_copy_1_6 : VC := ((bY ++ [(0, 3), (0, 2147483647), (0, 3), (0, 2147483647), (1, 2147483647), (0, 60), (0, 180), ((-2147483648), 2147483647), (0, 239), ((-2147483648), 2147483647)]), [(20, [(some 22, 0), (some 21, 0)], [33]), (16, [(some 21, 0), (some 20, 0), (some 18, 0)], []), (16, [(some 20, 0), (some 19, 0), (some 14, 0)], []), (6, [(some 19, 0), (none, 60), (some 13, 0)], []), (2, [(some 18, 0), (some 17, 0)], []), (137, [(some 13, 0), (some 14, 0), (some 15, 0), (some 16, 0), (some 17, 0)], [30, 31, 32]), (138, [(some 18, 0), (some 13, 0), (some 14, 0)], [33, 35]), (3, [(some 17, 0), (some 18, 0)], [])], (3, [(none, 59), (some 18, 0)], []))
set_option maxRecDepth 20000 in
theorem v_yo_copy_1_6 {PT : PTy} (hp : HP9 PT) : vcOk PT w_yo_copy_1_6 := vc_iv [(13, 0, 3), (14, 0, 2147483647), (15, 0, 3), (16, 0, 2147483647), (17, 1, 2147483647), (18, 0, 60), (19, 0, 180), (20, (-2147483648), 2147483647), (21, 0, 239), (22, (-2147483648), 2147483647)] [30, 31, 32, 33, 35] (by decide +kernel) (fun ρ α => by
  intro r13 g13 b13 r14 g14 b14 r15 g15 b15 r16 g16 b16 r17 g17 b17 r18 g18 b18 r19 g19 b19 r20 g20 b20 r21 g21 b21 r22 g22 b22 a30 h30 a31 h31 a32 h32 a33 h33 a35 h35 f0 f1 f2 f3 f4 f5 f6 f7 tt
  have e137 : PT 137 = P_cpR := pe137_9 hp
  have e138 : PT 138 = P_cpA := pe138_9 hp
  simp only [hF2, hF3, hF6, hF16, hF20, hFp_137, hFp_138, e137, e138, P_cpR, P_cpA, den_s, den_c, Int.add_zero, List.map_cons, List.map_nil, g13.eq, g14.eq, g15.eq, g16.eq, g17.eq, g18.eq, g19.eq, g20.eq, g21.eq, g22.eq, h30, h31, h32, h33, h35] at f0 f1 f2 f3 f4 f5 f6 f7 ⊢
  clear g13 g14 g15 g16 g17 g18 g19 g20 g21 g22 h30 h31 h32 h33 h35 e137 e138 tt
  subst f0
  subst f1
  subst f2
  subst f3
  have hR := f5
  obtain ⟨c1, c2, c3, c4, c5, c6, c7, c8, c9, c10, c11, c12, c13, c14⟩ := hR
  have hA := f6
  try simp (disch := omega) only [mAdd_in] at *
  first
    | omega
    | exact ⟨c1, c2, c3, c4, c5, c6, c7, c8, c9, c10, c11, c12, c13, c14⟩
    | rfl
    | (intro q h1 h2; exact hA q h1 (by omega))
    | (intro q h1 h2; by_cases z : q = r18; (rw [z, updI_at]); (rw [updI_ne z]; exact hA q h1 (by omega))))
def w_yo_copy_1_7 : VC := ((bY ++ [(0, 3), (0, 2147483647), (0, 3), (0, 2147483647), (1, 2147483647), (0, 59), (0, 180), ((-2147483648), 2147483647), (0, 239), ((-2147483648), 2147483647)]), [(21, [(some 18, 0), (some 22, 0)], [36, 35]), (20, [(some 22, 0), (some 21, 0)], [33]), (16, [(some 21, 0), (some 20, 0), (some 18, 0)], []), (16, [(some 20, 0), (some 19, 0), (some 14, 0)], []), (6, [(some 19, 0), (none, 60), (some 13, 0)], []), (2, [(some 18, 0), (some 17, 0)], []), (137, [(some 13, 0), (some 14, 0), (some 15, 0), (some 16, 0), (some 17, 0)], [30, 31, 32]), (138, [(some 18, 0), (some 13, 0), (some 14, 0)], [33, 35]), (3, [(some 17, 0), (some 18, 0)], [])], (138, [(some 18, 1), (some 13, 0), (some 14, 0)], [33, 36]))
set_option maxRecDepth 20000 in
theorem v_yo_copy_1_7 {PT : PTy} (hp : HP9 PT) : vcOk PT w_yo_copy_1_7 := vc_iv [(13, 0, 3), (14, 0, 2147483647), (15, 0, 3), (16, 0, 2147483647), (17, 1, 2147483647), (18, 0, 59), (19, 0, 180), (20, (-2147483648), 2147483647), (21, 0, 239), (22, (-2147483648), 2147483647)] [30, 31, 32, 33, 35, 36] (by decide +kernel) (fun ρ α => by
  intro r13 g13 b13 r14 g14 b14 r15 g15 b15 r16 g16 b16 r17 g17 b17 r18 g18 b18 r19 g19 b19 r20 g20 b20 r21 g21 b21 r22 g22 b22 a30 h30 a31 h31 a32 h32 a33 h33 a35 h35 a36 h36 f0 f1 f2 f3 f4 f5 f6 f7 f8 tt
  have e137 : PT 137 = P_cpR := pe137_9 hp
  have e138 : PT 138 = P_cpA := pe138_9 hp
  simp only [hF2, hF3, hF6, hF16, hF20, hF21, hFp_137, hFp_138, e137, e138, P_cpR, P_cpA, den_s, den_c, Int.add_zero, List.map_cons, List.map_nil, g13.eq, g14.eq, g15.eq, g16.eq, g17.eq, g18.eq, g19.eq, g20.eq, g21.eq, g22.eq, h30, h31, h32, h33, h35, h36] at f0 f1 f2 f3 f4 f5 f6 f7 f8 ⊢
  clear g13 g14 g15 g16 g17 g18 g19 g20 g21 g22 h30 h31 h32 h33 h35 h36 e137 e138 tt
  subst f0
  subst f1
  subst f2
  subst f3
  subst f4
  have hR := f6
  obtain ⟨c1, c2, c3, c4, c5, c6, c7, c8, c9, c10, c11, c12, c13, c14⟩ := hR
  have hA := f7
  try simp (disch := omega) only [mAdd_in] at *
  first
    | omega
    | exact ⟨c1, c2, c3, c4, c5, c6, c7, c8, c9, c10, c11, c12, c13, c14⟩
    | rfl
    | (intro q h1 h2; exact hA q h1 (by omega))
    | (intro q h1 h2; by_cases z : q = r18; (rw [z, updI_at]); (rw [updI_ne z]; exact hA q h1 (by omega))))
def w_yo_copy_1_8 : VC := ((bY ++ [(0, 3), (0, 2147483647), (0, 3), (0, 2147483647), (1, 2147483647), (0, 59), (0, 180), ((-2147483648), 2147483647), (0, 239), ((-2147483648), 2147483647)]), [(21, [(some 18, 0), (some 22, 0)], [36, 35]), (20, [(some 22, 0), (some 21, 0)], [33]), (16, [(some 21, 0), (some 20, 0), (some 18, 0)], []), (16, [(some 20, 0), (some 19, 0), (some 14, 0)], []), (6, [(some 19, 0), (none, 60), (some 13, 0)], []), (2, [(some 18, 0), (some 17, 0)], []), (137, [(some 13, 0), (some 14, 0), (some 15, 0), (some 16, 0), (some 17, 0)], [30, 31, 32]), (138, [(some 18, 0), (some 13, 0), (some 14, 0)], [33, 35]), (3, [(some 17, 0), (some 18, 0)], [])], (3, [(some 17, 0), (some 18, 1)], []))
set_option maxRecDepth 20000 in
theorem v_yo_copy_1_8 {PT : PTy} (hp : HP9 PT) : vcOk PT w_yo_copy_1_8 := vc_iv [(13, 0, 3), (14, 0, 2147483647), (15, 0, 3), (16, 0, 2147483647), (17, 1, 2147483647), (18, 0, 59), (19, 0, 180), (20, (-2147483648), 2147483647), (21, 0, 239), (22, (-2147483648), 2147483647)] [30, 31, 32, 33, 35, 36] (by decide +kernel) (fun ρ α => by
  intro r13 g13 b13 r14 g14 b14 r15 g15 b15 r16 g16 b16 r17 g17 b17 r18 g18 b18 r19 g19 b19 r20 g20 b20 r21 g21 b21 r22 g22 b22 a30 h30 a31 h31 a32 h32 a33 h33 a35 h35 a36 h36 f0 f1 f2 f3 f4 f5 f6 f7 f8 tt
  have e137 : PT 137 = P_cpR := pe137_9 hp
  have e138 : PT 138 = P_cpA := pe138_9 hp
  simp only [hF2, hF3, hF6, hF16, hF20, hF21, hFp_137, hFp_138, e137, e138, P_cpR, P_cpA, den_s, den_c, Int.add_zero, List.map_cons, List.map_nil, g13.eq, g14.eq, g15.eq, g16.eq, g17.eq, g18.eq, g19.eq, g20.eq, g21.eq, g22.eq, h30, h31, h32, h33, h35, h36] at f0 f1 f2 f3 f4 f5 f6 f7 f8 ⊢
  clear g13 g14 g15 g16 g17 g18 g19 g20 g21 g22 h30 h31 h32 h33 h35 h36 e137 e138 tt
  subst f0
  subst f1
  subst f2
  subst f3
  subst f4
  have hR := f6
  obtain ⟨c1, c2, c3, c4, c5, c6, c7, c8, c9, c10, c11, c12, c13, c14⟩ := hR
  have hA := f7
  try simp (disch := omega) only [mAdd_in] at *
  first
    | omega
    | exact ⟨c1, c2, c3, c4, c5, c6, c7, c8, c9, c10, c11, c12, c13, c14⟩
    | rfl
    | (intro q h1 h2; exact hA q h1 (by omega))
    | (intro q h1 h2; by_cases z : q = r18; (rw [z, updI_at]); (rw [updI_ne z]; exact hA q h1 (by omega))))
def w_yo_copy_2_0 : VC := ((bY ++ [(0, 3), (0, 2147483647), (0, 3), (0, 2147483647), (0, 60), (0, 60)]), [(3, [(some 18, 0), (some 17, 0)], []), (137, [(some 13, 0), (some 14, 0), (some 15, 0), (some 16, 0), (some 17, 0)], [30, 31, 32]), (138, [(some 17, 0), (some 13, 0), (some 14, 0)], [33, 36]), (139, [(some 18, 0), (some 15, 0), (some 16, 0)], [33, 36, 35]), (3, [(some 17, 0), (some 18, 0)], [])], (136, [(none, 1), (some 13, 0), (some 14, 0), (some 15, 0), (some 16, 0), (some 17, 0), (some 12, 0), (some 12, 0)], [30, 31, 32, 33, 35]))
set_option maxRecDepth 20000 in
theorem v_yo_copy_2_0 {PT : PTy} (hp : HP9 PT) : vcOk PT w_yo_copy_2_0 := vc_iv [(12, 0, 5), (13, 0, 3), (14, 0, 2147483647), (15, 0, 3), (16, 0, 2147483647), (17, 0, 60), (18, 0, 60)] [30, 31, 32, 33, 35, 36] (by decide +kernel) (fun ρ α => by
  intro r12 g12 b12 r13 g13 b13 r14 g14 b14 r15 g15 b15 r16 g16 b16 r17 g17 b17 r18 g18 b18 a30 h30 a31 h31 a32 h32 a33 h33 a35 h35 a36 h36 f0 f1 f2 f3 f4 tt
  have e136 : PT 136 = P_cpY := pe136_9 hp
  have e137 : PT 137 = P_cpR := pe137_9 hp
  have e138 : PT 138 = P_cpA := pe138_9 hp
  have e139 : PT 139 = P_cpB := pe139_9 hp
  simp only [hF3, hFp_136, hFp_137, hFp_138, hFp_139, e136, e137, e138, e139, P_cpY, P_cpR, P_cpA, P_cpB, den_s, den_c, Int.add_zero, List.map_cons, List.map_nil, g12.eq, g13.eq, g14.eq, g15.eq, g16.eq, g17.eq, g18.eq, h30, h31, h32, h33, h35, h36] at f0 f1 f2 f3 f4 ⊢
  clear g12 g13 g14 g15 g16 g17 g18 h30 h31 h32 h33 h35 h36 e136 e137 e138 e139 tt
  have hR := f1
  obtain ⟨c1, c2, c3, c4, c5, c6, c7, c8, c9, c10, c11, c12, c13, c14⟩ := hR
  have hA := f2
  have hB := f3
  try simp (disch := omega) only [mAdd_in] at *
  first
    | omega
    | exact ⟨c1, c2, c3, c4, c5, c6, c7, c8, c9, c10, c11, c12, c13, c14⟩
    | (rw [upF_s (by omega), ← hB])
    | (rw [show r18 = r17 by omega] at hB; rw [upF_cg (fun k h1 h2 => hA k h1 (by omega))] at hB; subst hB; ((repeat' (first | apply And.intro | intro h)) <;> first | omega | rfl | trivial | (exfalso; omega) | (congr 1; omega) | (congr 1; (repeat' split) <;> first | rfl | (exfalso; omega)))))
def w_yo_copy_2_1 : VC := ((bY ++ [(0, 3), (0, 2147483647), (0, 3), (0, 2147483647), (1, 60), (0, 59), (0, 180), ((-2147483648), 2147483647), ((-2147483648), 2147483647), ((-2147483648), 2147483647)]), [(20, [(some 22, 0), (some 18, 0)], [36]), (16, [(some 21, 0), (some 20, 0), (some 18, 0)], []), (16, [(some 20, 0), (some 19, 0), (some 16, 0)], []), (6, [(some 19, 0), (none, 60), (some 15, 0)], []), (2, [(some 18, 0), (some 17, 0)], []), (137, [(some 13, 0), (some 14, 0), (some 15, 0), (some 16, 0), (some 17, 0)], [30, 31, 32]), (138, [(some 17, 0), (some 13, 0), (some 14, 0)], [33, 36]), (139, [(some 18, 0), (some 15, 0), (some 16, 0)], [33, 36, 35]), (3, [(some 17, 0), (some 18, 0)], [])], (3, [(some 21, 0), (none, 0)], []))
set_option maxRecDepth 20000 in
theorem v_yo_copy_2_1 {PT : PTy} (hp : HP9 PT) : vcOk PT w_yo_copy_2_1 := vc_iv [(13, 0, 3), (14, 0, 2147483647), (15, 0, 3), (16, 0, 2147483647), (17, 1, 60), (18, 0, 59), (19, 0, 180), (20, (-2147483648), 2147483647), (21, (-2147483648), 2147483647), (22, (-2147483648), 2147483647)] [30, 31, 32, 33, 35, 36] (by decide +kernel) (fun ρ α => by
  intro r13 g13 b13 r14 g14 b14 r15 g15 b15 r16 g16 b16 r17 g17 b17 r18 g18 b18 r19 g19 b19 r20 g20 b20 r21 g21 b21 r22 g22 b22 a30 h30 a31 h31 a32 h32 a33 h33 a35 h35 a36 h36 f0 f1 f2 f3 f4 f5 f6 f7 f8 tt
  have e137 : PT 137 = P_cpR := pe137_9 hp
  have e138 : PT 138 = P_cpA := pe138_9 hp
  have e139 : PT 139 = P_cpB := pe139_9 hp
  simp only [hF2, hF3, hF6, hF16, hF20, hFp_137, hFp_138, hFp_139, e137, e138, e139, P_cpR, P_cpA, P_cpB, den_s, den_c, Int.add_zero, List.map_cons, List.map_nil, g13.eq, g14.eq, g15.eq, g16.eq, g17.eq, g18.eq, g19.eq, g20.eq, g21.eq, g22.eq, h30, h31, h32, h33, h35, h36] at f0 f1 f2 f3 f4 f5 f6 f7 f8 ⊢
  clear g13 g14 g15 g16 g17 g18 g19 g20 g21 g22 h30 h31 h32 h33 h35 h36 e137 e138 e139 tt
  subst f0
  subst f1
  subst f2
  subst f3
  have hR := f5
  obtain ⟨c1, c2, c3, c4, c5, c6, c7, c8, c9, c10, c11, c12, c13, c14⟩ := hR
  have hA := f6
  have hB := f7
  try simp (disch := omega) only [mAdd_in] at *
  first
    | omega
    | exact ⟨c1, c2, c3, c4, c5, c6, c7, c8, c9, c10, c11, c12, c13, c14⟩
    | (rw [upF_s (by omega), ← hB])
    | (rw [show r18 = r17 by omega] at hB; rw [upF_cg (fun k h1 h2 => hA k h1 (by omega))] at hB; subst hB; ((repeat' (first | apply And.intro | intro h)) <;> first | omega | rfl | trivial | (exfalso; omega) | (congr 1; omega) | (congr 1; (repeat' split) <;> first | rfl | (exfalso; omega)))))
def w_yo_copy_2_2 : VC := ((bY ++ [(0, 3), (0, 2147483647), (0, 3), (0, 2147483647), (1, 60), (0, 59), (0, 180), ((-2147483648), 2147483647), ((-2147483648), 2147483647), ((-2147483648), 2147483647)]), [(20, [(some 22, 0), (some 18, 0)], [36]), (16, [(some 21, 0), (some 20, 0), (some 18, 0)], []), (16, [(some 20, 0), (some 19, 0), (some 16, 0)], []), (6, [(some 19, 0), (none, 60), (some 15, 0)], []), (2, [(some 18, 0), (some 17, 0)], []), (137, [(some 13, 0), (some 14, 0), (some 15, 0), (some 16, 0), (some 17, 0)], [30, 31, 32]), (138, [(some 17, 0), (some 13, 0), (some 14, 0)], [33, 36]), (139, [(some 18, 0), (some 15, 0), (some 16, 0)], [33, 36, 35]), (3, [(some 17, 0), (some 18, 0)], [])], (3, [(none, 239), (some 21, 0)], []))
set_option maxRecDepth 20000 in
theorem v_yo_copy_2_2 {PT : PTy} (hp : HP9 PT) : vcOk PT w_yo_copy_2_2 := vc_iv [(13, 0, 3), (14, 0, 2147483647), (15, 0, 3), (16, 0, 2147483647), (17, 1, 60), (18, 0, 59), (19, 0, 180), (20, (-2147483648), 2147483647), (21, (-2147483648), 2147483647), (22, (-2147483648), 2147483647)] [30, 31, 32, 33, 35, 36] (by decide +kernel) (fun ρ α => by
  intro r13 g13 b13 r14 g14 b14 r15 g15 b15 r16 g16 b16 r17 g17 b17 r18 g18 b18 r19 g19 b19 r20 g20 b20 r21 g21 b21 r22 g22 b22 a30 h30 a31 h31 a32 h32 a33 h33 a35 h35 a36 h36 f0 f1 f2 f3 f4 f5 f6 f7 f8 tt
  have e137 : PT 137 = P_cpR := pe137_9 hp
  have e138 : PT 138 = P_cpA := pe138_9 hp
  have e139 : PT 139 = P_cpB := pe139_9 hp
  simp only [hF2, hF3, hF6, hF16, hF20, hFp_137, hFp_138, hFp_139, e137, e138, e139, P_cpR, P_cpA, P_cpB, den_s, den_c, Int.add_zero, List.map_cons, List.map_nil, g13.eq, g14.eq, g15.eq, g16.eq, g17.eq, g18.eq, g19.eq, g20.eq, g21.eq, g22.eq, h30, h31, h32, h33, h35, h36] at f0 f1 f2 f3 f4 f5 f6 f7 f8 ⊢
  clear g13 g14 g15 g16 g17 g18 g19 g20 g21 g22 h30 h31 h32 h33 h35 h36 e137 e138 e139 tt
  subst f0
  subst f1
  subst f2
  subst f3
  have hR := f5
  obtain ⟨c1, c2, c3, c4, c5, c6, c7, c8, c9, c10, c11, c12, c13, c14⟩ := hR
  have hA := f6
  have hB := f7
  try simp (disch := omega) only [mAdd_in] at *
  first
    | omega
    | exact ⟨c1, c2, c3, c4, c5, c6, c7, c8, c9, c10, c11, c12, c13, c14⟩
    | (rw [upF_s (by omega), ← hB])
    | (rw [show r18 = r17 by omega] at hB; rw [upF_cg (fun k h1 h2 => hA k h1 (by omega))] at hB; subst hB; ((repeat' (first | apply And.intro | intro h)) <;> first | omega | rfl | trivial | (exfalso; omega) | (congr 1; omega) | (congr 1; (repeat' split) <;> first | rfl | (exfalso; omega)))))
def w_yo_copy_2_3 : VC := ((bY ++ [(0, 3), (0, 2147483647), (0, 3), (0, 2147483647), (1, 60), (0, 59), (0, 180), ((-2147483648), 2147483647), (0, 239), ((-2147483648), 2147483647)]), [(21, [(some 21, 0), (some 22, 0)], [37, 35]), (20, [(some 22, 0), (some 18, 0)], [36]), (16, [(some 21, 0), (some 20, 0), (some 18, 0)], []), (16, [(some 20, 0), (some 19, 0), (some 16, 0)], []), (6, [(some 19, 0), (none, 60), (some 15, 0)], []), (2, [(some 18, 0), (some 17, 0)], []), (137, [(some 13, 0), (some 14, 0), (some 15, 0), (some 16, 0), (some 17, 0)], [30, 31, 32]), (138, [(some 17, 0), (some 13, 0), (some 14, 0)], [33, 36]), (139, [(some 18, 0), (some 15, 0), (some 16, 0)], [33, 36, 35]), (3, [(some 17, 0), (some 18, 0)], [])], (139, [(some 18, 1), (some 15, 0), (some 16, 0)], [33, 36, 37]))
set_option maxRecDepth 20000 in
theorem v_yo_copy_2_3 {PT : PTy} (hp : HP9 PT) : vcOk PT w_yo_copy_2_3 := vc_iv [(13, 0, 3), (14, 0, 2147483647), (15, 0, 3), (16, 0, 2147483647), (17, 1, 60), (18, 0, 59), (19, 0, 180), (20, (-2147483648), 2147483647), (21, 0, 239), (22, (-2147483648), 2147483647)] [30, 31, 32, 33, 35, 36, 37] (by decide +kernel) (fun ρ α => by
  intro r13 g13 b13 r14 g14 b14 r15 g15 b15 r16 g16 b16 r17 g17 b17 r18 g18 b18 r19 g19 b19 r20 g20 b20 r21 g21 b21 r22 g22 b22 a30 h30 a31 h31 a32 h32 a33 h33 a35 h35 a36 h36 a37 h37 f0 f1 f2 f3 f4 f5 f6 f7 f8 f9 tt
  have e137 : PT 137 = P_cpR := pe137_9 hp
  have e138 : PT 138 = P_cpA := pe138_9 hp
  have e139 : PT 139 = P_cpB := pe139_9 hp
  simp only [hF2, hF3, hF6, hF16, hF20, hF21, hFp_137, hFp_138, hFp_139, e137, e138, e139, P_cpR, P_cpA, P_cpB, den_s, den_c, Int.add_zero, List.map_cons, List.map_nil, g13.eq, g14.eq, g15.eq, g16.eq, g17.eq, g18.eq, g19.eq, g20.eq, g21.eq, g22.eq, h30, h31, h32, h33, h35, h36, h37] at f0 f1 f2 f3 f4 f5 f6 f7 f8 f9 ⊢
  clear g13 g14 g15 g16 g17 g18 g19 g20 g21 g22 h30 h31 h32 h33 h35 h36 h37 e137 e138 e139 tt
  subst f0
  subst f1
  subst f2
  subst f3
  subst f4
  have hR := f6
  obtain ⟨c1, c2, c3, c4, c5, c6, c7, c8, c9, c10, c11, c12, c13, c14⟩ := hR
  have hA := f7
  have hB := f8
  try simp (disch := omega) only [mAdd_in] at *
  first
    | omega
    | exact ⟨c1, c2, c3, c4, c5, c6, c7, c8, c9, c10, c11, c12, c13, c14⟩
    | (rw [upF_s (by omega), ← hB])
    | (rw [show r18 = r17 by omega] at hB; rw [upF_cg (fun k h1 h2 => hA k h1 (by omega))] at hB; subst hB; ((repeat' (first | apply And.intro | intro h)) <;> first | omega | rfl | trivial | (exfalso; omega) | (congr 1; omega) | (congr 1; (repeat' split) <;> first | rfl | (exfalso; omega)))))
def w_yo_copy_2_4 : VC := ((bY ++ [(0, 3), (0, 2147483647), (0, 3), (0, 2147483647), (1, 60), (0, 59), (0, 180), ((-2147483648), 2147483647), (0, 239), ((-2147483648), 2147483647)]), [(21, [(some 21, 0), (some 22, 0)], [37, 35]), (20, [(some 22, 0), (some 18, 0)], [36]), (16, [(some 21, 0), (some 20, 0), (some 18, 0)], []), (16, [(some 20, 0), (some 19, 0), (some 16, 0)], []), (6, [(some 19, 0), (none, 60), (some 15, 0)], []), (2, [(some 18, 0), (some 17, 0)], []), (137, [(some 13, 0), (some 14, 0), (some 15, 0), (some 16, 0), (some 17, 0)], [30, 31, 32]), (138, [(some 17, 0), (some 13, 0), (some 14, 0)], [33, 36]), (139, [(some 18, 0), (some 15, 0), (some 16, 0)], [33, 36, 35]), (3, [(some 17, 0), (some 18, 0)], [])], (3, [(some 17, 0), (some 18, 1)], []))
set_option maxRecDepth 20000 in
theorem v_yo_copy_2_4 {PT : PTy} (hp : HP9 PT) : vcOk PT w_yo_copy_2_4 := vc_iv [(13, 0, 3), (14, 0, 2147483647), (15, 0, 3), (16, 0, 2147483647), (17, 1, 60), (18, 0, 59), (19, 0, 180), (20, (-2147483648), 2147483647), (21, 0, 239), (22, (-2147483648), 2147483647)] [30, 31, 32, 33, 35, 36, 37] (by decide +kernel) (fun ρ α => by
  intro r13 g13 b13 r14 g14 b14 r15 g15 b15 r16 g16 b16 r17 g17 b17 r18 g18 b18 r19 g19 b19 r20 g20 b20 r21 g21 b21 r22 g22 b22 a30 h30 a31 h31 a32 h32 a33 h33 a35 h35 a36 h36 a37 h37 f0 f1 f2 f3 f4 f5 f6 f7 f8 f9 tt
  have e137 : PT 137 = P_cpR := pe137_9 hp
  have e138 : PT 138 = P_cpA := pe138_9 hp
  have e139 : PT 139 = P_cpB := pe139_9 hp
  simp only [hF2, hF3, hF6, hF16, hF20, hF21, hFp_137, hFp_138, hFp_139, e137, e138, e139, P_cpR, P_cpA, P_cpB, den_s, den_c, Int.add_zero, List.map_cons, List.map_nil, g13.eq, g14.eq, g15.eq, g16.eq, g17.eq, g18.eq, g19.eq, g20.eq, g21.eq, g22.eq, h30, h31, h32, h33, h35, h36, h37] at f0 f1 f2 f3 f4 f5 f6 f7 f8 f9 ⊢
  clear g13 g14 g15 g16 g17 g18 g19 g20 g21 g22 h30 h31 h32 h33 h35 h36 h37 e137 e138 e139 tt
  subst f0
  subst f1
  subst f2
  subst f3
  subst f4
  have hR := f6
  obtain ⟨c1, c2, c3, c4, c5, c6, c7, c8, c9, c10, c11, c12, c13, c14⟩ := hR
  have hA := f7
  have hB := f8
  try simp (disch := omega) only [mAdd_in] at *
  first
    | omega
    | exact ⟨c1, c2, c3, c4, c5, c6, c7, c8, c9, c10, c11, c12, c13, c14⟩
    | (rw [upF_s (by omega), ← hB])
    | (rw [show r18 = r17 by omega] at hB; rw [upF_cg (fun k h1 h2 => hA k h1 (by omega))] at hB; subst hB; ((repeat' (first | apply And.intro | intro h)) <;> first | omega | rfl | trivial | (exfalso; omega) | (congr 1; omega) | (congr 1; (repeat' split) <;> first | rfl | (exfalso; omega)))))
set_option maxRecDepth 1000000 in
theorem k_yo_copy {PT : PTy} (hp : HP9 PT) : wfX c_yo_copy = true ∧ xcOk PT c_yo_copy := xctr (xl0) c_yo_copy 114 mX7_copy rfl h_yo_copy (by decide +kernel) (by decide +kernel) (by decide) (vcs_by [w_yo_copy_0_0, w_yo_copy_0_1, w_yo_copy_0_2, w_yo_copy_0_3, w_yo_copy_0_4, w_yo_copy_0_5, w_yo_copy_0_6, w_yo_copy_0_7, w_yo_copy_0_8, w_yo_copy_0_9, w_yo_copy_0_10, w_yo_copy_0_11, w_yo_copy_0_12, w_yo_copy_0_13] (by decide +kernel) (vc (v_yo_copy_0_0 hp) (vc (v_yo_copy_0_1 hp) (vc (v_yo_copy_0_2 hp) (vc (v_yo_copy_0_3 hp) (vc (v_yo_copy_0_4 hp) (vc (v_yo_copy_0_5 hp) (vc (v_yo_copy_0_6 hp) (vc (v_yo_copy_0_7 hp) (vc (v_yo_copy_0_8 hp) (vc (v_yo_copy_0_9 hp) (vc (v_yo_copy_0_10 hp) (vc (v_yo_copy_0_11 hp) (vc (v_yo_copy_0_12 hp) (vc (v_yo_copy_0_13 hp) vn))))))))))))))) (fmc (vcs_by [w_yo_copy_1_0, w_yo_copy_1_1, w_yo_copy_1_2, w_yo_copy_1_3, w_yo_copy_1_4, w_yo_copy_1_5, w_yo_copy_1_6, w_yo_copy_1_7, w_yo_copy_1_8] (by decide +kernel) (vc (v_yo_copy_1_0 hp) (vc (v_yo_copy_1_1 hp) (vc (v_yo_copy_1_2 hp) (vc (v_yo_copy_1_3 hp) (vc (v_yo_copy_1_4 hp) (vc (v_yo_copy_1_5 hp) (vc (v_yo_copy_1_6 hp) (vc (v_yo_copy_1_7 hp) (vc (v_yo_copy_1_8 hp) vn)))))))))) (fmc (vcs_by [w_yo_copy_2_0, w_yo_copy_2_1, w_yo_copy_2_2, w_yo_copy_2_3, w_yo_copy_2_4] (by decide +kernel) (vc (v_yo_copy_2_0 hp) (vc (v_yo_copy_2_1 hp) (vc (v_yo_copy_2_2 hp) (vc (v_yo_copy_2_3 hp) (vc (v_yo_copy_2_4 hp) vn)))))) fmn))
