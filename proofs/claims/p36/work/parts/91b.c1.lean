/-! ===== the class: its texts; printed by wip/gen/x ===== -/
def P_allP (l : List Int) (a : List (Int → Int)) : Prop := match l, a with
  | [i], [A] => allG gP A i
  | _, _ => False
theorem hFp_64 {PT : PTy} {ρ : Nat → Int} {α : Nat → Int → Int} (l : List AN) (a : List Nat) : hF PT ρ α (64, l, a) = PT 64 (l.map (den ρ)) (a.map α) := rfl
def P_allV (l : List Int) (a : List (Int → Int)) : Prop := match l, a with
  | [i], [A] => allG gV A i
  | _, _ => False
theorem hFp_65 {PT : PTy} {ρ : Nat → Int} {α : Nat → Int → Int} (l : List AN) (a : List Nat) : hF PT ρ α (65, l, a) = PT 65 (l.map (den ρ)) (a.map α) := rfl
def P_ffP (l : List Int) (a : List (Int → Int)) : Prop := match l, a with
  | [r, L], [A] => ffP r L A
  | _, _ => False
theorem hFp_66 {PT : PTy} {ρ : Nat → Int} {α : Nat → Int → Int} (l : List AN) (a : List Nat) : hF PT ρ α (66, l, a) = PT 66 (l.map (den ρ)) (a.map α) := rfl
def P_ffV (l : List Int) (a : List (Int → Int)) : Prop := match l, a with
  | [r, L], [A] => ffV r L A
  | _, _ => False
theorem hFp_67 {PT : PTy} {ρ : Nat → Int} {α : Nat → Int → Int} (l : List AN) (a : List Nat) : hF PT ρ α (67, l, a) = PT 67 (l.map (den ρ)) (a.map α) := rfl
def P_nP (l : List Int) (a : List (Int → Int)) : Prop := match l, a with
  | [n, L], [A] => nP n L A
  | _, _ => False
theorem hFp_68 {PT : PTy} {ρ : Nat → Int} {α : Nat → Int → Int} (l : List AN) (a : List Nat) : hF PT ρ α (68, l, a) = PT 68 (l.map (den ρ)) (a.map α) := rfl
def P_nV (l : List Int) (a : List (Int → Int)) : Prop := match l, a with
  | [n, L], [A] => nV n L A
  | _, _ => False
theorem hFp_69 {PT : PTy} {ρ : Nat → Int} {α : Nat → Int → Int} (l : List AN) (a : List Nat) : hF PT ρ α (69, l, a) = PT 69 (l.map (den ρ)) (a.map α) := rfl
def P_tkP (l : List Int) (a : List (Int → Int)) : Prop := match l, a with
  | [n], [A, so, sz] => tkP n A so sz
  | _, _ => False
theorem hFp_70 {PT : PTy} {ρ : Nat → Int} {α : Nat → Int → Int} (l : List AN) (a : List Nat) : hF PT ρ α (70, l, a) = PT 70 (l.map (den ρ)) (a.map α) := rfl
def P_tkV (l : List Int) (a : List (Int → Int)) : Prop := match l, a with
  | [n], [A, wh, gr, md, du] => tkV n A wh gr md du
  | _, _ => False
theorem hFp_71 {PT : PTy} {ρ : Nat → Int} {α : Nat → Int → Int} (l : List AN) (a : List Nat) : hF PT ρ α (71, l, a) = PT 71 (l.map (den ρ)) (a.map α) := rfl
def HP1 (PT : PTy) : Prop := HP0 PT ∧ (PT 64 = P_allP ∧ PT 65 = P_allV ∧ PT 66 = P_ffP ∧ PT 67 = P_ffV ∧ PT 68 = P_nP ∧ PT 69 = P_nV ∧ PT 70 = P_tkP ∧ PT 71 = P_tkV ∧ True)
def c_FF_P : XC := (30, 1, (bX), [.inr (.inl 1)], (gX 999), [], [((bX ++ [((-1), 23)]), some (.inl (some 14, 0)), (gX 999), (List.range 58), 58, [(66, [(some 14, 0), (some 0, 0)], [2])])])
def h_FF_P : List XH := [(2, (bX ++ [(0, 23)]), [some (.inr (.inl 1)), some (.inl (some 14, 0)), none], (gX 999), (List.range 58), 58, [(64, [(some 14, 0)], [2])], [(true, (none, 1)), (true, (some 14, 0))])]
def w_FF_P_0_0 : VC := ((bX), [], (64, [(none, 0)], [2]))
set_option maxRecDepth 20000 in
theorem v_FF_P_0_0 {PT : PTy} (hp : HP1 PT) : vcOk PT w_FF_P_0_0 := vc_of (fun ρ α hB hF => by
  have e64 : PT 64 = P_allP := hp.2.1
  simp only [hFp_64, e64, P_allP, den_s, den_c, Int.add_zero, List.map_cons, List.map_nil] at ⊢
  exact allG_z)
def w_FF_P_1_0 : VC := (([(0, 0), (0, 49), (0, 8), (0, 11), (0, 9), (0, 6), (0, 6), (0, 8), (0, 9), (0, 49), (0, 49), ((-2147483648), 2147483647), ((-2147483648), 2147483647), (0, 5), (0, 23)]), [(1, [(none, 1), (none, 0)], []), (0, [(some 0, 0), (none, 0)], []), (3, [(some 14, 0), (some 0, 0)], []), (64, [(some 14, 0)], [2])], (66, [(none, (-1)), (some 0, 0)], [2]))
set_option maxRecDepth 20000 in
theorem v_FF_P_1_0 {PT : PTy} (hp : HP1 PT) : vcOk PT w_FF_P_1_0 := vc_of (fun ρ α hB hF => by
  obtain ⟨f0, f1, f2, f3, -⟩ := hF
  have e64 : PT 64 = P_allP := hp.2.1
  have e66 : PT 66 = P_ffP := hp.2.2.2.1
  simp only [hF0, hF1, hF3, hFp_64, hFp_66, e64, e66, P_allP, P_ffP, den_s, den_c, Int.add_zero, List.map_cons, List.map_nil] at f0 f1 f2 f3 ⊢
  have b0 : (0 : Int) ≤ ρ 0 ∧ ρ 0 ≤ 0 := hB 0 (0, 0) rfl
  have b14 : (0 : Int) ≤ ρ 14 ∧ ρ 14 ≤ 23 := hB 14 (0, 23) rfl
  first
    | exact allG_s f3 (by unfold gP; omega)
    | (unfold ffP; exact Or.inl ⟨rfl, fun j h1 h2 => f3 j h1 (by omega), by omega⟩)
    | (unfold ffP; exact Or.inr (Or.inr ⟨rfl, fun j h1 h2 => f3 j h1 (by omega), by omega⟩))
    | (unfold ffP; exact Or.inr (Or.inl ⟨by omega, by omega, f3, by unfold gP; omega⟩)))
def w_FF_P_1_1 : VC := (([(1, 23), (0, 49), (0, 8), (0, 11), (0, 9), (0, 6), (0, 6), (0, 8), (0, 9), (0, 49), (0, 49), ((-2147483648), 2147483647), ((-2147483648), 2147483647), (0, 5), (0, 23), (0, 1)]), [(0, [(none, 0), (none, 0)], []), (1, [(some 15, 0), (none, 2)], []), (8, [(some 15, 0), (some 0, 0), (none, 3)], []), (0, [(none, 0), (none, 0)], []), (1, [(some 0, 0), (none, 0)], []), (3, [(some 14, 0), (some 0, 0)], []), (64, [(some 14, 0)], [2])], (66, [(some 0, 0), (some 0, 0)], [2]))
set_option maxRecDepth 20000 in
theorem v_FF_P_1_1 {PT : PTy} (hp : HP1 PT) : vcOk PT w_FF_P_1_1 := vc_of (fun ρ α hB hF => by
  obtain ⟨f0, f1, f2, f3, f4, f5, f6, -⟩ := hF
  have e64 : PT 64 = P_allP := hp.2.1
  have e66 : PT 66 = P_ffP := hp.2.2.2.1
  simp only [hF0, hF1, hF3, hF8, hFp_64, hFp_66, e64, e66, P_allP, P_ffP, den_s, den_c, Int.add_zero, List.map_cons, List.map_nil] at f0 f1 f2 f3 f4 f5 f6 ⊢
  have b0 : (1 : Int) ≤ ρ 0 ∧ ρ 0 ≤ 23 := hB 0 (1, 23) rfl
  have b14 : (0 : Int) ≤ ρ 14 ∧ ρ 14 ≤ 23 := hB 14 (0, 23) rfl
  have b15 : (0 : Int) ≤ ρ 15 ∧ ρ 15 ≤ 1 := hB 15 (0, 1) rfl
  first
    | exact allG_s f6 (by unfold gP; omega)
    | (unfold ffP; exact Or.inl ⟨rfl, fun j h1 h2 => f6 j h1 (by omega), by omega⟩)
    | (unfold ffP; exact Or.inr (Or.inr ⟨rfl, fun j h1 h2 => f6 j h1 (by omega), by omega⟩))
    | (unfold ffP; exact Or.inr (Or.inl ⟨by omega, by omega, f6, by unfold gP; omega⟩)))
def w_FF_P_1_2 : VC := (([(1, 23), (0, 49), (0, 8), (0, 11), (0, 9), (0, 6), (0, 6), (0, 8), (0, 9), (0, 49), (0, 49), ((-2147483648), 2147483647), ((-2147483648), 2147483647), (0, 5), (0, 23), (2, 2)]), [(1, [(none, 1), (none, 0)], []), (0, [(some 15, 0), (none, 2)], []), (8, [(some 15, 0), (some 0, 0), (none, 3)], []), (0, [(none, 0), (none, 0)], []), (1, [(some 0, 0), (none, 0)], []), (3, [(some 14, 0), (some 0, 0)], []), (64, [(some 14, 0)], [2])], (66, [(none, (-1)), (some 0, 0)], [2]))
set_option maxRecDepth 20000 in
theorem v_FF_P_1_2 {PT : PTy} (hp : HP1 PT) : vcOk PT w_FF_P_1_2 := vc_of (fun ρ α hB hF => by
  obtain ⟨f0, f1, f2, f3, f4, f5, f6, -⟩ := hF
  have e64 : PT 64 = P_allP := hp.2.1
  have e66 : PT 66 = P_ffP := hp.2.2.2.1
  simp only [hF0, hF1, hF3, hF8, hFp_64, hFp_66, e64, e66, P_allP, P_ffP, den_s, den_c, Int.add_zero, List.map_cons, List.map_nil] at f0 f1 f2 f3 f4 f5 f6 ⊢
  have b0 : (1 : Int) ≤ ρ 0 ∧ ρ 0 ≤ 23 := hB 0 (1, 23) rfl
  have b14 : (0 : Int) ≤ ρ 14 ∧ ρ 14 ≤ 23 := hB 14 (0, 23) rfl
  have b15 : (2 : Int) ≤ ρ 15 ∧ ρ 15 ≤ 2 := hB 15 (2, 2) rfl
  first
    | exact allG_s f6 (by unfold gP; omega)
    | (unfold ffP; exact Or.inl ⟨rfl, fun j h1 h2 => f6 j h1 (by omega), by omega⟩)
    | (unfold ffP; exact Or.inr (Or.inr ⟨rfl, fun j h1 h2 => f6 j h1 (by omega), by omega⟩))
    | (unfold ffP; exact Or.inr (Or.inl ⟨by omega, by omega, f6, by unfold gP; omega⟩)))
def w_FF_P_1_3 : VC := (([(1, 23), (0, 49), (0, 8), (0, 11), (0, 9), (0, 6), (0, 6), (0, 8), (0, 9), (0, 49), (0, 49), ((-2147483648), 2147483647), ((-2147483648), 2147483647), (0, 5), (0, 22), (0, 255), (0, 2)]), [(0, [(none, 0), (none, 0)], []), (1, [(some 15, 0), (none, 59)], []), (1, [(some 16, 0), (none, 0)], []), (1, [(some 16, 0), (none, 1)], []), (8, [(some 16, 0), (some 14, 0), (none, 3)], []), (20, [(some 15, 0), (some 14, 0)], [2]), (0, [(none, 0), (none, 0)], []), (2, [(some 14, 0), (some 0, 0)], []), (64, [(some 14, 0)], [2])], (66, [(some 14, 0), (some 0, 0)], [2]))
set_option maxRecDepth 20000 in
theorem v_FF_P_1_3 {PT : PTy} (hp : HP1 PT) : vcOk PT w_FF_P_1_3 := vc_of (fun ρ α hB hF => by
  obtain ⟨f0, f1, f2, f3, f4, f5, f6, f7, f8, -⟩ := hF
  have e64 : PT 64 = P_allP := hp.2.1
  have e66 : PT 66 = P_ffP := hp.2.2.2.1
  simp only [hF0, hF1, hF2, hF8, hF20, hFp_64, hFp_66, e64, e66, P_allP, P_ffP, den_s, den_c, Int.add_zero, List.map_cons, List.map_nil] at f0 f1 f2 f3 f4 f5 f6 f7 f8 ⊢
  have b0 : (1 : Int) ≤ ρ 0 ∧ ρ 0 ≤ 23 := hB 0 (1, 23) rfl
  have b14 : (0 : Int) ≤ ρ 14 ∧ ρ 14 ≤ 22 := hB 14 (0, 22) rfl
  have b15 : (0 : Int) ≤ ρ 15 ∧ ρ 15 ≤ 255 := hB 15 (0, 255) rfl
  have b16 : (0 : Int) ≤ ρ 16 ∧ ρ 16 ≤ 2 := hB 16 (0, 2) rfl
  first
    | exact allG_s f8 (by unfold gP; omega)
    | (unfold ffP; exact Or.inl ⟨rfl, fun j h1 h2 => f8 j h1 (by omega), by omega⟩)
    | (unfold ffP; exact Or.inr (Or.inr ⟨rfl, fun j h1 h2 => f8 j h1 (by omega), by omega⟩))
    | (unfold ffP; exact Or.inr (Or.inl ⟨by omega, by omega, f8, by unfold gP; omega⟩)))
def w_FF_P_1_4 : VC := (([(1, 23), (0, 49), (0, 8), (0, 11), (0, 9), (0, 6), (0, 6), (0, 8), (0, 9), (0, 49), (0, 49), ((-2147483648), 2147483647), ((-2147483648), 2147483647), (0, 5), (0, 22), (59, 59), (0, 2)]), [(1, [(none, 1), (none, 0)], []), (0, [(some 15, 0), (none, 59)], []), (1, [(some 16, 0), (none, 0)], []), (1, [(some 16, 0), (none, 1)], []), (8, [(some 16, 0), (some 14, 0), (none, 3)], []), (20, [(some 15, 0), (some 14, 0)], [2]), (0, [(none, 0), (none, 0)], []), (2, [(some 14, 0), (some 0, 0)], []), (64, [(some 14, 0)], [2])], (64, [(some 14, 1)], [2]))
set_option maxRecDepth 20000 in
theorem v_FF_P_1_4 {PT : PTy} (hp : HP1 PT) : vcOk PT w_FF_P_1_4 := vc_of (fun ρ α hB hF => by
  obtain ⟨f0, f1, f2, f3, f4, f5, f6, f7, f8, -⟩ := hF
  have e64 : PT 64 = P_allP := hp.2.1
  simp only [hF0, hF1, hF2, hF8, hF20, hFp_64, e64, P_allP, den_s, den_c, Int.add_zero, List.map_cons, List.map_nil] at f0 f1 f2 f3 f4 f5 f6 f7 f8 ⊢
  have b0 : (1 : Int) ≤ ρ 0 ∧ ρ 0 ≤ 23 := hB 0 (1, 23) rfl
  have b14 : (0 : Int) ≤ ρ 14 ∧ ρ 14 ≤ 22 := hB 14 (0, 22) rfl
  have b15 : (59 : Int) ≤ ρ 15 ∧ ρ 15 ≤ 59 := hB 15 (59, 59) rfl
  have b16 : (0 : Int) ≤ ρ 16 ∧ ρ 16 ≤ 2 := hB 16 (0, 2) rfl
  first
    | exact allG_s f8 (by unfold gP; omega)
    | (unfold ffP; exact Or.inl ⟨rfl, fun j h1 h2 => f8 j h1 (by omega), by omega⟩)
    | (unfold ffP; exact Or.inr (Or.inr ⟨rfl, fun j h1 h2 => f8 j h1 (by omega), by omega⟩))
    | (unfold ffP; exact Or.inr (Or.inl ⟨by omega, by omega, f8, by unfold gP; omega⟩)))
def w_FF_P_1_5 : VC := (([(1, 23), (0, 49), (0, 8), (0, 11), (0, 9), (0, 6), (0, 6), (0, 8), (0, 9), (0, 49), (0, 49), ((-2147483648), 2147483647), ((-2147483648), 2147483647), (0, 5), (0, 22), (109, 109), (0, 0)]), [(1, [(none, 1), (none, 0)], []), (0, [(some 15, 0), (none, 109)], []), (0, [(some 16, 0), (none, 0)], []), (8, [(some 16, 0), (some 14, 0), (none, 3)], []), (20, [(some 15, 0), (some 14, 0)], [2]), (0, [(none, 0), (none, 0)], []), (2, [(some 14, 0), (some 0, 0)], []), (64, [(some 14, 0)], [2])], (64, [(some 14, 1)], [2]))
set_option maxRecDepth 20000 in
theorem v_FF_P_1_5 {PT : PTy} (hp : HP1 PT) : vcOk PT w_FF_P_1_5 := vc_of (fun ρ α hB hF => by
  obtain ⟨f0, f1, f2, f3, f4, f5, f6, f7, -⟩ := hF
  have e64 : PT 64 = P_allP := hp.2.1
  simp only [hF0, hF1, hF2, hF8, hF20, hFp_64, e64, P_allP, den_s, den_c, Int.add_zero, List.map_cons, List.map_nil] at f0 f1 f2 f3 f4 f5 f6 f7 ⊢
  have b0 : (1 : Int) ≤ ρ 0 ∧ ρ 0 ≤ 23 := hB 0 (1, 23) rfl
  have b14 : (0 : Int) ≤ ρ 14 ∧ ρ 14 ≤ 22 := hB 14 (0, 22) rfl
  have b15 : (109 : Int) ≤ ρ 15 ∧ ρ 15 ≤ 109 := hB 15 (109, 109) rfl
  have b16 : (0 : Int) ≤ ρ 16 ∧ ρ 16 ≤ 0 := hB 16 (0, 0) rfl
  first
    | exact allG_s f7 (by unfold gP; omega)
    | (unfold ffP; exact Or.inl ⟨rfl, fun j h1 h2 => f7 j h1 (by omega), by omega⟩)
    | (unfold ffP; exact Or.inr (Or.inr ⟨rfl, fun j h1 h2 => f7 j h1 (by omega), by omega⟩))
    | (unfold ffP; exact Or.inr (Or.inl ⟨by omega, by omega, f7, by unfold gP; omega⟩)))
def w_FF_P_1_6 : VC := (([(1, 23), (0, 49), (0, 8), (0, 11), (0, 9), (0, 6), (0, 6), (0, 8), (0, 9), (0, 49), (0, 49), ((-2147483648), 2147483647), ((-2147483648), 2147483647), (0, 5), (0, 22), (115, 115), (0, 0)]), [(1, [(none, 1), (none, 0)], []), (0, [(some 15, 0), (none, 115)], []), (1, [(some 15, 0), (none, 109)], []), (0, [(some 16, 0), (none, 0)], []), (8, [(some 16, 0), (some 14, 0), (none, 3)], []), (20, [(some 15, 0), (some 14, 0)], [2]), (0, [(none, 0), (none, 0)], []), (2, [(some 14, 0), (some 0, 0)], []), (64, [(some 14, 0)], [2])], (64, [(some 14, 1)], [2]))
set_option maxRecDepth 20000 in
theorem v_FF_P_1_6 {PT : PTy} (hp : HP1 PT) : vcOk PT w_FF_P_1_6 := vc_of (fun ρ α hB hF => by
  obtain ⟨f0, f1, f2, f3, f4, f5, f6, f7, f8, -⟩ := hF
  have e64 : PT 64 = P_allP := hp.2.1
  simp only [hF0, hF1, hF2, hF8, hF20, hFp_64, e64, P_allP, den_s, den_c, Int.add_zero, List.map_cons, List.map_nil] at f0 f1 f2 f3 f4 f5 f6 f7 f8 ⊢
  have b0 : (1 : Int) ≤ ρ 0 ∧ ρ 0 ≤ 23 := hB 0 (1, 23) rfl
  have b14 : (0 : Int) ≤ ρ 14 ∧ ρ 14 ≤ 22 := hB 14 (0, 22) rfl
  have b15 : (115 : Int) ≤ ρ 15 ∧ ρ 15 ≤ 115 := hB 15 (115, 115) rfl
  have b16 : (0 : Int) ≤ ρ 16 ∧ ρ 16 ≤ 0 := hB 16 (0, 0) rfl
  first
    | exact allG_s f8 (by unfold gP; omega)
    | (unfold ffP; exact Or.inl ⟨rfl, fun j h1 h2 => f8 j h1 (by omega), by omega⟩)
    | (unfold ffP; exact Or.inr (Or.inr ⟨rfl, fun j h1 h2 => f8 j h1 (by omega), by omega⟩))
    | (unfold ffP; exact Or.inr (Or.inl ⟨by omega, by omega, f8, by unfold gP; omega⟩)))
def w_FF_P_1_7 : VC := (([(1, 23), (0, 49), (0, 8), (0, 11), (0, 9), (0, 6), (0, 6), (0, 8), (0, 9), (0, 49), (0, 49), ((-2147483648), 2147483647), ((-2147483648), 2147483647), (0, 5), (0, 22), (0, 255), (0, 0)]), [(0, [(none, 0), (none, 0)], []), (1, [(some 15, 0), (none, 97)], []), (1, [(some 15, 0), (none, 115)], []), (1, [(some 15, 0), (none, 109)], []), (0, [(some 16, 0), (none, 0)], []), (8, [(some 16, 0), (some 14, 0), (none, 3)], []), (20, [(some 15, 0), (some 14, 0)], [2]), (0, [(none, 0), (none, 0)], []), (2, [(some 14, 0), (some 0, 0)], []), (64, [(some 14, 0)], [2])], (66, [(some 14, 0), (some 0, 0)], [2]))
set_option maxRecDepth 20000 in
theorem v_FF_P_1_7 {PT : PTy} (hp : HP1 PT) : vcOk PT w_FF_P_1_7 := vc_of (fun ρ α hB hF => by
  obtain ⟨f0, f1, f2, f3, f4, f5, f6, f7, f8, f9, -⟩ := hF
  have e64 : PT 64 = P_allP := hp.2.1
  have e66 : PT 66 = P_ffP := hp.2.2.2.1
  simp only [hF0, hF1, hF2, hF8, hF20, hFp_64, hFp_66, e64, e66, P_allP, P_ffP, den_s, den_c, Int.add_zero, List.map_cons, List.map_nil] at f0 f1 f2 f3 f4 f5 f6 f7 f8 f9 ⊢
  have b0 : (1 : Int) ≤ ρ 0 ∧ ρ 0 ≤ 23 := hB 0 (1, 23) rfl
  have b14 : (0 : Int) ≤ ρ 14 ∧ ρ 14 ≤ 22 := hB 14 (0, 22) rfl
  have b15 : (0 : Int) ≤ ρ 15 ∧ ρ 15 ≤ 255 := hB 15 (0, 255) rfl
  have b16 : (0 : Int) ≤ ρ 16 ∧ ρ 16 ≤ 0 := hB 16 (0, 0) rfl
  first
    | exact allG_s f9 (by unfold gP; omega)
    | (unfold ffP; exact Or.inl ⟨rfl, fun j h1 h2 => f9 j h1 (by omega), by omega⟩)
    | (unfold ffP; exact Or.inr (Or.inr ⟨rfl, fun j h1 h2 => f9 j h1 (by omega), by omega⟩))
    | (unfold ffP; exact Or.inr (Or.inl ⟨by omega, by omega, f9, by unfold gP; omega⟩)))
def w_FF_P_1_8 : VC := (([(1, 23), (0, 49), (0, 8), (0, 11), (0, 9), (0, 6), (0, 6), (0, 8), (0, 9), (0, 49), (0, 49), ((-2147483648), 2147483647), ((-2147483648), 2147483647), (0, 5), (0, 22), (97, 97), (0, 0)]), [(1, [(none, 1), (none, 0)], []), (0, [(some 15, 0), (none, 97)], []), (1, [(some 15, 0), (none, 115)], []), (1, [(some 15, 0), (none, 109)], []), (0, [(some 16, 0), (none, 0)], []), (8, [(some 16, 0), (some 14, 0), (none, 3)], []), (20, [(some 15, 0), (some 14, 0)], [2]), (0, [(none, 0), (none, 0)], []), (2, [(some 14, 0), (some 0, 0)], []), (64, [(some 14, 0)], [2])], (64, [(some 14, 1)], [2]))
set_option maxRecDepth 20000 in
theorem v_FF_P_1_8 {PT : PTy} (hp : HP1 PT) : vcOk PT w_FF_P_1_8 := vc_of (fun ρ α hB hF => by
  obtain ⟨f0, f1, f2, f3, f4, f5, f6, f7, f8, f9, -⟩ := hF
  have e64 : PT 64 = P_allP := hp.2.1
  simp only [hF0, hF1, hF2, hF8, hF20, hFp_64, e64, P_allP, den_s, den_c, Int.add_zero, List.map_cons, List.map_nil] at f0 f1 f2 f3 f4 f5 f6 f7 f8 f9 ⊢
  have b0 : (1 : Int) ≤ ρ 0 ∧ ρ 0 ≤ 23 := hB 0 (1, 23) rfl
  have b14 : (0 : Int) ≤ ρ 14 ∧ ρ 14 ≤ 22 := hB 14 (0, 22) rfl
  have b15 : (97 : Int) ≤ ρ 15 ∧ ρ 15 ≤ 97 := hB 15 (97, 97) rfl
  have b16 : (0 : Int) ≤ ρ 16 ∧ ρ 16 ≤ 0 := hB 16 (0, 0) rfl
  first
    | exact allG_s f9 (by unfold gP; omega)
    | (unfold ffP; exact Or.inl ⟨rfl, fun j h1 h2 => f9 j h1 (by omega), by omega⟩)
    | (unfold ffP; exact Or.inr (Or.inr ⟨rfl, fun j h1 h2 => f9 j h1 (by omega), by omega⟩))
    | (unfold ffP; exact Or.inr (Or.inl ⟨by omega, by omega, f9, by unfold gP; omega⟩)))
def w_FF_P_1_9 : VC := (([(1, 23), (0, 49), (0, 8), (0, 11), (0, 9), (0, 6), (0, 6), (0, 8), (0, 9), (0, 49), (0, 49), ((-2147483648), 2147483647), ((-2147483648), 2147483647), (0, 5), (0, 22), (0, 47), (1, 1)]), [(0, [(none, 0), (none, 0)], []), (2, [(some 15, 0), (none, 48)], []), (0, [(some 16, 0), (none, 1)], []), (8, [(some 16, 0), (some 14, 0), (none, 3)], []), (20, [(some 15, 0), (some 14, 0)], [2]), (0, [(none, 0), (none, 0)], []), (2, [(some 14, 0), (some 0, 0)], []), (64, [(some 14, 0)], [2])], (66, [(some 14, 0), (some 0, 0)], [2]))
set_option maxRecDepth 20000 in
theorem v_FF_P_1_9 {PT : PTy} (hp : HP1 PT) : vcOk PT w_FF_P_1_9 := vc_of (fun ρ α hB hF => by
  obtain ⟨f0, f1, f2, f3, f4, f5, f6, f7, -⟩ := hF
  have e64 : PT 64 = P_allP := hp.2.1
  have e66 : PT 66 = P_ffP := hp.2.2.2.1
  simp only [hF0, hF2, hF8, hF20, hFp_64, hFp_66, e64, e66, P_allP, P_ffP, den_s, den_c, Int.add_zero, List.map_cons, List.map_nil] at f0 f1 f2 f3 f4 f5 f6 f7 ⊢
  have b0 : (1 : Int) ≤ ρ 0 ∧ ρ 0 ≤ 23 := hB 0 (1, 23) rfl
  have b14 : (0 : Int) ≤ ρ 14 ∧ ρ 14 ≤ 22 := hB 14 (0, 22) rfl
  have b15 : (0 : Int) ≤ ρ 15 ∧ ρ 15 ≤ 47 := hB 15 (0, 47) rfl
  have b16 : (1 : Int) ≤ ρ 16 ∧ ρ 16 ≤ 1 := hB 16 (1, 1) rfl
  first
    | exact allG_s f7 (by unfold gP; omega)
    | (unfold ffP; exact Or.inl ⟨rfl, fun j h1 h2 => f7 j h1 (by omega), by omega⟩)
    | (unfold ffP; exact Or.inr (Or.inr ⟨rfl, fun j h1 h2 => f7 j h1 (by omega), by omega⟩))
    | (unfold ffP; exact Or.inr (Or.inl ⟨by omega, by omega, f7, by unfold gP; omega⟩)))
def w_FF_P_1_10 : VC := (([(1, 23), (0, 49), (0, 8), (0, 11), (0, 9), (0, 6), (0, 6), (0, 8), (0, 9), (0, 49), (0, 49), ((-2147483648), 2147483647), ((-2147483648), 2147483647), (0, 5), (0, 22), (58, 255), (1, 1)]), [(0, [(none, 0), (none, 0)], []), (2, [(none, 57), (some 15, 0)], []), (3, [(some 15, 0), (none, 48)], []), (0, [(some 16, 0), (none, 1)], []), (8, [(some 16, 0), (some 14, 0), (none, 3)], []), (20, [(some 15, 0), (some 14, 0)], [2]), (0, [(none, 0), (none, 0)], []), (2, [(some 14, 0), (some 0, 0)], []), (64, [(some 14, 0)], [2])], (66, [(some 14, 0), (some 0, 0)], [2]))
set_option maxRecDepth 20000 in
theorem v_FF_P_1_10 {PT : PTy} (hp : HP1 PT) : vcOk PT w_FF_P_1_10 := vc_of (fun ρ α hB hF => by
  obtain ⟨f0, f1, f2, f3, f4, f5, f6, f7, f8, -⟩ := hF
  have e64 : PT 64 = P_allP := hp.2.1
  have e66 : PT 66 = P_ffP := hp.2.2.2.1
  simp only [hF0, hF2, hF3, hF8, hF20, hFp_64, hFp_66, e64, e66, P_allP, P_ffP, den_s, den_c, Int.add_zero, List.map_cons, List.map_nil] at f0 f1 f2 f3 f4 f5 f6 f7 f8 ⊢
  have b0 : (1 : Int) ≤ ρ 0 ∧ ρ 0 ≤ 23 := hB 0 (1, 23) rfl
  have b14 : (0 : Int) ≤ ρ 14 ∧ ρ 14 ≤ 22 := hB 14 (0, 22) rfl
  have b15 : (58 : Int) ≤ ρ 15 ∧ ρ 15 ≤ 255 := hB 15 (58, 255) rfl
  have b16 : (1 : Int) ≤ ρ 16 ∧ ρ 16 ≤ 1 := hB 16 (1, 1) rfl
  first
    | exact allG_s f8 (by unfold gP; omega)
    | (unfold ffP; exact Or.inl ⟨rfl, fun j h1 h2 => f8 j h1 (by omega), by omega⟩)
    | (unfold ffP; exact Or.inr (Or.inr ⟨rfl, fun j h1 h2 => f8 j h1 (by omega), by omega⟩))
    | (unfold ffP; exact Or.inr (Or.inl ⟨by omega, by omega, f8, by unfold gP; omega⟩)))
def w_FF_P_1_11 : VC := (([(1, 23), (0, 49), (0, 8), (0, 11), (0, 9), (0, 6), (0, 6), (0, 8), (0, 9), (0, 49), (0, 49), ((-2147483648), 2147483647), ((-2147483648), 2147483647), (0, 5), (0, 22), (48, 57), (1, 1)]), [(1, [(none, 1), (none, 0)], []), (3, [(none, 57), (some 15, 0)], []), (3, [(some 15, 0), (none, 48)], []), (0, [(some 16, 0), (none, 1)], []), (8, [(some 16, 0), (some 14, 0), (none, 3)], []), (20, [(some 15, 0), (some 14, 0)], [2]), (0, [(none, 0), (none, 0)], []), (2, [(some 14, 0), (some 0, 0)], []), (64, [(some 14, 0)], [2])], (64, [(some 14, 1)], [2]))
set_option maxRecDepth 20000 in
theorem v_FF_P_1_11 {PT : PTy} (hp : HP1 PT) : vcOk PT w_FF_P_1_11 := vc_of (fun ρ α hB hF => by
  obtain ⟨f0, f1, f2, f3, f4, f5, f6, f7, f8, -⟩ := hF
  have e64 : PT 64 = P_allP := hp.2.1
  simp only [hF0, hF1, hF2, hF3, hF8, hF20, hFp_64, e64, P_allP, den_s, den_c, Int.add_zero, List.map_cons, List.map_nil] at f0 f1 f2 f3 f4 f5 f6 f7 f8 ⊢
  have b0 : (1 : Int) ≤ ρ 0 ∧ ρ 0 ≤ 23 := hB 0 (1, 23) rfl
  have b14 : (0 : Int) ≤ ρ 14 ∧ ρ 14 ≤ 22 := hB 14 (0, 22) rfl
  have b15 : (48 : Int) ≤ ρ 15 ∧ ρ 15 ≤ 57 := hB 15 (48, 57) rfl
  have b16 : (1 : Int) ≤ ρ 16 ∧ ρ 16 ≤ 1 := hB 16 (1, 1) rfl
  first
    | exact allG_s f8 (by unfold gP; omega)
    | (unfold ffP; exact Or.inl ⟨rfl, fun j h1 h2 => f8 j h1 (by omega), by omega⟩)
    | (unfold ffP; exact Or.inr (Or.inr ⟨rfl, fun j h1 h2 => f8 j h1 (by omega), by omega⟩))
    | (unfold ffP; exact Or.inr (Or.inl ⟨by omega, by omega, f8, by unfold gP; omega⟩)))
set_option maxRecDepth 1000000 in
theorem k_FF_P {PT : PTy} (hp : HP1 PT) : wfX c_FF_P = true ∧ xcOk PT c_FF_P := xctr (xl0) c_FF_P 55 mX3_firstFault rfl h_FF_P (by decide +kernel) (by decide +kernel) (by decide) (vcs_by [w_FF_P_0_0] (by decide +kernel) (vc (v_FF_P_0_0 hp) vn)) (fmc (vcs_by [w_FF_P_1_0, w_FF_P_1_1, w_FF_P_1_2, w_FF_P_1_3, w_FF_P_1_4, w_FF_P_1_5, w_FF_P_1_6, w_FF_P_1_7, w_FF_P_1_8, w_FF_P_1_9, w_FF_P_1_10, w_FF_P_1_11] (by decide +kernel) (vc (v_FF_P_1_0 hp) (vc (v_FF_P_1_1 hp) (vc (v_FF_P_1_2 hp) (vc (v_FF_P_1_3 hp) (vc (v_FF_P_1_4 hp) (vc (v_FF_P_1_5 hp) (vc (v_FF_P_1_6 hp) (vc (v_FF_P_1_7 hp) (vc (v_FF_P_1_8 hp) (vc (v_FF_P_1_9 hp) (vc (v_FF_P_1_10 hp) (vc (v_FF_P_1_11 hp) vn))))))))))))) fmn)
def c_FF_V : XC := (30, 1, (bX), [.inr (.inl 3)], (gX 999), [], [((bX ++ [((-1), 49)]), some (.inl (some 14, 0)), (gX 999), (List.range 58), 58, [(67, [(some 14, 0), (some 1, 0)], [4])])])
def h_FF_V : List XH := [(2, (bX ++ [(0, 49)]), [some (.inr (.inl 3)), some (.inl (some 14, 0)), none], (gX 999), (List.range 58), 58, [(65, [(some 14, 0)], [4])], [(true, (none, 1)), (true, (some 14, 0))])]
def w_FF_V_0_0 : VC := ((bX), [], (65, [(none, 0)], [4]))
set_option maxRecDepth 20000 in
theorem v_FF_V_0_0 {PT : PTy} (hp : HP1 PT) : vcOk PT w_FF_V_0_0 := vc_of (fun ρ α hB hF => by
  have e65 : PT 65 = P_allV := hp.2.2.1
  simp only [hFp_65, e65, P_allV, den_s, den_c, Int.add_zero, List.map_cons, List.map_nil] at ⊢
  exact allG_z)
def w_FF_V_1_0 : VC := (([(0, 23), (0, 0), (0, 8), (0, 11), (0, 9), (0, 6), (0, 6), (0, 8), (0, 9), (0, 49), (0, 49), ((-2147483648), 2147483647), ((-2147483648), 2147483647), (0, 5), (0, 49)]), [(1, [(none, 1), (none, 0)], []), (0, [(some 1, 0), (none, 0)], []), (3, [(some 14, 0), (some 1, 0)], []), (65, [(some 14, 0)], [4])], (67, [(none, (-1)), (some 1, 0)], [4]))
set_option maxRecDepth 20000 in
theorem v_FF_V_1_0 {PT : PTy} (hp : HP1 PT) : vcOk PT w_FF_V_1_0 := vc_of (fun ρ α hB hF => by
  obtain ⟨f0, f1, f2, f3, -⟩ := hF
  have e65 : PT 65 = P_allV := hp.2.2.1
  have e67 : PT 67 = P_ffV := hp.2.2.2.2.1
  simp only [hF0, hF1, hF3, hFp_65, hFp_67, e65, e67, P_allV, P_ffV, den_s, den_c, Int.add_zero, List.map_cons, List.map_nil] at f0 f1 f2 f3 ⊢
  have b1 : (0 : Int) ≤ ρ 1 ∧ ρ 1 ≤ 0 := hB 1 (0, 0) rfl
  have b14 : (0 : Int) ≤ ρ 14 ∧ ρ 14 ≤ 49 := hB 14 (0, 49) rfl
  first
    | exact allG_s f3 (by unfold gV; omega)
    | (unfold ffV; exact Or.inl ⟨rfl, fun j h1 h2 => f3 j h1 (by omega), by omega⟩)
    | (unfold ffV; exact Or.inr (Or.inr ⟨rfl, fun j h1 h2 => f3 j h1 (by omega), by omega⟩))
    | (unfold ffV; exact Or.inr (Or.inl ⟨by omega, by omega, f3, by unfold gV; omega⟩)))
def w_FF_V_1_1 : VC := (([(0, 23), (1, 49), (0, 8), (0, 11), (0, 9), (0, 6), (0, 6), (0, 8), (0, 9), (0, 49), (0, 49), ((-2147483648), 2147483647), ((-2147483648), 2147483647), (0, 5), (0, 49), (0, 3)]), [(0, [(none, 0), (none, 0)], []), (1, [(some 15, 0), (none, 4)], []), (8, [(some 15, 0), (some 1, 0), (none, 5)], []), (1, [(none, 1), (none, 0)], []), (1, [(some 1, 0), (none, 0)], []), (3, [(some 14, 0), (some 1, 0)], []), (65, [(some 14, 0)], [4])], (67, [(some 1, 0), (some 1, 0)], [4]))
set_option maxRecDepth 20000 in
theorem v_FF_V_1_1 {PT : PTy} (hp : HP1 PT) : vcOk PT w_FF_V_1_1 := vc_of (fun ρ α hB hF => by
  obtain ⟨f0, f1, f2, f3, f4, f5, f6, -⟩ := hF
  have e65 : PT 65 = P_allV := hp.2.2.1
  have e67 : PT 67 = P_ffV := hp.2.2.2.2.1
  simp only [hF0, hF1, hF3, hF8, hFp_65, hFp_67, e65, e67, P_allV, P_ffV, den_s, den_c, Int.add_zero, List.map_cons, List.map_nil] at f0 f1 f2 f3 f4 f5 f6 ⊢
  have b1 : (1 : Int) ≤ ρ 1 ∧ ρ 1 ≤ 49 := hB 1 (1, 49) rfl
  have b14 : (0 : Int) ≤ ρ 14 ∧ ρ 14 ≤ 49 := hB 14 (0, 49) rfl
  have b15 : (0 : Int) ≤ ρ 15 ∧ ρ 15 ≤ 3 := hB 15 (0, 3) rfl
  first
    | exact allG_s f6 (by unfold gV; omega)
    | (unfold ffV; exact Or.inl ⟨rfl, fun j h1 h2 => f6 j h1 (by omega), by omega⟩)
    | (unfold ffV; exact Or.inr (Or.inr ⟨rfl, fun j h1 h2 => f6 j h1 (by omega), by omega⟩))
    | (unfold ffV; exact Or.inr (Or.inl ⟨by omega, by omega, f6, by unfold gV; omega⟩)))
def w_FF_V_1_2 : VC := (([(0, 23), (1, 49), (0, 8), (0, 11), (0, 9), (0, 6), (0, 6), (0, 8), (0, 9), (0, 49), (0, 49), ((-2147483648), 2147483647), ((-2147483648), 2147483647), (0, 5), (0, 49), (4, 4)]), [(1, [(none, 1), (none, 0)], []), (0, [(some 15, 0), (none, 4)], []), (8, [(some 15, 0), (some 1, 0), (none, 5)], []), (1, [(none, 1), (none, 0)], []), (1, [(some 1, 0), (none, 0)], []), (3, [(some 14, 0), (some 1, 0)], []), (65, [(some 14, 0)], [4])], (67, [(none, (-1)), (some 1, 0)], [4]))
set_option maxRecDepth 20000 in
theorem v_FF_V_1_2 {PT : PTy} (hp : HP1 PT) : vcOk PT w_FF_V_1_2 := vc_of (fun ρ α hB hF => by
  obtain ⟨f0, f1, f2, f3, f4, f5, f6, -⟩ := hF
  have e65 : PT 65 = P_allV := hp.2.2.1
  have e67 : PT 67 = P_ffV := hp.2.2.2.2.1
  simp only [hF0, hF1, hF3, hF8, hFp_65, hFp_67, e65, e67, P_allV, P_ffV, den_s, den_c, Int.add_zero, List.map_cons, List.map_nil] at f0 f1 f2 f3 f4 f5 f6 ⊢
  have b1 : (1 : Int) ≤ ρ 1 ∧ ρ 1 ≤ 49 := hB 1 (1, 49) rfl
  have b14 : (0 : Int) ≤ ρ 14 ∧ ρ 14 ≤ 49 := hB 14 (0, 49) rfl
  have b15 : (4 : Int) ≤ ρ 15 ∧ ρ 15 ≤ 4 := hB 15 (4, 4) rfl
  first
    | exact allG_s f6 (by unfold gV; omega)
    | (unfold ffV; exact Or.inl ⟨rfl, fun j h1 h2 => f6 j h1 (by omega), by omega⟩)
    | (unfold ffV; exact Or.inr (Or.inr ⟨rfl, fun j h1 h2 => f6 j h1 (by omega), by omega⟩))
    | (unfold ffV; exact Or.inr (Or.inl ⟨by omega, by omega, f6, by unfold gV; omega⟩)))
def w_FF_V_1_3 : VC := (([(0, 23), (1, 49), (0, 8), (0, 11), (0, 9), (0, 6), (0, 6), (0, 8), (0, 9), (0, 49), (0, 49), ((-2147483648), 2147483647), ((-2147483648), 2147483647), (0, 5), (0, 48), (0, 96), (0, 0)]), [(0, [(none, 0), (none, 0)], []), (2, [(some 15, 0), (none, 97)], []), (0, [(some 16, 0), (none, 0)], []), (8, [(some 16, 0), (some 14, 0), (none, 5)], []), (20, [(some 15, 0), (some 14, 0)], [4]), (1, [(none, 1), (none, 0)], []), (2, [(some 14, 0), (some 1, 0)], []), (65, [(some 14, 0)], [4])], (67, [(some 14, 0), (some 1, 0)], [4]))
set_option maxRecDepth 20000 in
theorem v_FF_V_1_3 {PT : PTy} (hp : HP1 PT) : vcOk PT w_FF_V_1_3 := vc_of (fun ρ α hB hF => by
  obtain ⟨f0, f1, f2, f3, f4, f5, f6, f7, -⟩ := hF
  have e65 : PT 65 = P_allV := hp.2.2.1
  have e67 : PT 67 = P_ffV := hp.2.2.2.2.1
  simp only [hF0, hF1, hF2, hF8, hF20, hFp_65, hFp_67, e65, e67, P_allV, P_ffV, den_s, den_c, Int.add_zero, List.map_cons, List.map_nil] at f0 f1 f2 f3 f4 f5 f6 f7 ⊢
  have b1 : (1 : Int) ≤ ρ 1 ∧ ρ 1 ≤ 49 := hB 1 (1, 49) rfl
  have b14 : (0 : Int) ≤ ρ 14 ∧ ρ 14 ≤ 48 := hB 14 (0, 48) rfl
  have b15 : (0 : Int) ≤ ρ 15 ∧ ρ 15 ≤ 96 := hB 15 (0, 96) rfl
  have b16 : (0 : Int) ≤ ρ 16 ∧ ρ 16 ≤ 0 := hB 16 (0, 0) rfl
  first
    | exact allG_s f7 (by unfold gV; omega)
    | (unfold ffV; exact Or.inl ⟨rfl, fun j h1 h2 => f7 j h1 (by omega), by omega⟩)
    | (unfold ffV; exact Or.inr (Or.inr ⟨rfl, fun j h1 h2 => f7 j h1 (by omega), by omega⟩))
    | (unfold ffV; exact Or.inr (Or.inl ⟨by omega, by omega, f7, by unfold gV; omega⟩)))
def w_FF_V_1_4 : VC := (([(0, 23), (1, 49), (0, 8), (0, 11), (0, 9), (0, 6), (0, 6), (0, 8), (0, 9), (0, 49), (0, 49), ((-2147483648), 2147483647), ((-2147483648), 2147483647), (0, 5), (0, 48), (105, 255), (0, 0)]), [(0, [(none, 0), (none, 0)], []), (2, [(none, 104), (some 15, 0)], []), (3, [(some 15, 0), (none, 97)], []), (0, [(some 16, 0), (none, 0)], []), (8, [(some 16, 0), (some 14, 0), (none, 5)], []), (20, [(some 15, 0), (some 14, 0)], [4]), (1, [(none, 1), (none, 0)], []), (2, [(some 14, 0), (some 1, 0)], []), (65, [(some 14, 0)], [4])], (67, [(some 14, 0), (some 1, 0)], [4]))
set_option maxRecDepth 20000 in
theorem v_FF_V_1_4 {PT : PTy} (hp : HP1 PT) : vcOk PT w_FF_V_1_4 := vc_of (fun ρ α hB hF => by
  obtain ⟨f0, f1, f2, f3, f4, f5, f6, f7, f8, -⟩ := hF
  have e65 : PT 65 = P_allV := hp.2.2.1
  have e67 : PT 67 = P_ffV := hp.2.2.2.2.1
  simp only [hF0, hF1, hF2, hF3, hF8, hF20, hFp_65, hFp_67, e65, e67, P_allV, P_ffV, den_s, den_c, Int.add_zero, List.map_cons, List.map_nil] at f0 f1 f2 f3 f4 f5 f6 f7 f8 ⊢
  have b1 : (1 : Int) ≤ ρ 1 ∧ ρ 1 ≤ 49 := hB 1 (1, 49) rfl
  have b14 : (0 : Int) ≤ ρ 14 ∧ ρ 14 ≤ 48 := hB 14 (0, 48) rfl
  have b15 : (105 : Int) ≤ ρ 15 ∧ ρ 15 ≤ 255 := hB 15 (105, 255) rfl
  have b16 : (0 : Int) ≤ ρ 16 ∧ ρ 16 ≤ 0 := hB 16 (0, 0) rfl
  first
    | exact allG_s f8 (by unfold gV; omega)
    | (unfold ffV; exact Or.inl ⟨rfl, fun j h1 h2 => f8 j h1 (by omega), by omega⟩)
    | (unfold ffV; exact Or.inr (Or.inr ⟨rfl, fun j h1 h2 => f8 j h1 (by omega), by omega⟩))
    | (unfold ffV; exact Or.inr (Or.inl ⟨by omega, by omega, f8, by unfold gV; omega⟩)))
def w_FF_V_1_5 : VC := (([(0, 23), (1, 49), (0, 8), (0, 11), (0, 9), (0, 6), (0, 6), (0, 8), (0, 9), (0, 49), (0, 49), ((-2147483648), 2147483647), ((-2147483648), 2147483647), (0, 5), (0, 48), (97, 104), (0, 0)]), [(1, [(none, 1), (none, 0)], []), (3, [(none, 104), (some 15, 0)], []), (3, [(some 15, 0), (none, 97)], []), (0, [(some 16, 0), (none, 0)], []), (8, [(some 16, 0), (some 14, 0), (none, 5)], []), (20, [(some 15, 0), (some 14, 0)], [4]), (1, [(none, 1), (none, 0)], []), (2, [(some 14, 0), (some 1, 0)], []), (65, [(some 14, 0)], [4])], (65, [(some 14, 1)], [4]))
set_option maxRecDepth 20000 in
theorem v_FF_V_1_5 {PT : PTy} (hp : HP1 PT) : vcOk PT w_FF_V_1_5 := vc_of (fun ρ α hB hF => by
  obtain ⟨f0, f1, f2, f3, f4, f5, f6, f7, f8, -⟩ := hF
  have e65 : PT 65 = P_allV := hp.2.2.1
  simp only [hF0, hF1, hF2, hF3, hF8, hF20, hFp_65, e65, P_allV, den_s, den_c, Int.add_zero, List.map_cons, List.map_nil] at f0 f1 f2 f3 f4 f5 f6 f7 f8 ⊢
  have b1 : (1 : Int) ≤ ρ 1 ∧ ρ 1 ≤ 49 := hB 1 (1, 49) rfl
  have b14 : (0 : Int) ≤ ρ 14 ∧ ρ 14 ≤ 48 := hB 14 (0, 48) rfl
  have b15 : (97 : Int) ≤ ρ 15 ∧ ρ 15 ≤ 104 := hB 15 (97, 104) rfl
  have b16 : (0 : Int) ≤ ρ 16 ∧ ρ 16 ≤ 0 := hB 16 (0, 0) rfl
  first
    | exact allG_s f8 (by unfold gV; omega)
    | (unfold ffV; exact Or.inl ⟨rfl, fun j h1 h2 => f8 j h1 (by omega), by omega⟩)
    | (unfold ffV; exact Or.inr (Or.inr ⟨rfl, fun j h1 h2 => f8 j h1 (by omega), by omega⟩))
    | (unfold ffV; exact Or.inr (Or.inl ⟨by omega, by omega, f8, by unfold gV; omega⟩)))
def w_FF_V_1_6 : VC := (([(0, 23), (1, 49), (0, 8), (0, 11), (0, 9), (0, 6), (0, 6), (0, 8), (0, 9), (0, 49), (0, 49), ((-2147483648), 2147483647), ((-2147483648), 2147483647), (0, 5), (0, 48), (0, 48), (1, 1)]), [(0, [(none, 0), (none, 0)], []), (2, [(some 15, 0), (none, 49)], []), (0, [(some 16, 0), (none, 1)], []), (8, [(some 16, 0), (some 14, 0), (none, 5)], []), (20, [(some 15, 0), (some 14, 0)], [4]), (1, [(none, 1), (none, 0)], []), (2, [(some 14, 0), (some 1, 0)], []), (65, [(some 14, 0)], [4])], (67, [(some 14, 0), (some 1, 0)], [4]))
set_option maxRecDepth 20000 in
theorem v_FF_V_1_6 {PT : PTy} (hp : HP1 PT) : vcOk PT w_FF_V_1_6 := vc_of (fun ρ α hB hF => by
  obtain ⟨f0, f1, f2, f3, f4, f5, f6, f7, -⟩ := hF
  have e65 : PT 65 = P_allV := hp.2.2.1
  have e67 : PT 67 = P_ffV := hp.2.2.2.2.1
  simp only [hF0, hF1, hF2, hF8, hF20, hFp_65, hFp_67, e65, e67, P_allV, P_ffV, den_s, den_c, Int.add_zero, List.map_cons, List.map_nil] at f0 f1 f2 f3 f4 f5 f6 f7 ⊢
  have b1 : (1 : Int) ≤ ρ 1 ∧ ρ 1 ≤ 49 := hB 1 (1, 49) rfl
  have b14 : (0 : Int) ≤ ρ 14 ∧ ρ 14 ≤ 48 := hB 14 (0, 48) rfl
  have b15 : (0 : Int) ≤ ρ 15 ∧ ρ 15 ≤ 48 := hB 15 (0, 48) rfl
  have b16 : (1 : Int) ≤ ρ 16 ∧ ρ 16 ≤ 1 := hB 16 (1, 1) rfl
  first
    | exact allG_s f7 (by unfold gV; omega)
    | (unfold ffV; exact Or.inl ⟨rfl, fun j h1 h2 => f7 j h1 (by omega), by omega⟩)
    | (unfold ffV; exact Or.inr (Or.inr ⟨rfl, fun j h1 h2 => f7 j h1 (by omega), by omega⟩))
    | (unfold ffV; exact Or.inr (Or.inl ⟨by omega, by omega, f7, by unfold gV; omega⟩)))
def w_FF_V_1_7 : VC := (([(0, 23), (1, 49), (0, 8), (0, 11), (0, 9), (0, 6), (0, 6), (0, 8), (0, 9), (0, 49), (0, 49), ((-2147483648), 2147483647), ((-2147483648), 2147483647), (0, 5), (0, 48), (58, 255), (1, 1)]), [(0, [(none, 0), (none, 0)], []), (2, [(none, 57), (some 15, 0)], []), (3, [(some 15, 0), (none, 49)], []), (0, [(some 16, 0), (none, 1)], []), (8, [(some 16, 0), (some 14, 0), (none, 5)], []), (20, [(some 15, 0), (some 14, 0)], [4]), (1, [(none, 1), (none, 0)], []), (2, [(some 14, 0), (some 1, 0)], []), (65, [(some 14, 0)], [4])], (67, [(some 14, 0), (some 1, 0)], [4]))
set_option maxRecDepth 20000 in
theorem v_FF_V_1_7 {PT : PTy} (hp : HP1 PT) : vcOk PT w_FF_V_1_7 := vc_of (fun ρ α hB hF => by
  obtain ⟨f0, f1, f2, f3, f4, f5, f6, f7, f8, -⟩ := hF
  have e65 : PT 65 = P_allV := hp.2.2.1
  have e67 : PT 67 = P_ffV := hp.2.2.2.2.1
  simp only [hF0, hF1, hF2, hF3, hF8, hF20, hFp_65, hFp_67, e65, e67, P_allV, P_ffV, den_s, den_c, Int.add_zero, List.map_cons, List.map_nil] at f0 f1 f2 f3 f4 f5 f6 f7 f8 ⊢
  have b1 : (1 : Int) ≤ ρ 1 ∧ ρ 1 ≤ 49 := hB 1 (1, 49) rfl
  have b14 : (0 : Int) ≤ ρ 14 ∧ ρ 14 ≤ 48 := hB 14 (0, 48) rfl
  have b15 : (58 : Int) ≤ ρ 15 ∧ ρ 15 ≤ 255 := hB 15 (58, 255) rfl
  have b16 : (1 : Int) ≤ ρ 16 ∧ ρ 16 ≤ 1 := hB 16 (1, 1) rfl
  first
    | exact allG_s f8 (by unfold gV; omega)
    | (unfold ffV; exact Or.inl ⟨rfl, fun j h1 h2 => f8 j h1 (by omega), by omega⟩)
    | (unfold ffV; exact Or.inr (Or.inr ⟨rfl, fun j h1 h2 => f8 j h1 (by omega), by omega⟩))
    | (unfold ffV; exact Or.inr (Or.inl ⟨by omega, by omega, f8, by unfold gV; omega⟩)))
def w_FF_V_1_8 : VC := (([(0, 23), (1, 49), (0, 8), (0, 11), (0, 9), (0, 6), (0, 6), (0, 8), (0, 9), (0, 49), (0, 49), ((-2147483648), 2147483647), ((-2147483648), 2147483647), (0, 5), (0, 48), (49, 57), (1, 1)]), [(1, [(none, 1), (none, 0)], []), (3, [(none, 57), (some 15, 0)], []), (3, [(some 15, 0), (none, 49)], []), (0, [(some 16, 0), (none, 1)], []), (8, [(some 16, 0), (some 14, 0), (none, 5)], []), (20, [(some 15, 0), (some 14, 0)], [4]), (1, [(none, 1), (none, 0)], []), (2, [(some 14, 0), (some 1, 0)], []), (65, [(some 14, 0)], [4])], (65, [(some 14, 1)], [4]))
set_option maxRecDepth 20000 in
theorem v_FF_V_1_8 {PT : PTy} (hp : HP1 PT) : vcOk PT w_FF_V_1_8 := vc_of (fun ρ α hB hF => by
  obtain ⟨f0, f1, f2, f3, f4, f5, f6, f7, f8, -⟩ := hF
  have e65 : PT 65 = P_allV := hp.2.2.1
  simp only [hF0, hF1, hF2, hF3, hF8, hF20, hFp_65, e65, P_allV, den_s, den_c, Int.add_zero, List.map_cons, List.map_nil] at f0 f1 f2 f3 f4 f5 f6 f7 f8 ⊢
  have b1 : (1 : Int) ≤ ρ 1 ∧ ρ 1 ≤ 49 := hB 1 (1, 49) rfl
  have b14 : (0 : Int) ≤ ρ 14 ∧ ρ 14 ≤ 48 := hB 14 (0, 48) rfl
  have b15 : (49 : Int) ≤ ρ 15 ∧ ρ 15 ≤ 57 := hB 15 (49, 57) rfl
  have b16 : (1 : Int) ≤ ρ 16 ∧ ρ 16 ≤ 1 := hB 16 (1, 1) rfl
  first
    | exact allG_s f8 (by unfold gV; omega)
    | (unfold ffV; exact Or.inl ⟨rfl, fun j h1 h2 => f8 j h1 (by omega), by omega⟩)
    | (unfold ffV; exact Or.inr (Or.inr ⟨rfl, fun j h1 h2 => f8 j h1 (by omega), by omega⟩))
    | (unfold ffV; exact Or.inr (Or.inl ⟨by omega, by omega, f8, by unfold gV; omega⟩)))
def w_FF_V_1_9 : VC := (([(0, 23), (1, 49), (0, 8), (0, 11), (0, 9), (0, 6), (0, 6), (0, 8), (0, 9), (0, 49), (0, 49), ((-2147483648), 2147483647), ((-2147483648), 2147483647), (0, 5), (0, 48), (0, 96), (2, 2)]), [(0, [(none, 0), (none, 0)], []), (2, [(some 15, 0), (none, 97)], []), (0, [(some 16, 0), (none, 2)], []), (8, [(some 16, 0), (some 14, 0), (none, 5)], []), (20, [(some 15, 0), (some 14, 0)], [4]), (1, [(none, 1), (none, 0)], []), (2, [(some 14, 0), (some 1, 0)], []), (65, [(some 14, 0)], [4])], (67, [(some 14, 0), (some 1, 0)], [4]))
set_option maxRecDepth 20000 in
theorem v_FF_V_1_9 {PT : PTy} (hp : HP1 PT) : vcOk PT w_FF_V_1_9 := vc_of (fun ρ α hB hF => by
  obtain ⟨f0, f1, f2, f3, f4, f5, f6, f7, -⟩ := hF
  have e65 : PT 65 = P_allV := hp.2.2.1
  have e67 : PT 67 = P_ffV := hp.2.2.2.2.1
  simp only [hF0, hF1, hF2, hF8, hF20, hFp_65, hFp_67, e65, e67, P_allV, P_ffV, den_s, den_c, Int.add_zero, List.map_cons, List.map_nil] at f0 f1 f2 f3 f4 f5 f6 f7 ⊢
  have b1 : (1 : Int) ≤ ρ 1 ∧ ρ 1 ≤ 49 := hB 1 (1, 49) rfl
  have b14 : (0 : Int) ≤ ρ 14 ∧ ρ 14 ≤ 48 := hB 14 (0, 48) rfl
  have b15 : (0 : Int) ≤ ρ 15 ∧ ρ 15 ≤ 96 := hB 15 (0, 96) rfl
  have b16 : (2 : Int) ≤ ρ 16 ∧ ρ 16 ≤ 2 := hB 16 (2, 2) rfl
  first
    | exact allG_s f7 (by unfold gV; omega)
    | (unfold ffV; exact Or.inl ⟨rfl, fun j h1 h2 => f7 j h1 (by omega), by omega⟩)
    | (unfold ffV; exact Or.inr (Or.inr ⟨rfl, fun j h1 h2 => f7 j h1 (by omega), by omega⟩))
    | (unfold ffV; exact Or.inr (Or.inl ⟨by omega, by omega, f7, by unfold gV; omega⟩)))
def w_FF_V_1_10 : VC := (([(0, 23), (1, 49), (0, 8), (0, 11), (0, 9), (0, 6), (0, 6), (0, 8), (0, 9), (0, 49), (0, 49), ((-2147483648), 2147483647), ((-2147483648), 2147483647), (0, 5), (0, 48), (121, 255), (2, 2)]), [(0, [(none, 0), (none, 0)], []), (2, [(none, 120), (some 15, 0)], []), (3, [(some 15, 0), (none, 97)], []), (0, [(some 16, 0), (none, 2)], []), (8, [(some 16, 0), (some 14, 0), (none, 5)], []), (20, [(some 15, 0), (some 14, 0)], [4]), (1, [(none, 1), (none, 0)], []), (2, [(some 14, 0), (some 1, 0)], []), (65, [(some 14, 0)], [4])], (67, [(some 14, 0), (some 1, 0)], [4]))
set_option maxRecDepth 20000 in
theorem v_FF_V_1_10 {PT : PTy} (hp : HP1 PT) : vcOk PT w_FF_V_1_10 := vc_of (fun ρ α hB hF => by
  obtain ⟨f0, f1, f2, f3, f4, f5, f6, f7, f8, -⟩ := hF
  have e65 : PT 65 = P_allV := hp.2.2.1
  have e67 : PT 67 = P_ffV := hp.2.2.2.2.1
  simp only [hF0, hF1, hF2, hF3, hF8, hF20, hFp_65, hFp_67, e65, e67, P_allV, P_ffV, den_s, den_c, Int.add_zero, List.map_cons, List.map_nil] at f0 f1 f2 f3 f4 f5 f6 f7 f8 ⊢
  have b1 : (1 : Int) ≤ ρ 1 ∧ ρ 1 ≤ 49 := hB 1 (1, 49) rfl
  have b14 : (0 : Int) ≤ ρ 14 ∧ ρ 14 ≤ 48 := hB 14 (0, 48) rfl
  have b15 : (121 : Int) ≤ ρ 15 ∧ ρ 15 ≤ 255 := hB 15 (121, 255) rfl
  have b16 : (2 : Int) ≤ ρ 16 ∧ ρ 16 ≤ 2 := hB 16 (2, 2) rfl
  first
    | exact allG_s f8 (by unfold gV; omega)
    | (unfold ffV; exact Or.inl ⟨rfl, fun j h1 h2 => f8 j h1 (by omega), by omega⟩)
    | (unfold ffV; exact Or.inr (Or.inr ⟨rfl, fun j h1 h2 => f8 j h1 (by omega), by omega⟩))
    | (unfold ffV; exact Or.inr (Or.inl ⟨by omega, by omega, f8, by unfold gV; omega⟩)))
def w_FF_V_1_11 : VC := (([(0, 23), (1, 49), (0, 8), (0, 11), (0, 9), (0, 6), (0, 6), (0, 8), (0, 9), (0, 49), (0, 49), ((-2147483648), 2147483647), ((-2147483648), 2147483647), (0, 5), (0, 48), (97, 120), (2, 2)]), [(1, [(none, 1), (none, 0)], []), (3, [(none, 120), (some 15, 0)], []), (3, [(some 15, 0), (none, 97)], []), (0, [(some 16, 0), (none, 2)], []), (8, [(some 16, 0), (some 14, 0), (none, 5)], []), (20, [(some 15, 0), (some 14, 0)], [4]), (1, [(none, 1), (none, 0)], []), (2, [(some 14, 0), (some 1, 0)], []), (65, [(some 14, 0)], [4])], (65, [(some 14, 1)], [4]))
set_option maxRecDepth 20000 in
theorem v_FF_V_1_11 {PT : PTy} (hp : HP1 PT) : vcOk PT w_FF_V_1_11 := vc_of (fun ρ α hB hF => by
  obtain ⟨f0, f1, f2, f3, f4, f5, f6, f7, f8, -⟩ := hF
  have e65 : PT 65 = P_allV := hp.2.2.1
  simp only [hF0, hF1, hF2, hF3, hF8, hF20, hFp_65, e65, P_allV, den_s, den_c, Int.add_zero, List.map_cons, List.map_nil] at f0 f1 f2 f3 f4 f5 f6 f7 f8 ⊢
  have b1 : (1 : Int) ≤ ρ 1 ∧ ρ 1 ≤ 49 := hB 1 (1, 49) rfl
  have b14 : (0 : Int) ≤ ρ 14 ∧ ρ 14 ≤ 48 := hB 14 (0, 48) rfl
  have b15 : (97 : Int) ≤ ρ 15 ∧ ρ 15 ≤ 120 := hB 15 (97, 120) rfl
  have b16 : (2 : Int) ≤ ρ 16 ∧ ρ 16 ≤ 2 := hB 16 (2, 2) rfl
  first
    | exact allG_s f8 (by unfold gV; omega)
    | (unfold ffV; exact Or.inl ⟨rfl, fun j h1 h2 => f8 j h1 (by omega), by omega⟩)
    | (unfold ffV; exact Or.inr (Or.inr ⟨rfl, fun j h1 h2 => f8 j h1 (by omega), by omega⟩))
    | (unfold ffV; exact Or.inr (Or.inl ⟨by omega, by omega, f8, by unfold gV; omega⟩)))
def w_FF_V_1_12 : VC := (([(0, 23), (1, 49), (0, 8), (0, 11), (0, 9), (0, 6), (0, 6), (0, 8), (0, 9), (0, 49), (0, 49), ((-2147483648), 2147483647), ((-2147483648), 2147483647), (0, 5), (0, 48), (0, 96), (3, 3)]), [(0, [(none, 0), (none, 0)], []), (2, [(some 15, 0), (none, 97)], []), (0, [(some 16, 0), (none, 3)], []), (8, [(some 16, 0), (some 14, 0), (none, 5)], []), (20, [(some 15, 0), (some 14, 0)], [4]), (1, [(none, 1), (none, 0)], []), (2, [(some 14, 0), (some 1, 0)], []), (65, [(some 14, 0)], [4])], (67, [(some 14, 0), (some 1, 0)], [4]))
set_option maxRecDepth 20000 in
theorem v_FF_V_1_12 {PT : PTy} (hp : HP1 PT) : vcOk PT w_FF_V_1_12 := vc_of (fun ρ α hB hF => by
  obtain ⟨f0, f1, f2, f3, f4, f5, f6, f7, -⟩ := hF
  have e65 : PT 65 = P_allV := hp.2.2.1
  have e67 : PT 67 = P_ffV := hp.2.2.2.2.1
  simp only [hF0, hF1, hF2, hF8, hF20, hFp_65, hFp_67, e65, e67, P_allV, P_ffV, den_s, den_c, Int.add_zero, List.map_cons, List.map_nil] at f0 f1 f2 f3 f4 f5 f6 f7 ⊢
  have b1 : (1 : Int) ≤ ρ 1 ∧ ρ 1 ≤ 49 := hB 1 (1, 49) rfl
  have b14 : (0 : Int) ≤ ρ 14 ∧ ρ 14 ≤ 48 := hB 14 (0, 48) rfl
  have b15 : (0 : Int) ≤ ρ 15 ∧ ρ 15 ≤ 96 := hB 15 (0, 96) rfl
  have b16 : (3 : Int) ≤ ρ 16 ∧ ρ 16 ≤ 3 := hB 16 (3, 3) rfl
  first
    | exact allG_s f7 (by unfold gV; omega)
    | (unfold ffV; exact Or.inl ⟨rfl, fun j h1 h2 => f7 j h1 (by omega), by omega⟩)
    | (unfold ffV; exact Or.inr (Or.inr ⟨rfl, fun j h1 h2 => f7 j h1 (by omega), by omega⟩))
    | (unfold ffV; exact Or.inr (Or.inl ⟨by omega, by omega, f7, by unfold gV; omega⟩)))
def w_FF_V_1_13 : VC := (([(0, 23), (1, 49), (0, 8), (0, 11), (0, 9), (0, 6), (0, 6), (0, 8), (0, 9), (0, 49), (0, 49), ((-2147483648), 2147483647), ((-2147483648), 2147483647), (0, 5), (0, 48), (121, 255), (3, 3)]), [(0, [(none, 0), (none, 0)], []), (2, [(none, 120), (some 15, 0)], []), (3, [(some 15, 0), (none, 97)], []), (0, [(some 16, 0), (none, 3)], []), (8, [(some 16, 0), (some 14, 0), (none, 5)], []), (20, [(some 15, 0), (some 14, 0)], [4]), (1, [(none, 1), (none, 0)], []), (2, [(some 14, 0), (some 1, 0)], []), (65, [(some 14, 0)], [4])], (67, [(some 14, 0), (some 1, 0)], [4]))
set_option maxRecDepth 20000 in
theorem v_FF_V_1_13 {PT : PTy} (hp : HP1 PT) : vcOk PT w_FF_V_1_13 := vc_of (fun ρ α hB hF => by
  obtain ⟨f0, f1, f2, f3, f4, f5, f6, f7, f8, -⟩ := hF
  have e65 : PT 65 = P_allV := hp.2.2.1
  have e67 : PT 67 = P_ffV := hp.2.2.2.2.1
  simp only [hF0, hF1, hF2, hF3, hF8, hF20, hFp_65, hFp_67, e65, e67, P_allV, P_ffV, den_s, den_c, Int.add_zero, List.map_cons, List.map_nil] at f0 f1 f2 f3 f4 f5 f6 f7 f8 ⊢
  have b1 : (1 : Int) ≤ ρ 1 ∧ ρ 1 ≤ 49 := hB 1 (1, 49) rfl
  have b14 : (0 : Int) ≤ ρ 14 ∧ ρ 14 ≤ 48 := hB 14 (0, 48) rfl
  have b15 : (121 : Int) ≤ ρ 15 ∧ ρ 15 ≤ 255 := hB 15 (121, 255) rfl
  have b16 : (3 : Int) ≤ ρ 16 ∧ ρ 16 ≤ 3 := hB 16 (3, 3) rfl
  first
    | exact allG_s f8 (by unfold gV; omega)
    | (unfold ffV; exact Or.inl ⟨rfl, fun j h1 h2 => f8 j h1 (by omega), by omega⟩)
    | (unfold ffV; exact Or.inr (Or.inr ⟨rfl, fun j h1 h2 => f8 j h1 (by omega), by omega⟩))
    | (unfold ffV; exact Or.inr (Or.inl ⟨by omega, by omega, f8, by unfold gV; omega⟩)))
def w_FF_V_1_14 : VC := (([(0, 23), (1, 49), (0, 8), (0, 11), (0, 9), (0, 6), (0, 6), (0, 8), (0, 9), (0, 49), (0, 49), ((-2147483648), 2147483647), ((-2147483648), 2147483647), (0, 5), (0, 48), (97, 120), (3, 3)]), [(1, [(none, 1), (none, 0)], []), (3, [(none, 120), (some 15, 0)], []), (3, [(some 15, 0), (none, 97)], []), (0, [(some 16, 0), (none, 3)], []), (8, [(some 16, 0), (some 14, 0), (none, 5)], []), (20, [(some 15, 0), (some 14, 0)], [4]), (1, [(none, 1), (none, 0)], []), (2, [(some 14, 0), (some 1, 0)], []), (65, [(some 14, 0)], [4])], (65, [(some 14, 1)], [4]))
set_option maxRecDepth 20000 in
theorem v_FF_V_1_14 {PT : PTy} (hp : HP1 PT) : vcOk PT w_FF_V_1_14 := vc_of (fun ρ α hB hF => by
  obtain ⟨f0, f1, f2, f3, f4, f5, f6, f7, f8, -⟩ := hF
  have e65 : PT 65 = P_allV := hp.2.2.1
  simp only [hF0, hF1, hF2, hF3, hF8, hF20, hFp_65, e65, P_allV, den_s, den_c, Int.add_zero, List.map_cons, List.map_nil] at f0 f1 f2 f3 f4 f5 f6 f7 f8 ⊢
  have b1 : (1 : Int) ≤ ρ 1 ∧ ρ 1 ≤ 49 := hB 1 (1, 49) rfl
  have b14 : (0 : Int) ≤ ρ 14 ∧ ρ 14 ≤ 48 := hB 14 (0, 48) rfl
  have b15 : (97 : Int) ≤ ρ 15 ∧ ρ 15 ≤ 120 := hB 15 (97, 120) rfl
  have b16 : (3 : Int) ≤ ρ 16 ∧ ρ 16 ≤ 3 := hB 16 (3, 3) rfl
  first
    | exact allG_s f8 (by unfold gV; omega)
    | (unfold ffV; exact Or.inl ⟨rfl, fun j h1 h2 => f8 j h1 (by omega), by omega⟩)
    | (unfold ffV; exact Or.inr (Or.inr ⟨rfl, fun j h1 h2 => f8 j h1 (by omega), by omega⟩))
    | (unfold ffV; exact Or.inr (Or.inl ⟨by omega, by omega, f8, by unfold gV; omega⟩)))
def w_FF_V_1_15 : VC := (([(0, 23), (1, 49), (0, 8), (0, 11), (0, 9), (0, 6), (0, 6), (0, 8), (0, 9), (0, 49), (0, 49), ((-2147483648), 2147483647), ((-2147483648), 2147483647), (0, 5), (0, 48), (0, 255), (4, 4)]), [(0, [(none, 0), (none, 0)], []), (1, [(some 15, 0), (none, 59)], []), (0, [(some 16, 0), (none, 4)], []), (8, [(some 16, 0), (some 14, 0), (none, 5)], []), (20, [(some 15, 0), (some 14, 0)], [4]), (1, [(none, 1), (none, 0)], []), (2, [(some 14, 0), (some 1, 0)], []), (65, [(some 14, 0)], [4])], (67, [(some 14, 0), (some 1, 0)], [4]))
set_option maxRecDepth 20000 in
theorem v_FF_V_1_15 {PT : PTy} (hp : HP1 PT) : vcOk PT w_FF_V_1_15 := vc_of (fun ρ α hB hF => by
  obtain ⟨f0, f1, f2, f3, f4, f5, f6, f7, -⟩ := hF
  have e65 : PT 65 = P_allV := hp.2.2.1
  have e67 : PT 67 = P_ffV := hp.2.2.2.2.1
  simp only [hF0, hF1, hF2, hF8, hF20, hFp_65, hFp_67, e65, e67, P_allV, P_ffV, den_s, den_c, Int.add_zero, List.map_cons, List.map_nil] at f0 f1 f2 f3 f4 f5 f6 f7 ⊢
  have b1 : (1 : Int) ≤ ρ 1 ∧ ρ 1 ≤ 49 := hB 1 (1, 49) rfl
  have b14 : (0 : Int) ≤ ρ 14 ∧ ρ 14 ≤ 48 := hB 14 (0, 48) rfl
  have b15 : (0 : Int) ≤ ρ 15 ∧ ρ 15 ≤ 255 := hB 15 (0, 255) rfl
  have b16 : (4 : Int) ≤ ρ 16 ∧ ρ 16 ≤ 4 := hB 16 (4, 4) rfl
  first
    | exact allG_s f7 (by unfold gV; omega)
    | (unfold ffV; exact Or.inl ⟨rfl, fun j h1 h2 => f7 j h1 (by omega), by omega⟩)
    | (unfold ffV; exact Or.inr (Or.inr ⟨rfl, fun j h1 h2 => f7 j h1 (by omega), by omega⟩))
    | (unfold ffV; exact Or.inr (Or.inl ⟨by omega, by omega, f7, by unfold gV; omega⟩)))
def w_FF_V_1_16 : VC := (([(0, 23), (1, 49), (0, 8), (0, 11), (0, 9), (0, 6), (0, 6), (0, 8), (0, 9), (0, 49), (0, 49), ((-2147483648), 2147483647), ((-2147483648), 2147483647), (0, 5), (0, 48), (59, 59), (4, 4)]), [(1, [(none, 1), (none, 0)], []), (0, [(some 15, 0), (none, 59)], []), (0, [(some 16, 0), (none, 4)], []), (8, [(some 16, 0), (some 14, 0), (none, 5)], []), (20, [(some 15, 0), (some 14, 0)], [4]), (1, [(none, 1), (none, 0)], []), (2, [(some 14, 0), (some 1, 0)], []), (65, [(some 14, 0)], [4])], (65, [(some 14, 1)], [4]))
set_option maxRecDepth 20000 in
theorem v_FF_V_1_16 {PT : PTy} (hp : HP1 PT) : vcOk PT w_FF_V_1_16 := vc_of (fun ρ α hB hF => by
  obtain ⟨f0, f1, f2, f3, f4, f5, f6, f7, -⟩ := hF
  have e65 : PT 65 = P_allV := hp.2.2.1
  simp only [hF0, hF1, hF2, hF8, hF20, hFp_65, e65, P_allV, den_s, den_c, Int.add_zero, List.map_cons, List.map_nil] at f0 f1 f2 f3 f4 f5 f6 f7 ⊢
  have b1 : (1 : Int) ≤ ρ 1 ∧ ρ 1 ≤ 49 := hB 1 (1, 49) rfl
  have b14 : (0 : Int) ≤ ρ 14 ∧ ρ 14 ≤ 48 := hB 14 (0, 48) rfl
  have b15 : (59 : Int) ≤ ρ 15 ∧ ρ 15 ≤ 59 := hB 15 (59, 59) rfl
  have b16 : (4 : Int) ≤ ρ 16 ∧ ρ 16 ≤ 4 := hB 16 (4, 4) rfl
  first
    | exact allG_s f7 (by unfold gV; omega)
    | (unfold ffV; exact Or.inl ⟨rfl, fun j h1 h2 => f7 j h1 (by omega), by omega⟩)
    | (unfold ffV; exact Or.inr (Or.inr ⟨rfl, fun j h1 h2 => f7 j h1 (by omega), by omega⟩))
    | (unfold ffV; exact Or.inr (Or.inl ⟨by omega, by omega, f7, by unfold gV; omega⟩)))
set_option maxRecDepth 1000000 in
theorem k_FF_V {PT : PTy} (hp : HP1 PT) : wfX c_FF_V = true ∧ xcOk PT c_FF_V := xctr (xl0) c_FF_V 53 mX3_firstFault rfl h_FF_V (by decide +kernel) (by decide +kernel) (by decide) (vcs_by [w_FF_V_0_0] (by decide +kernel) (vc (v_FF_V_0_0 hp) vn)) (fmc (vcs_by [w_FF_V_1_0, w_FF_V_1_1, w_FF_V_1_2, w_FF_V_1_3, w_FF_V_1_4, w_FF_V_1_5, w_FF_V_1_6, w_FF_V_1_7, w_FF_V_1_8, w_FF_V_1_9, w_FF_V_1_10, w_FF_V_1_11, w_FF_V_1_12, w_FF_V_1_13, w_FF_V_1_14, w_FF_V_1_15, w_FF_V_1_16] (by decide +kernel) (vc (v_FF_V_1_0 hp) (vc (v_FF_V_1_1 hp) (vc (v_FF_V_1_2 hp) (vc (v_FF_V_1_3 hp) (vc (v_FF_V_1_4 hp) (vc (v_FF_V_1_5 hp) (vc (v_FF_V_1_6 hp) (vc (v_FF_V_1_7 hp) (vc (v_FF_V_1_8 hp) (vc (v_FF_V_1_9 hp) (vc (v_FF_V_1_10 hp) (vc (v_FF_V_1_11 hp) (vc (v_FF_V_1_12 hp) (vc (v_FF_V_1_13 hp) (vc (v_FF_V_1_14 hp) (vc (v_FF_V_1_15 hp) (vc (v_FF_V_1_16 hp) vn)))))))))))))))))) fmn)
def c_take_P : XC := (19, 2, (bX), [.inr (.inl 6), .inr (.inl 1)], (gX 999), [], [((bX ++ [(0, 8)]), none, (hst (gX 999) [(6, .inr (.inr (.inr (1, [.inr (.inl 7), .inr (.inl 8), .inl (some 14, 0)]))))]), (ansT 58 [(7, 58), (8, 59)]), 60, [(68, [(some 14, 0), (some 0, 0)], [2]), (70, [(some 14, 0)], [2, 58, 59])])])
def h_take_P : List XH := [(31, (bX ++ [(0, 8), (0, 8)]), [some (.inr (.inl 6)), some (.inr (.inl 1)), some (.inl (some 14, 0)), none], (hst (gX 999) [(6, .inr (.inr (.inr (1, [.inr (.inl 7), .inr (.inl 8), .inl (some 15, 0)]))))]), (ansT 58 [(7, 58), (8, 59)]), 60, [(68, [(some 15, 0), (some 0, 0)], [2]), (70, [(some 14, 0)], [2, 58, 59])], [(true, (none, 1)), (true, (some 14, 0))])]
def w_take_P_0_0 : VC := ((bX ++ [(0, 23)]), [(1, [(some 14, 0), (none, (-1))], []), (66, [(some 14, 0), (some 0, 0)], [2])], (68, [(none, 0), (some 0, 0)], [2]))
set_option maxRecDepth 20000 in
theorem v_take_P_0_0 {PT : PTy} (hp : HP1 PT) : vcOk PT w_take_P_0_0 := vc_of (fun ρ α hB hF => by
  obtain ⟨f0, f1, -⟩ := hF
  have e66 : PT 66 = P_ffP := hp.2.2.2.1
  have e68 : PT 68 = P_nP := hp.2.2.2.2.2.1
  simp only [hF1, hFp_66, hFp_68, e66, e68, P_ffP, P_nP, den_s, den_c, Int.add_zero, List.map_cons, List.map_nil] at f0 f1 ⊢
  have b0 : (0 : Int) ≤ ρ 0 ∧ ρ 0 ≤ 23 := hB 0 (0, 23) rfl
  have b14 : (0 : Int) ≤ ρ 14 ∧ ρ 14 ≤ 23 := hB 14 (0, 23) rfl
  exact ⟨fun w => absurd w (ffP_no f1 f0 b0.1), fun _ => rfl⟩)
def w_take_P_0_1 : VC := ((bX ++ [(0, 23)]), [(1, [(some 14, 0), (none, (-1))], []), (66, [(some 14, 0), (some 0, 0)], [2])], (70, [(none, 0)], [2, 7, 8]))
set_option maxRecDepth 20000 in
theorem v_take_P_0_1 {PT : PTy} (hp : HP1 PT) : vcOk PT w_take_P_0_1 := vc_of (fun ρ α hB hF => by
  obtain ⟨f0, f1, -⟩ := hF
  have e66 : PT 66 = P_ffP := hp.2.2.2.1
  have e70 : PT 70 = P_tkP := hp.2.2.2.2.2.2.2.1
  simp only [hF1, hFp_66, hFp_70, e66, e70, P_ffP, P_tkP, den_s, den_c, Int.add_zero, List.map_cons, List.map_nil] at f0 f1 ⊢
  have b0 : (0 : Int) ≤ ρ 0 ∧ ρ 0 ≤ 23 := hB 0 (0, 23) rfl
  have b14 : (0 : Int) ≤ ρ 14 ∧ ρ 14 ≤ 23 := hB 14 (0, 23) rfl
  exact tkP_z)
def w_take_P_0_2 : VC := ((bX ++ [((-1), (-1)), (0, 24), (0, 8)]), [(23, [(some 16, 0), (some 15, 0), (none, 8)], []), (7, [(some 15, 0), (some 0, 1), (none, 3)], []), (0, [(some 14, 0), (none, (-1))], []), (66, [(some 14, 0), (some 0, 0)], [2])], (68, [(some 16, 0), (some 0, 0)], [2]))
set_option maxRecDepth 20000 in
theorem v_take_P_0_2 {PT : PTy} (hp : HP1 PT) : vcOk PT w_take_P_0_2 := vc_of (fun ρ α hB hF => by
  obtain ⟨f0, f1, f2, f3, -⟩ := hF
  have e66 : PT 66 = P_ffP := hp.2.2.2.1
  have e68 : PT 68 = P_nP := hp.2.2.2.2.2.1
  simp only [hF0, hF7, hF23, hFp_66, hFp_68, e66, e68, P_ffP, P_nP, den_s, den_c, Int.add_zero, List.map_cons, List.map_nil] at f0 f1 f2 f3 ⊢
  have b0 : (0 : Int) ≤ ρ 0 ∧ ρ 0 ≤ 23 := hB 0 (0, 23) rfl
  have b14 : ((-1) : Int) ≤ ρ 14 ∧ ρ 14 ≤ (-1) := hB 14 ((-1), (-1)) rfl
  have b15 : (0 : Int) ≤ ρ 15 ∧ ρ 15 ≤ 24 := hB 15 (0, 24) rfl
  have b16 : (0 : Int) ≤ ρ 16 ∧ ρ 16 ≤ 8 := hB 16 (0, 8) rfl
  exact ⟨fun _ => by omega, fun w => absurd (ffP_yes f3 f2 b0.1) w⟩)
def w_take_P_0_3 : VC := ((bX ++ [((-1), (-1)), (0, 24), (0, 8)]), [(23, [(some 16, 0), (some 15, 0), (none, 8)], []), (7, [(some 15, 0), (some 0, 1), (none, 3)], []), (0, [(some 14, 0), (none, (-1))], []), (66, [(some 14, 0), (some 0, 0)], [2])], (70, [(none, 0)], [2, 7, 8]))
set_option maxRecDepth 20000 in
theorem v_take_P_0_3 {PT : PTy} (hp : HP1 PT) : vcOk PT w_take_P_0_3 := vc_of (fun ρ α hB hF => by
  obtain ⟨f0, f1, f2, f3, -⟩ := hF
  have e66 : PT 66 = P_ffP := hp.2.2.2.1
  have e70 : PT 70 = P_tkP := hp.2.2.2.2.2.2.2.1
  simp only [hF0, hF7, hF23, hFp_66, hFp_70, e66, e70, P_ffP, P_tkP, den_s, den_c, Int.add_zero, List.map_cons, List.map_nil] at f0 f1 f2 f3 ⊢
  have b0 : (0 : Int) ≤ ρ 0 ∧ ρ 0 ≤ 23 := hB 0 (0, 23) rfl
  have b14 : ((-1) : Int) ≤ ρ 14 ∧ ρ 14 ≤ (-1) := hB 14 ((-1), (-1)) rfl
  have b15 : (0 : Int) ≤ ρ 15 ∧ ρ 15 ≤ 24 := hB 15 (0, 24) rfl
  have b16 : (0 : Int) ≤ ρ 16 ∧ ρ 16 ≤ 8 := hB 16 (0, 8) rfl
  exact tkP_z)
def w_take_P_1_0 : VC := ((bX ++ [(0, 8), (0, 8)]), [(3, [(some 14, 0), (some 15, 0)], []), (68, [(some 15, 0), (some 0, 0)], [2]), (70, [(some 14, 0)], [2, 58, 59])], (70, [(some 15, 0)], [2, 58, 59]))
set_option maxRecDepth 20000 in
theorem v_take_P_1_0 {PT : PTy} (hp : HP1 PT) : vcOk PT w_take_P_1_0 := vc_of (fun ρ α hB hF => by
  obtain ⟨f0, f1, f2, -⟩ := hF
  have e68 : PT 68 = P_nP := hp.2.2.2.2.2.1
  have e70 : PT 70 = P_tkP := hp.2.2.2.2.2.2.2.1
  simp only [hF3, hFp_68, hFp_70, e68, e70, P_nP, P_tkP, den_s, den_c, Int.add_zero, List.map_cons, List.map_nil] at f0 f1 f2 ⊢
  have b0 : (0 : Int) ≤ ρ 0 ∧ ρ 0 ≤ 23 := hB 0 (0, 23) rfl
  have b14 : (0 : Int) ≤ ρ 14 ∧ ρ 14 ≤ 8 := hB 14 (0, 8) rfl
  have b15 : (0 : Int) ≤ ρ 15 ∧ ρ 15 ≤ 8 := hB 15 (0, 8) rfl
  exact fun j h1 h2 => f2 j h1 (by omega))
def w_take_P_1_1 : VC := ((bX ++ [(0, 7), (1, 8), (0, 21), (0, 255), (0, 21), (0, 255)]), [(20, [(some 19, 0), (some 18, 1)], [2]), (6, [(some 18, 0), (none, 3), (some 14, 0)], []), (21, [(some 14, 0), (none, 0)], [60, 58]), (1, [(some 17, 0), (none, 97)], []), (1, [(some 17, 0), (none, 115)], []), (20, [(some 17, 0), (some 16, 0)], [2]), (6, [(some 16, 0), (none, 3), (some 14, 0)], []), (2, [(some 14, 0), (some 15, 0)], []), (68, [(some 15, 0), (some 0, 0)], [2]), (70, [(some 14, 0)], [2, 58, 59])], (3, [(some 19, (-48)), (none, 0)], []))
set_option maxRecDepth 20000 in
theorem v_take_P_1_1 {PT : PTy} (hp : HP1 PT) : vcOk PT w_take_P_1_1 := vc_of (fun ρ α hB hF => by
  obtain ⟨f0, f1, f2, f3, f4, f5, f6, f7, f8, f9, -⟩ := hF
  have e68 : PT 68 = P_nP := hp.2.2.2.2.2.1
  have e70 : PT 70 = P_tkP := hp.2.2.2.2.2.2.2.1
  simp only [hF1, hF2, hF3, hF6, hF20, hF21, hFp_68, hFp_70, e68, e70, P_nP, P_tkP, den_s, den_c, Int.add_zero, List.map_cons, List.map_nil] at f0 f1 f2 f3 f4 f5 f6 f7 f8 f9 ⊢
  have b0 : (0 : Int) ≤ ρ 0 ∧ ρ 0 ≤ 23 := hB 0 (0, 23) rfl
  have b14 : (0 : Int) ≤ ρ 14 ∧ ρ 14 ≤ 7 := hB 14 (0, 7) rfl
  have b15 : (1 : Int) ≤ ρ 15 ∧ ρ 15 ≤ 8 := hB 15 (1, 8) rfl
  have b16 : (0 : Int) ≤ ρ 16 ∧ ρ 16 ≤ 21 := hB 16 (0, 21) rfl
  have b17 : (0 : Int) ≤ ρ 17 ∧ ρ 17 ≤ 255 := hB 17 (0, 255) rfl
  have b18 : (0 : Int) ≤ ρ 18 ∧ ρ 18 ≤ 21 := hB 18 (0, 21) rfl
  have b19 : (0 : Int) ≤ ρ 19 ∧ ρ 19 ≤ 255 := hB 19 (0, 255) rfl
  clear hB
  generalize ρ 0 = r0, ρ 14 = r14, ρ 15 = r15, ρ 16 = r16, ρ 17 = r17, ρ 18 = r18, ρ 19 = r19, α 2 = a2, α 58 = a58, α 59 = a59, α 60 = a60 at *
  subst f0
  subst f1
  subst f2
  subst f5
  subst f6
  first
    | exact tkP_s f9 (by unfold soP; repeat' split; all_goals omega) (by omega)
    | (have w := wellP_at f8 b0.1 (i := r14) (by omega) (by omega); omega))
def w_take_P_1_2 : VC := ((bX ++ [(0, 7), (1, 8), (0, 21), (0, 255), (0, 21), (0, 255)]), [(20, [(some 19, 0), (some 18, 1)], [2]), (6, [(some 18, 0), (none, 3), (some 14, 0)], []), (21, [(some 14, 0), (none, 0)], [60, 58]), (1, [(some 17, 0), (none, 97)], []), (1, [(some 17, 0), (none, 115)], []), (20, [(some 17, 0), (some 16, 0)], [2]), (6, [(some 16, 0), (none, 3), (some 14, 0)], []), (2, [(some 14, 0), (some 15, 0)], []), (68, [(some 15, 0), (some 0, 0)], [2]), (70, [(some 14, 0)], [2, 58, 59])], (3, [(none, 9), (some 19, (-48))], []))
set_option maxRecDepth 20000 in
theorem v_take_P_1_2 {PT : PTy} (hp : HP1 PT) : vcOk PT w_take_P_1_2 := vc_of (fun ρ α hB hF => by
  obtain ⟨f0, f1, f2, f3, f4, f5, f6, f7, f8, f9, -⟩ := hF
  have e68 : PT 68 = P_nP := hp.2.2.2.2.2.1
  have e70 : PT 70 = P_tkP := hp.2.2.2.2.2.2.2.1
  simp only [hF1, hF2, hF3, hF6, hF20, hF21, hFp_68, hFp_70, e68, e70, P_nP, P_tkP, den_s, den_c, Int.add_zero, List.map_cons, List.map_nil] at f0 f1 f2 f3 f4 f5 f6 f7 f8 f9 ⊢
  have b0 : (0 : Int) ≤ ρ 0 ∧ ρ 0 ≤ 23 := hB 0 (0, 23) rfl
  have b14 : (0 : Int) ≤ ρ 14 ∧ ρ 14 ≤ 7 := hB 14 (0, 7) rfl
  have b15 : (1 : Int) ≤ ρ 15 ∧ ρ 15 ≤ 8 := hB 15 (1, 8) rfl
  have b16 : (0 : Int) ≤ ρ 16 ∧ ρ 16 ≤ 21 := hB 16 (0, 21) rfl
  have b17 : (0 : Int) ≤ ρ 17 ∧ ρ 17 ≤ 255 := hB 17 (0, 255) rfl
  have b18 : (0 : Int) ≤ ρ 18 ∧ ρ 18 ≤ 21 := hB 18 (0, 21) rfl
  have b19 : (0 : Int) ≤ ρ 19 ∧ ρ 19 ≤ 255 := hB 19 (0, 255) rfl
  clear hB
  generalize ρ 0 = r0, ρ 14 = r14, ρ 15 = r15, ρ 16 = r16, ρ 17 = r17, ρ 18 = r18, ρ 19 = r19, α 2 = a2, α 58 = a58, α 59 = a59, α 60 = a60 at *
  subst f0
  subst f1
  subst f2
  subst f5
  subst f6
  first
    | exact tkP_s f9 (by unfold soP; repeat' split; all_goals omega) (by omega)
    | (have w := wellP_at f8 b0.1 (i := r14) (by omega) (by omega); omega))
def w_take_P_1_3 : VC := ((bX ++ [(0, 7), (1, 8), (0, 21), (0, 255), (0, 21), (48, 57)]), [(21, [(some 14, 0), (some 19, (-48))], [61, 59]), (20, [(some 19, 0), (some 18, 1)], [2]), (6, [(some 18, 0), (none, 3), (some 14, 0)], []), (21, [(some 14, 0), (none, 0)], [60, 58]), (1, [(some 17, 0), (none, 97)], []), (1, [(some 17, 0), (none, 115)], []), (20, [(some 17, 0), (some 16, 0)], [2]), (6, [(some 16, 0), (none, 3), (some 14, 0)], []), (2, [(some 14, 0), (some 15, 0)], []), (68, [(some 15, 0), (some 0, 0)], [2]), (70, [(some 14, 0)], [2, 58, 59])], (70, [(some 14, 1)], [2, 60, 61]))
set_option maxRecDepth 20000 in
theorem v_take_P_1_3 {PT : PTy} (hp : HP1 PT) : vcOk PT w_take_P_1_3 := vc_of (fun ρ α hB hF => by
  obtain ⟨f0, f1, f2, f3, f4, f5, f6, f7, f8, f9, f10, -⟩ := hF
  have e68 : PT 68 = P_nP := hp.2.2.2.2.2.1
  have e70 : PT 70 = P_tkP := hp.2.2.2.2.2.2.2.1
  simp only [hF1, hF2, hF6, hF20, hF21, hFp_68, hFp_70, e68, e70, P_nP, P_tkP, den_s, den_c, Int.add_zero, List.map_cons, List.map_nil] at f0 f1 f2 f3 f4 f5 f6 f7 f8 f9 f10 ⊢
  have b0 : (0 : Int) ≤ ρ 0 ∧ ρ 0 ≤ 23 := hB 0 (0, 23) rfl
  have b14 : (0 : Int) ≤ ρ 14 ∧ ρ 14 ≤ 7 := hB 14 (0, 7) rfl
  have b15 : (1 : Int) ≤ ρ 15 ∧ ρ 15 ≤ 8 := hB 15 (1, 8) rfl
  have b16 : (0 : Int) ≤ ρ 16 ∧ ρ 16 ≤ 21 := hB 16 (0, 21) rfl
  have b17 : (0 : Int) ≤ ρ 17 ∧ ρ 17 ≤ 255 := hB 17 (0, 255) rfl
  have b18 : (0 : Int) ≤ ρ 18 ∧ ρ 18 ≤ 21 := hB 18 (0, 21) rfl
  have b19 : (48 : Int) ≤ ρ 19 ∧ ρ 19 ≤ 57 := hB 19 (48, 57) rfl
  clear hB
  generalize ρ 0 = r0, ρ 14 = r14, ρ 15 = r15, ρ 16 = r16, ρ 17 = r17, ρ 18 = r18, ρ 19 = r19, α 2 = a2, α 58 = a58, α 59 = a59, α 60 = a60, α 61 = a61 at *
  subst f0
  subst f1
  subst f2
  subst f3
  subst f6
  subst f7
  first
    | exact tkP_s f10 (by unfold soP; repeat' split; all_goals omega) (by omega)
    | (have w := wellP_at f9 b0.1 (i := r14) (by omega) (by omega); omega))
def w_take_P_1_4 : VC := ((bX ++ [(0, 7), (1, 8), (0, 21), (97, 97), (0, 21), (0, 255)]), [(20, [(some 19, 0), (some 18, 1)], [2]), (6, [(some 18, 0), (none, 3), (some 14, 0)], []), (21, [(some 14, 0), (none, 2)], [60, 58]), (0, [(some 17, 0), (none, 97)], []), (1, [(some 17, 0), (none, 115)], []), (20, [(some 17, 0), (some 16, 0)], [2]), (6, [(some 16, 0), (none, 3), (some 14, 0)], []), (2, [(some 14, 0), (some 15, 0)], []), (68, [(some 15, 0), (some 0, 0)], [2]), (70, [(some 14, 0)], [2, 58, 59])], (3, [(some 19, (-48)), (none, 0)], []))
set_option maxRecDepth 20000 in
theorem v_take_P_1_4 {PT : PTy} (hp : HP1 PT) : vcOk PT w_take_P_1_4 := vc_of (fun ρ α hB hF => by
  obtain ⟨f0, f1, f2, f3, f4, f5, f6, f7, f8, f9, -⟩ := hF
  have e68 : PT 68 = P_nP := hp.2.2.2.2.2.1
  have e70 : PT 70 = P_tkP := hp.2.2.2.2.2.2.2.1
  simp only [hF0, hF1, hF2, hF3, hF6, hF20, hF21, hFp_68, hFp_70, e68, e70, P_nP, P_tkP, den_s, den_c, Int.add_zero, List.map_cons, List.map_nil] at f0 f1 f2 f3 f4 f5 f6 f7 f8 f9 ⊢
  have b0 : (0 : Int) ≤ ρ 0 ∧ ρ 0 ≤ 23 := hB 0 (0, 23) rfl
  have b14 : (0 : Int) ≤ ρ 14 ∧ ρ 14 ≤ 7 := hB 14 (0, 7) rfl
  have b15 : (1 : Int) ≤ ρ 15 ∧ ρ 15 ≤ 8 := hB 15 (1, 8) rfl
  have b16 : (0 : Int) ≤ ρ 16 ∧ ρ 16 ≤ 21 := hB 16 (0, 21) rfl
  have b17 : (97 : Int) ≤ ρ 17 ∧ ρ 17 ≤ 97 := hB 17 (97, 97) rfl
  have b18 : (0 : Int) ≤ ρ 18 ∧ ρ 18 ≤ 21 := hB 18 (0, 21) rfl
  have b19 : (0 : Int) ≤ ρ 19 ∧ ρ 19 ≤ 255 := hB 19 (0, 255) rfl
  clear hB
  generalize ρ 0 = r0, ρ 14 = r14, ρ 15 = r15, ρ 16 = r16, ρ 17 = r17, ρ 18 = r18, ρ 19 = r19, α 2 = a2, α 58 = a58, α 59 = a59, α 60 = a60 at *
  subst f0
  subst f1
  subst f2
  subst f5
  subst f6
  first
    | exact tkP_s f9 (by unfold soP; repeat' split; all_goals omega) (by omega)
    | (have w := wellP_at f8 b0.1 (i := r14) (by omega) (by omega); omega))
def w_take_P_1_5 : VC := ((bX ++ [(0, 7), (1, 8), (0, 21), (97, 97), (0, 21), (0, 255)]), [(20, [(some 19, 0), (some 18, 1)], [2]), (6, [(some 18, 0), (none, 3), (some 14, 0)], []), (21, [(some 14, 0), (none, 2)], [60, 58]), (0, [(some 17, 0), (none, 97)], []), (1, [(some 17, 0), (none, 115)], []), (20, [(some 17, 0), (some 16, 0)], [2]), (6, [(some 16, 0), (none, 3), (some 14, 0)], []), (2, [(some 14, 0), (some 15, 0)], []), (68, [(some 15, 0), (some 0, 0)], [2]), (70, [(some 14, 0)], [2, 58, 59])], (3, [(none, 9), (some 19, (-48))], []))
set_option maxRecDepth 20000 in
theorem v_take_P_1_5 {PT : PTy} (hp : HP1 PT) : vcOk PT w_take_P_1_5 := vc_of (fun ρ α hB hF => by
  obtain ⟨f0, f1, f2, f3, f4, f5, f6, f7, f8, f9, -⟩ := hF
  have e68 : PT 68 = P_nP := hp.2.2.2.2.2.1
  have e70 : PT 70 = P_tkP := hp.2.2.2.2.2.2.2.1
  simp only [hF0, hF1, hF2, hF3, hF6, hF20, hF21, hFp_68, hFp_70, e68, e70, P_nP, P_tkP, den_s, den_c, Int.add_zero, List.map_cons, List.map_nil] at f0 f1 f2 f3 f4 f5 f6 f7 f8 f9 ⊢
  have b0 : (0 : Int) ≤ ρ 0 ∧ ρ 0 ≤ 23 := hB 0 (0, 23) rfl
  have b14 : (0 : Int) ≤ ρ 14 ∧ ρ 14 ≤ 7 := hB 14 (0, 7) rfl
  have b15 : (1 : Int) ≤ ρ 15 ∧ ρ 15 ≤ 8 := hB 15 (1, 8) rfl
  have b16 : (0 : Int) ≤ ρ 16 ∧ ρ 16 ≤ 21 := hB 16 (0, 21) rfl
  have b17 : (97 : Int) ≤ ρ 17 ∧ ρ 17 ≤ 97 := hB 17 (97, 97) rfl
  have b18 : (0 : Int) ≤ ρ 18 ∧ ρ 18 ≤ 21 := hB 18 (0, 21) rfl
  have b19 : (0 : Int) ≤ ρ 19 ∧ ρ 19 ≤ 255 := hB 19 (0, 255) rfl
  clear hB
  generalize ρ 0 = r0, ρ 14 = r14, ρ 15 = r15, ρ 16 = r16, ρ 17 = r17, ρ 18 = r18, ρ 19 = r19, α 2 = a2, α 58 = a58, α 59 = a59, α 60 = a60 at *
  subst f0
  subst f1
  subst f2
  subst f5
  subst f6
  first
    | exact tkP_s f9 (by unfold soP; repeat' split; all_goals omega) (by omega)
    | (have w := wellP_at f8 b0.1 (i := r14) (by omega) (by omega); omega))
def w_take_P_1_6 : VC := ((bX ++ [(0, 7), (1, 8), (0, 21), (97, 97), (0, 21), (48, 57)]), [(21, [(some 14, 0), (some 19, (-48))], [61, 59]), (20, [(some 19, 0), (some 18, 1)], [2]), (6, [(some 18, 0), (none, 3), (some 14, 0)], []), (21, [(some 14, 0), (none, 2)], [60, 58]), (0, [(some 17, 0), (none, 97)], []), (1, [(some 17, 0), (none, 115)], []), (20, [(some 17, 0), (some 16, 0)], [2]), (6, [(some 16, 0), (none, 3), (some 14, 0)], []), (2, [(some 14, 0), (some 15, 0)], []), (68, [(some 15, 0), (some 0, 0)], [2]), (70, [(some 14, 0)], [2, 58, 59])], (70, [(some 14, 1)], [2, 60, 61]))
set_option maxRecDepth 20000 in
theorem v_take_P_1_6 {PT : PTy} (hp : HP1 PT) : vcOk PT w_take_P_1_6 := vc_of (fun ρ α hB hF => by
  obtain ⟨f0, f1, f2, f3, f4, f5, f6, f7, f8, f9, f10, -⟩ := hF
  have e68 : PT 68 = P_nP := hp.2.2.2.2.2.1
  have e70 : PT 70 = P_tkP := hp.2.2.2.2.2.2.2.1
  simp only [hF0, hF1, hF2, hF6, hF20, hF21, hFp_68, hFp_70, e68, e70, P_nP, P_tkP, den_s, den_c, Int.add_zero, List.map_cons, List.map_nil] at f0 f1 f2 f3 f4 f5 f6 f7 f8 f9 f10 ⊢
  have b0 : (0 : Int) ≤ ρ 0 ∧ ρ 0 ≤ 23 := hB 0 (0, 23) rfl
  have b14 : (0 : Int) ≤ ρ 14 ∧ ρ 14 ≤ 7 := hB 14 (0, 7) rfl
  have b15 : (1 : Int) ≤ ρ 15 ∧ ρ 15 ≤ 8 := hB 15 (1, 8) rfl
  have b16 : (0 : Int) ≤ ρ 16 ∧ ρ 16 ≤ 21 := hB 16 (0, 21) rfl
  have b17 : (97 : Int) ≤ ρ 17 ∧ ρ 17 ≤ 97 := hB 17 (97, 97) rfl
  have b18 : (0 : Int) ≤ ρ 18 ∧ ρ 18 ≤ 21 := hB 18 (0, 21) rfl
  have b19 : (48 : Int) ≤ ρ 19 ∧ ρ 19 ≤ 57 := hB 19 (48, 57) rfl
  clear hB
  generalize ρ 0 = r0, ρ 14 = r14, ρ 15 = r15, ρ 16 = r16, ρ 17 = r17, ρ 18 = r18, ρ 19 = r19, α 2 = a2, α 58 = a58, α 59 = a59, α 60 = a60, α 61 = a61 at *
  subst f0
  subst f1
  subst f2
  subst f3
  subst f6
  subst f7
  first
    | exact tkP_s f10 (by unfold soP; repeat' split; all_goals omega) (by omega)
    | (have w := wellP_at f9 b0.1 (i := r14) (by omega) (by omega); omega))
def w_take_P_1_7 : VC := ((bX ++ [(0, 7), (1, 8), (0, 21), (115, 115), (0, 21), (0, 255)]), [(20, [(some 19, 0), (some 18, 1)], [2]), (6, [(some 18, 0), (none, 3), (some 14, 0)], []), (21, [(some 14, 0), (none, 1)], [60, 58]), (0, [(some 17, 0), (none, 115)], []), (20, [(some 17, 0), (some 16, 0)], [2]), (6, [(some 16, 0), (none, 3), (some 14, 0)], []), (2, [(some 14, 0), (some 15, 0)], []), (68, [(some 15, 0), (some 0, 0)], [2]), (70, [(some 14, 0)], [2, 58, 59])], (3, [(some 19, (-48)), (none, 0)], []))
set_option maxRecDepth 20000 in
theorem v_take_P_1_7 {PT : PTy} (hp : HP1 PT) : vcOk PT w_take_P_1_7 := vc_of (fun ρ α hB hF => by
  obtain ⟨f0, f1, f2, f3, f4, f5, f6, f7, f8, -⟩ := hF
  have e68 : PT 68 = P_nP := hp.2.2.2.2.2.1
  have e70 : PT 70 = P_tkP := hp.2.2.2.2.2.2.2.1
  simp only [hF0, hF2, hF3, hF6, hF20, hF21, hFp_68, hFp_70, e68, e70, P_nP, P_tkP, den_s, den_c, Int.add_zero, List.map_cons, List.map_nil] at f0 f1 f2 f3 f4 f5 f6 f7 f8 ⊢
  have b0 : (0 : Int) ≤ ρ 0 ∧ ρ 0 ≤ 23 := hB 0 (0, 23) rfl
  have b14 : (0 : Int) ≤ ρ 14 ∧ ρ 14 ≤ 7 := hB 14 (0, 7) rfl
  have b15 : (1 : Int) ≤ ρ 15 ∧ ρ 15 ≤ 8 := hB 15 (1, 8) rfl
  have b16 : (0 : Int) ≤ ρ 16 ∧ ρ 16 ≤ 21 := hB 16 (0, 21) rfl
  have b17 : (115 : Int) ≤ ρ 17 ∧ ρ 17 ≤ 115 := hB 17 (115, 115) rfl
  have b18 : (0 : Int) ≤ ρ 18 ∧ ρ 18 ≤ 21 := hB 18 (0, 21) rfl
  have b19 : (0 : Int) ≤ ρ 19 ∧ ρ 19 ≤ 255 := hB 19 (0, 255) rfl
  clear hB
  generalize ρ 0 = r0, ρ 14 = r14, ρ 15 = r15, ρ 16 = r16, ρ 17 = r17, ρ 18 = r18, ρ 19 = r19, α 2 = a2, α 58 = a58, α 59 = a59, α 60 = a60 at *
  subst f0
  subst f1
  subst f2
  subst f4
  subst f5
  first
    | exact tkP_s f8 (by unfold soP; repeat' split; all_goals omega) (by omega)
    | (have w := wellP_at f7 b0.1 (i := r14) (by omega) (by omega); omega))
def w_take_P_1_8 : VC := ((bX ++ [(0, 7), (1, 8), (0, 21), (115, 115), (0, 21), (0, 255)]), [(20, [(some 19, 0), (some 18, 1)], [2]), (6, [(some 18, 0), (none, 3), (some 14, 0)], []), (21, [(some 14, 0), (none, 1)], [60, 58]), (0, [(some 17, 0), (none, 115)], []), (20, [(some 17, 0), (some 16, 0)], [2]), (6, [(some 16, 0), (none, 3), (some 14, 0)], []), (2, [(some 14, 0), (some 15, 0)], []), (68, [(some 15, 0), (some 0, 0)], [2]), (70, [(some 14, 0)], [2, 58, 59])], (3, [(none, 9), (some 19, (-48))], []))
set_option maxRecDepth 20000 in
theorem v_take_P_1_8 {PT : PTy} (hp : HP1 PT) : vcOk PT w_take_P_1_8 := vc_of (fun ρ α hB hF => by
  obtain ⟨f0, f1, f2, f3, f4, f5, f6, f7, f8, -⟩ := hF
  have e68 : PT 68 = P_nP := hp.2.2.2.2.2.1
  have e70 : PT 70 = P_tkP := hp.2.2.2.2.2.2.2.1
  simp only [hF0, hF2, hF3, hF6, hF20, hF21, hFp_68, hFp_70, e68, e70, P_nP, P_tkP, den_s, den_c, Int.add_zero, List.map_cons, List.map_nil] at f0 f1 f2 f3 f4 f5 f6 f7 f8 ⊢
  have b0 : (0 : Int) ≤ ρ 0 ∧ ρ 0 ≤ 23 := hB 0 (0, 23) rfl
  have b14 : (0 : Int) ≤ ρ 14 ∧ ρ 14 ≤ 7 := hB 14 (0, 7) rfl
  have b15 : (1 : Int) ≤ ρ 15 ∧ ρ 15 ≤ 8 := hB 15 (1, 8) rfl
  have b16 : (0 : Int) ≤ ρ 16 ∧ ρ 16 ≤ 21 := hB 16 (0, 21) rfl
  have b17 : (115 : Int) ≤ ρ 17 ∧ ρ 17 ≤ 115 := hB 17 (115, 115) rfl
  have b18 : (0 : Int) ≤ ρ 18 ∧ ρ 18 ≤ 21 := hB 18 (0, 21) rfl
  have b19 : (0 : Int) ≤ ρ 19 ∧ ρ 19 ≤ 255 := hB 19 (0, 255) rfl
  clear hB
  generalize ρ 0 = r0, ρ 14 = r14, ρ 15 = r15, ρ 16 = r16, ρ 17 = r17, ρ 18 = r18, ρ 19 = r19, α 2 = a2, α 58 = a58, α 59 = a59, α 60 = a60 at *
  subst f0
  subst f1
  subst f2
  subst f4
  subst f5
  first
    | exact tkP_s f8 (by unfold soP; repeat' split; all_goals omega) (by omega)
    | (have w := wellP_at f7 b0.1 (i := r14) (by omega) (by omega); omega))
def w_take_P_1_9 : VC := ((bX ++ [(0, 7), (1, 8), (0, 21), (115, 115), (0, 21), (48, 57)]), [(21, [(some 14, 0), (some 19, (-48))], [61, 59]), (20, [(some 19, 0), (some 18, 1)], [2]), (6, [(some 18, 0), (none, 3), (some 14, 0)], []), (21, [(some 14, 0), (none, 1)], [60, 58]), (0, [(some 17, 0), (none, 115)], []), (20, [(some 17, 0), (some 16, 0)], [2]), (6, [(some 16, 0), (none, 3), (some 14, 0)], []), (2, [(some 14, 0), (some 15, 0)], []), (68, [(some 15, 0), (some 0, 0)], [2]), (70, [(some 14, 0)], [2, 58, 59])], (70, [(some 14, 1)], [2, 60, 61]))
set_option maxRecDepth 20000 in
theorem v_take_P_1_9 {PT : PTy} (hp : HP1 PT) : vcOk PT w_take_P_1_9 := vc_of (fun ρ α hB hF => by
  obtain ⟨f0, f1, f2, f3, f4, f5, f6, f7, f8, f9, -⟩ := hF
  have e68 : PT 68 = P_nP := hp.2.2.2.2.2.1
  have e70 : PT 70 = P_tkP := hp.2.2.2.2.2.2.2.1
  simp only [hF0, hF2, hF6, hF20, hF21, hFp_68, hFp_70, e68, e70, P_nP, P_tkP, den_s, den_c, Int.add_zero, List.map_cons, List.map_nil] at f0 f1 f2 f3 f4 f5 f6 f7 f8 f9 ⊢
  have b0 : (0 : Int) ≤ ρ 0 ∧ ρ 0 ≤ 23 := hB 0 (0, 23) rfl
  have b14 : (0 : Int) ≤ ρ 14 ∧ ρ 14 ≤ 7 := hB 14 (0, 7) rfl
  have b15 : (1 : Int) ≤ ρ 15 ∧ ρ 15 ≤ 8 := hB 15 (1, 8) rfl
  have b16 : (0 : Int) ≤ ρ 16 ∧ ρ 16 ≤ 21 := hB 16 (0, 21) rfl
  have b17 : (115 : Int) ≤ ρ 17 ∧ ρ 17 ≤ 115 := hB 17 (115, 115) rfl
  have b18 : (0 : Int) ≤ ρ 18 ∧ ρ 18 ≤ 21 := hB 18 (0, 21) rfl
  have b19 : (48 : Int) ≤ ρ 19 ∧ ρ 19 ≤ 57 := hB 19 (48, 57) rfl
  clear hB
  generalize ρ 0 = r0, ρ 14 = r14, ρ 15 = r15, ρ 16 = r16, ρ 17 = r17, ρ 18 = r18, ρ 19 = r19, α 2 = a2, α 58 = a58, α 59 = a59, α 60 = a60, α 61 = a61 at *
  subst f0
  subst f1
  subst f2
  subst f3
  subst f5
  subst f6
  first
    | exact tkP_s f9 (by unfold soP; repeat' split; all_goals omega) (by omega)
    | (have w := wellP_at f8 b0.1 (i := r14) (by omega) (by omega); omega))
set_option maxRecDepth 1000000 in
theorem k_take_P {PT : PTy} (hp : HP1 PT) : wfX c_take_P = true ∧ xcOk PT c_take_P := xctr (xl (k_FF_P hp) (xl0)) c_take_P 60 mX1_take rfl h_take_P (by decide +kernel) (by decide +kernel) (by decide) (vcs_by [w_take_P_0_0, w_take_P_0_1, w_take_P_0_2, w_take_P_0_3] (by decide +kernel) (vc (v_take_P_0_0 hp) (vc (v_take_P_0_1 hp) (vc (v_take_P_0_2 hp) (vc (v_take_P_0_3 hp) vn))))) (fmc (vcs_by [w_take_P_1_0, w_take_P_1_1, w_take_P_1_2, w_take_P_1_3, w_take_P_1_4, w_take_P_1_5, w_take_P_1_6, w_take_P_1_7, w_take_P_1_8, w_take_P_1_9] (by decide +kernel) (vc (v_take_P_1_0 hp) (vc (v_take_P_1_1 hp) (vc (v_take_P_1_2 hp) (vc (v_take_P_1_3 hp) (vc (v_take_P_1_4 hp) (vc (v_take_P_1_5 hp) (vc (v_take_P_1_6 hp) (vc (v_take_P_1_7 hp) (vc (v_take_P_1_8 hp) (vc (v_take_P_1_9 hp) vn))))))))))) fmn)
def c_take_V : XC := (39, 2, (bX), [.inr (.inl 9), .inr (.inl 3)], (gX 999), [], [((bX ++ [(0, 10)]), none, (hst (gX 999) [(9, .inr (.inr (.inr (5, [.inr (.inl 10), .inr (.inl 11), .inr (.inl 12), .inr (.inl 13), .inl (some 14, 0)]))))]), (ansT 58 [(10, 58), (11, 59), (12, 60), (13, 61)]), 62, [(69, [(some 14, 0), (some 1, 0)], [4]), (71, [(some 14, 0)], [4, 58, 59, 60, 61])])])
def h_take_V : List XH := [(33, (bX ++ [(0, 10), (0, 10), (0, 10)]), [some (.inr (.inl 9)), some (.inr (.inl 3)), some (.inl (some 14, 0)), some (.inl (some 15, 0)), none], (hst (gX 999) [(9, .inr (.inr (.inr (5, [.inr (.inl 10), .inr (.inl 11), .inr (.inl 12), .inr (.inl 13), .inl (some 16, 0)]))))]), (ansT 58 [(10, 58), (11, 59), (12, 60), (13, 61)]), 62, [(69, [(some 14, 0), (some 1, 0)], [4]), (0, [(some 16, 0), (some 15, 0)], []), (3, [(some 14, 0), (some 15, 0)], []), (71, [(some 15, 0)], [4, 58, 59, 60, 61])], [(true, (none, 1)), (true, (some 15, 0))])]
def w_take_V_0_0 : VC := ((bX ++ [(0, 49)]), [(1, [(some 14, 0), (none, (-1))], []), (67, [(some 14, 0), (some 1, 0)], [4])], (69, [(none, 0), (some 1, 0)], [4]))
set_option maxRecDepth 20000 in
theorem v_take_V_0_0 {PT : PTy} (hp : HP1 PT) : vcOk PT w_take_V_0_0 := vc_of (fun ρ α hB hF => by
  obtain ⟨f0, f1, -⟩ := hF
  have e67 : PT 67 = P_ffV := hp.2.2.2.2.1
  have e69 : PT 69 = P_nV := hp.2.2.2.2.2.2.1
  simp only [hF1, hFp_67, hFp_69, e67, e69, P_ffV, P_nV, den_s, den_c, Int.add_zero, List.map_cons, List.map_nil] at f0 f1 ⊢
  have b1 : (0 : Int) ≤ ρ 1 ∧ ρ 1 ≤ 49 := hB 1 (0, 49) rfl
  have b14 : (0 : Int) ≤ ρ 14 ∧ ρ 14 ≤ 49 := hB 14 (0, 49) rfl
  first
    | omega
    | exact tkV_z
    | exact ⟨fun w => absurd w (ffV_no f1 f0 b1.1), fun _ => rfl⟩
    | exact ⟨fun _ => by omega, fun w => absurd (ffV_yes f3 f2 b1.1) w⟩)
def w_take_V_0_1 : VC := ((bX ++ [(0, 49)]), [(1, [(some 14, 0), (none, (-1))], []), (67, [(some 14, 0), (some 1, 0)], [4])], (0, [(none, 0), (none, 0)], []))
theorem v_take_V_0_1 {PT : PTy} (_ : HP1 PT) : vcOk PT w_take_V_0_1 := vc_of (fun ρ α _ _ => rfl)
def w_take_V_0_2 : VC := ((bX ++ [(0, 49)]), [(1, [(some 14, 0), (none, (-1))], []), (67, [(some 14, 0), (some 1, 0)], [4])], (3, [(none, 0), (none, 0)], []))
theorem v_take_V_0_2 {PT : PTy} (_ : HP1 PT) : vcOk PT w_take_V_0_2 := vc_of (fun ρ α _ _ => by simp only [hF3, den_c] <;> omega)
def w_take_V_0_3 : VC := ((bX ++ [(0, 49)]), [(1, [(some 14, 0), (none, (-1))], []), (67, [(some 14, 0), (some 1, 0)], [4])], (71, [(none, 0)], [4, 10, 11, 12, 13]))
set_option maxRecDepth 20000 in
theorem v_take_V_0_3 {PT : PTy} (hp : HP1 PT) : vcOk PT w_take_V_0_3 := vc_of (fun ρ α hB hF => by
  obtain ⟨f0, f1, -⟩ := hF
  have e67 : PT 67 = P_ffV := hp.2.2.2.2.1
  have e71 : PT 71 = P_tkV := hp.2.2.2.2.2.2.2.2.1
  simp only [hF1, hFp_67, hFp_71, e67, e71, P_ffV, P_tkV, den_s, den_c, Int.add_zero, List.map_cons, List.map_nil] at f0 f1 ⊢
  have b1 : (0 : Int) ≤ ρ 1 ∧ ρ 1 ≤ 49 := hB 1 (0, 49) rfl
  have b14 : (0 : Int) ≤ ρ 14 ∧ ρ 14 ≤ 49 := hB 14 (0, 49) rfl
  first
    | omega
    | exact tkV_z
    | exact ⟨fun w => absurd w (ffV_no f1 f0 b1.1), fun _ => rfl⟩
    | exact ⟨fun _ => by omega, fun w => absurd (ffV_yes f3 f2 b1.1) w⟩)
def w_take_V_0_4 : VC := ((bX ++ [((-1), (-1)), (0, 50), (0, 10)]), [(23, [(some 16, 0), (some 15, 0), (none, 10)], []), (7, [(some 15, 0), (some 1, 1), (none, 5)], []), (0, [(some 14, 0), (none, (-1))], []), (67, [(some 14, 0), (some 1, 0)], [4])], (69, [(some 16, 0), (some 1, 0)], [4]))
set_option maxRecDepth 20000 in
theorem v_take_V_0_4 {PT : PTy} (hp : HP1 PT) : vcOk PT w_take_V_0_4 := vc_of (fun ρ α hB hF => by
  obtain ⟨f0, f1, f2, f3, -⟩ := hF
  have e67 : PT 67 = P_ffV := hp.2.2.2.2.1
  have e69 : PT 69 = P_nV := hp.2.2.2.2.2.2.1
  simp only [hF0, hF7, hF23, hFp_67, hFp_69, e67, e69, P_ffV, P_nV, den_s, den_c, Int.add_zero, List.map_cons, List.map_nil] at f0 f1 f2 f3 ⊢
  have b1 : (0 : Int) ≤ ρ 1 ∧ ρ 1 ≤ 49 := hB 1 (0, 49) rfl
  have b14 : ((-1) : Int) ≤ ρ 14 ∧ ρ 14 ≤ (-1) := hB 14 ((-1), (-1)) rfl
  have b15 : (0 : Int) ≤ ρ 15 ∧ ρ 15 ≤ 50 := hB 15 (0, 50) rfl
  have b16 : (0 : Int) ≤ ρ 16 ∧ ρ 16 ≤ 10 := hB 16 (0, 10) rfl
  first
    | omega
    | exact tkV_z
    | exact ⟨fun w => absurd w (ffV_no f1 f0 b1.1), fun _ => rfl⟩
    | exact ⟨fun _ => by omega, fun w => absurd (ffV_yes f3 f2 b1.1) w⟩)
def w_take_V_0_5 : VC := ((bX ++ [((-1), (-1)), (0, 50), (0, 10)]), [(23, [(some 16, 0), (some 15, 0), (none, 10)], []), (7, [(some 15, 0), (some 1, 1), (none, 5)], []), (0, [(some 14, 0), (none, (-1))], []), (67, [(some 14, 0), (some 1, 0)], [4])], (0, [(none, 0), (none, 0)], []))
theorem v_take_V_0_5 {PT : PTy} (_ : HP1 PT) : vcOk PT w_take_V_0_5 := vc_of (fun ρ α _ _ => rfl)
def w_take_V_0_6 : VC := ((bX ++ [((-1), (-1)), (0, 50), (0, 10)]), [(23, [(some 16, 0), (some 15, 0), (none, 10)], []), (7, [(some 15, 0), (some 1, 1), (none, 5)], []), (0, [(some 14, 0), (none, (-1))], []), (67, [(some 14, 0), (some 1, 0)], [4])], (3, [(some 16, 0), (none, 0)], []))
set_option maxRecDepth 20000 in
theorem v_take_V_0_6 {PT : PTy} (hp : HP1 PT) : vcOk PT w_take_V_0_6 := vc_of (fun ρ α hB hF => by
  obtain ⟨f0, f1, f2, f3, -⟩ := hF
  have e67 : PT 67 = P_ffV := hp.2.2.2.2.1
  simp only [hF0, hF3, hF7, hF23, hFp_67, e67, P_ffV, den_s, den_c, Int.add_zero, List.map_cons, List.map_nil] at f0 f1 f2 f3 ⊢
  have b1 : (0 : Int) ≤ ρ 1 ∧ ρ 1 ≤ 49 := hB 1 (0, 49) rfl
  have b14 : ((-1) : Int) ≤ ρ 14 ∧ ρ 14 ≤ (-1) := hB 14 ((-1), (-1)) rfl
  have b15 : (0 : Int) ≤ ρ 15 ∧ ρ 15 ≤ 50 := hB 15 (0, 50) rfl
  have b16 : (0 : Int) ≤ ρ 16 ∧ ρ 16 ≤ 10 := hB 16 (0, 10) rfl
  first
    | omega
    | exact tkV_z
    | exact ⟨fun w => absurd w (ffV_no f1 f0 b1.1), fun _ => rfl⟩
    | exact ⟨fun _ => by omega, fun w => absurd (ffV_yes f3 f2 b1.1) w⟩)
def w_take_V_0_7 : VC := ((bX ++ [((-1), (-1)), (0, 50), (0, 10)]), [(23, [(some 16, 0), (some 15, 0), (none, 10)], []), (7, [(some 15, 0), (some 1, 1), (none, 5)], []), (0, [(some 14, 0), (none, (-1))], []), (67, [(some 14, 0), (some 1, 0)], [4])], (71, [(none, 0)], [4, 10, 11, 12, 13]))
set_option maxRecDepth 20000 in
theorem v_take_V_0_7 {PT : PTy} (hp : HP1 PT) : vcOk PT w_take_V_0_7 := vc_of (fun ρ α hB hF => by
  obtain ⟨f0, f1, f2, f3, -⟩ := hF
  have e67 : PT 67 = P_ffV := hp.2.2.2.2.1
  have e71 : PT 71 = P_tkV := hp.2.2.2.2.2.2.2.2.1
  simp only [hF0, hF7, hF23, hFp_67, hFp_71, e67, e71, P_ffV, P_tkV, den_s, den_c, Int.add_zero, List.map_cons, List.map_nil] at f0 f1 f2 f3 ⊢
  have b1 : (0 : Int) ≤ ρ 1 ∧ ρ 1 ≤ 49 := hB 1 (0, 49) rfl
  have b14 : ((-1) : Int) ≤ ρ 14 ∧ ρ 14 ≤ (-1) := hB 14 ((-1), (-1)) rfl
  have b15 : (0 : Int) ≤ ρ 15 ∧ ρ 15 ≤ 50 := hB 15 (0, 50) rfl
  have b16 : (0 : Int) ≤ ρ 16 ∧ ρ 16 ≤ 10 := hB 16 (0, 10) rfl
  first
    | omega
    | exact tkV_z
    | exact ⟨fun w => absurd w (ffV_no f1 f0 b1.1), fun _ => rfl⟩
    | exact ⟨fun _ => by omega, fun w => absurd (ffV_yes f3 f2 b1.1) w⟩)
def w_take_V_1_0 : VC := ((bX ++ [(0, 10), (0, 10), (0, 10)]), [(3, [(some 15, 0), (some 14, 0)], []), (69, [(some 14, 0), (some 1, 0)], [4]), (0, [(some 16, 0), (some 15, 0)], []), (3, [(some 14, 0), (some 15, 0)], []), (71, [(some 15, 0)], [4, 58, 59, 60, 61])], (69, [(some 16, 0), (some 1, 0)], [4]))
set_option maxRecDepth 20000 in
theorem v_take_V_1_0 {PT : PTy} (hp : HP1 PT) : vcOk PT w_take_V_1_0 := vc_of (fun ρ α hB hF => by
  obtain ⟨f0, f1, f2, f3, f4, -⟩ := hF
  have e69 : PT 69 = P_nV := hp.2.2.2.2.2.2.1
  have e71 : PT 71 = P_tkV := hp.2.2.2.2.2.2.2.2.1
  simp only [hF0, hF3, hFp_69, hFp_71, e69, e71, P_nV, P_tkV, den_s, den_c, Int.add_zero, List.map_cons, List.map_nil] at f0 f1 f2 f3 f4 ⊢
  have b1 : (0 : Int) ≤ ρ 1 ∧ ρ 1 ≤ 49 := hB 1 (0, 49) rfl
  have b14 : (0 : Int) ≤ ρ 14 ∧ ρ 14 ≤ 10 := hB 14 (0, 10) rfl
  have b15 : (0 : Int) ≤ ρ 15 ∧ ρ 15 ≤ 10 := hB 15 (0, 10) rfl
  have b16 : (0 : Int) ≤ ρ 16 ∧ ρ 16 ≤ 10 := hB 16 (0, 10) rfl
  rw [show ρ 16 = ρ 14 by omega]; exact f1)
def w_take_V_1_1 : VC := ((bX ++ [(0, 10), (0, 10), (0, 10)]), [(3, [(some 15, 0), (some 14, 0)], []), (69, [(some 14, 0), (some 1, 0)], [4]), (0, [(some 16, 0), (some 15, 0)], []), (3, [(some 14, 0), (some 15, 0)], []), (71, [(some 15, 0)], [4, 58, 59, 60, 61])], (71, [(some 16, 0)], [4, 58, 59, 60, 61]))
set_option maxRecDepth 20000 in
theorem v_take_V_1_1 {PT : PTy} (hp : HP1 PT) : vcOk PT w_take_V_1_1 := vc_of (fun ρ α hB hF => by
  obtain ⟨f0, f1, f2, f3, f4, -⟩ := hF
  have e69 : PT 69 = P_nV := hp.2.2.2.2.2.2.1
  have e71 : PT 71 = P_tkV := hp.2.2.2.2.2.2.2.2.1
  simp only [hF0, hF3, hFp_69, hFp_71, e69, e71, P_nV, P_tkV, den_s, den_c, Int.add_zero, List.map_cons, List.map_nil] at f0 f1 f2 f3 f4 ⊢
  have b1 : (0 : Int) ≤ ρ 1 ∧ ρ 1 ≤ 49 := hB 1 (0, 49) rfl
  have b14 : (0 : Int) ≤ ρ 14 ∧ ρ 14 ≤ 10 := hB 14 (0, 10) rfl
  have b15 : (0 : Int) ≤ ρ 15 ∧ ρ 15 ≤ 10 := hB 15 (0, 10) rfl
  have b16 : (0 : Int) ≤ ρ 16 ∧ ρ 16 ≤ 10 := hB 16 (0, 10) rfl
  exact fun j h1 h2 => f4 j h1 (by omega))
def w_take_V_1_2 : VC := ((bX ++ [(1, 10), (0, 9), (0, 10), (0, 45), (0, 255), (0, 255), (0, 255), (0, 255)]), [(3, [(none, 10), (some 16, 0)], []), (20, [(some 21, 0), (some 17, 3)], [4]), (20, [(some 20, 0), (some 17, 2)], [4]), (20, [(some 19, 0), (some 17, 1)], [4]), (20, [(some 18, 0), (some 17, 0)], [4]), (6, [(some 17, 0), (none, 5), (some 15, 0)], []), (2, [(some 15, 0), (some 14, 0)], []), (69, [(some 14, 0), (some 1, 0)], [4]), (0, [(some 16, 0), (some 15, 0)], []), (3, [(some 14, 0), (some 15, 0)], []), (71, [(some 15, 0)], [4, 58, 59, 60, 61])], (3, [(some 18, (-97)), (none, 0)], []))
set_option maxRecDepth 20000 in
theorem v_take_V_1_2 {PT : PTy} (hp : HP1 PT) : vcOk PT w_take_V_1_2 := vc_of (fun ρ α hB hF => by
  obtain ⟨f0, f1, f2, f3, f4, f5, f6, f7, f8, f9, f10, -⟩ := hF
  have e69 : PT 69 = P_nV := hp.2.2.2.2.2.2.1
  have e71 : PT 71 = P_tkV := hp.2.2.2.2.2.2.2.2.1
  simp only [hF0, hF2, hF3, hF6, hF20, hFp_69, hFp_71, e69, e71, P_nV, P_tkV, den_s, den_c, Int.add_zero, List.map_cons, List.map_nil] at f0 f1 f2 f3 f4 f5 f6 f7 f8 f9 f10 ⊢
  have b1 : (0 : Int) ≤ ρ 1 ∧ ρ 1 ≤ 49 := hB 1 (0, 49) rfl
  have b14 : (1 : Int) ≤ ρ 14 ∧ ρ 14 ≤ 10 := hB 14 (1, 10) rfl
  have b15 : (0 : Int) ≤ ρ 15 ∧ ρ 15 ≤ 9 := hB 15 (0, 9) rfl
  have b16 : (0 : Int) ≤ ρ 16 ∧ ρ 16 ≤ 10 := hB 16 (0, 10) rfl
  have b17 : (0 : Int) ≤ ρ 17 ∧ ρ 17 ≤ 45 := hB 17 (0, 45) rfl
  have b18 : (0 : Int) ≤ ρ 18 ∧ ρ 18 ≤ 255 := hB 18 (0, 255) rfl
  have b19 : (0 : Int) ≤ ρ 19 ∧ ρ 19 ≤ 255 := hB 19 (0, 255) rfl
  have b20 : (0 : Int) ≤ ρ 20 ∧ ρ 20 ≤ 255 := hB 20 (0, 255) rfl
  have b21 : (0 : Int) ≤ ρ 21 ∧ ρ 21 ≤ 255 := hB 21 (0, 255) rfl
  clear hB
  generalize ρ 1 = r1, ρ 14 = r14, ρ 15 = r15, ρ 16 = r16, ρ 17 = r17, ρ 18 = r18, ρ 19 = r19, ρ 20 = r20, ρ 21 = r21, α 4 = a4, α 58 = a58, α 59 = a59, α 60 = a60, α 61 = a61 at *
  subst f1
  subst f2
  subst f3
  subst f4
  subst f5
  first
    | omega
    | (exfalso; omega)
    | (have w := wellV_at f7 b1.1 (i := r15) (by omega) (by omega); omega)
    | (have e := f8; subst e; exact tkV_s f10 (by omega) (by omega) (by omega) (by omega)))
def w_take_V_1_3 : VC := ((bX ++ [(1, 10), (0, 9), (0, 10), (0, 45), (0, 255), (0, 255), (0, 255), (0, 255)]), [(3, [(none, 10), (some 16, 0)], []), (20, [(some 21, 0), (some 17, 3)], [4]), (20, [(some 20, 0), (some 17, 2)], [4]), (20, [(some 19, 0), (some 17, 1)], [4]), (20, [(some 18, 0), (some 17, 0)], [4]), (6, [(some 17, 0), (none, 5), (some 15, 0)], []), (2, [(some 15, 0), (some 14, 0)], []), (69, [(some 14, 0), (some 1, 0)], [4]), (0, [(some 16, 0), (some 15, 0)], []), (3, [(some 14, 0), (some 15, 0)], []), (71, [(some 15, 0)], [4, 58, 59, 60, 61])], (3, [(none, 7), (some 18, (-97))], []))
set_option maxRecDepth 20000 in
theorem v_take_V_1_3 {PT : PTy} (hp : HP1 PT) : vcOk PT w_take_V_1_3 := vc_of (fun ρ α hB hF => by
  obtain ⟨f0, f1, f2, f3, f4, f5, f6, f7, f8, f9, f10, -⟩ := hF
  have e69 : PT 69 = P_nV := hp.2.2.2.2.2.2.1
  have e71 : PT 71 = P_tkV := hp.2.2.2.2.2.2.2.2.1
  simp only [hF0, hF2, hF3, hF6, hF20, hFp_69, hFp_71, e69, e71, P_nV, P_tkV, den_s, den_c, Int.add_zero, List.map_cons, List.map_nil] at f0 f1 f2 f3 f4 f5 f6 f7 f8 f9 f10 ⊢
  have b1 : (0 : Int) ≤ ρ 1 ∧ ρ 1 ≤ 49 := hB 1 (0, 49) rfl
  have b14 : (1 : Int) ≤ ρ 14 ∧ ρ 14 ≤ 10 := hB 14 (1, 10) rfl
  have b15 : (0 : Int) ≤ ρ 15 ∧ ρ 15 ≤ 9 := hB 15 (0, 9) rfl
  have b16 : (0 : Int) ≤ ρ 16 ∧ ρ 16 ≤ 10 := hB 16 (0, 10) rfl
  have b17 : (0 : Int) ≤ ρ 17 ∧ ρ 17 ≤ 45 := hB 17 (0, 45) rfl
  have b18 : (0 : Int) ≤ ρ 18 ∧ ρ 18 ≤ 255 := hB 18 (0, 255) rfl
  have b19 : (0 : Int) ≤ ρ 19 ∧ ρ 19 ≤ 255 := hB 19 (0, 255) rfl
  have b20 : (0 : Int) ≤ ρ 20 ∧ ρ 20 ≤ 255 := hB 20 (0, 255) rfl
  have b21 : (0 : Int) ≤ ρ 21 ∧ ρ 21 ≤ 255 := hB 21 (0, 255) rfl
  clear hB
  generalize ρ 1 = r1, ρ 14 = r14, ρ 15 = r15, ρ 16 = r16, ρ 17 = r17, ρ 18 = r18, ρ 19 = r19, ρ 20 = r20, ρ 21 = r21, α 4 = a4, α 58 = a58, α 59 = a59, α 60 = a60, α 61 = a61 at *
  subst f1
  subst f2
  subst f3
  subst f4
  subst f5
  first
    | omega
    | (exfalso; omega)
    | (have w := wellV_at f7 b1.1 (i := r15) (by omega) (by omega); omega)
    | (have e := f8; subst e; exact tkV_s f10 (by omega) (by omega) (by omega) (by omega)))
def w_take_V_1_4 : VC := ((bX ++ [(1, 10), (0, 9), (0, 10), (0, 45), (97, 104), (0, 255), (0, 255), (0, 255)]), [(21, [(some 16, 0), (some 18, (-97))], [62, 58]), (3, [(none, 10), (some 16, 0)], []), (20, [(some 21, 0), (some 17, 3)], [4]), (20, [(some 20, 0), (some 17, 2)], [4]), (20, [(some 19, 0), (some 17, 1)], [4]), (20, [(some 18, 0), (some 17, 0)], [4]), (6, [(some 17, 0), (none, 5), (some 15, 0)], []), (2, [(some 15, 0), (some 14, 0)], []), (69, [(some 14, 0), (some 1, 0)], [4]), (0, [(some 16, 0), (some 15, 0)], []), (3, [(some 14, 0), (some 15, 0)], []), (71, [(some 15, 0)], [4, 58, 59, 60, 61])], (3, [(some 19, (-48)), (none, 0)], []))
set_option maxRecDepth 20000 in
theorem v_take_V_1_4 {PT : PTy} (hp : HP1 PT) : vcOk PT w_take_V_1_4 := vc_of (fun ρ α hB hF => by
  obtain ⟨f0, f1, f2, f3, f4, f5, f6, f7, f8, f9, f10, f11, -⟩ := hF
  have e69 : PT 69 = P_nV := hp.2.2.2.2.2.2.1
  have e71 : PT 71 = P_tkV := hp.2.2.2.2.2.2.2.2.1
  simp only [hF0, hF2, hF3, hF6, hF20, hF21, hFp_69, hFp_71, e69, e71, P_nV, P_tkV, den_s, den_c, Int.add_zero, List.map_cons, List.map_nil] at f0 f1 f2 f3 f4 f5 f6 f7 f8 f9 f10 f11 ⊢
  have b1 : (0 : Int) ≤ ρ 1 ∧ ρ 1 ≤ 49 := hB 1 (0, 49) rfl
  have b14 : (1 : Int) ≤ ρ 14 ∧ ρ 14 ≤ 10 := hB 14 (1, 10) rfl
  have b15 : (0 : Int) ≤ ρ 15 ∧ ρ 15 ≤ 9 := hB 15 (0, 9) rfl
  have b16 : (0 : Int) ≤ ρ 16 ∧ ρ 16 ≤ 10 := hB 16 (0, 10) rfl
  have b17 : (0 : Int) ≤ ρ 17 ∧ ρ 17 ≤ 45 := hB 17 (0, 45) rfl
  have b18 : (97 : Int) ≤ ρ 18 ∧ ρ 18 ≤ 104 := hB 18 (97, 104) rfl
  have b19 : (0 : Int) ≤ ρ 19 ∧ ρ 19 ≤ 255 := hB 19 (0, 255) rfl
  have b20 : (0 : Int) ≤ ρ 20 ∧ ρ 20 ≤ 255 := hB 20 (0, 255) rfl
  have b21 : (0 : Int) ≤ ρ 21 ∧ ρ 21 ≤ 255 := hB 21 (0, 255) rfl
  clear hB
  generalize ρ 1 = r1, ρ 14 = r14, ρ 15 = r15, ρ 16 = r16, ρ 17 = r17, ρ 18 = r18, ρ 19 = r19, ρ 20 = r20, ρ 21 = r21, α 4 = a4, α 58 = a58, α 59 = a59, α 60 = a60, α 61 = a61, α 62 = a62 at *
  subst f0
  subst f2
  subst f3
  subst f4
  subst f5
  subst f6
  first
    | omega
    | (exfalso; omega)
    | (have w := wellV_at f8 b1.1 (i := r15) (by omega) (by omega); omega)
    | (have e := f9; subst e; exact tkV_s f11 (by omega) (by omega) (by omega) (by omega)))
def w_take_V_1_5 : VC := ((bX ++ [(1, 10), (0, 9), (0, 10), (0, 45), (97, 104), (0, 255), (0, 255), (0, 255)]), [(21, [(some 16, 0), (some 18, (-97))], [62, 58]), (3, [(none, 10), (some 16, 0)], []), (20, [(some 21, 0), (some 17, 3)], [4]), (20, [(some 20, 0), (some 17, 2)], [4]), (20, [(some 19, 0), (some 17, 1)], [4]), (20, [(some 18, 0), (some 17, 0)], [4]), (6, [(some 17, 0), (none, 5), (some 15, 0)], []), (2, [(some 15, 0), (some 14, 0)], []), (69, [(some 14, 0), (some 1, 0)], [4]), (0, [(some 16, 0), (some 15, 0)], []), (3, [(some 14, 0), (some 15, 0)], []), (71, [(some 15, 0)], [4, 58, 59, 60, 61])], (3, [(none, 9), (some 19, (-48))], []))
set_option maxRecDepth 20000 in
theorem v_take_V_1_5 {PT : PTy} (hp : HP1 PT) : vcOk PT w_take_V_1_5 := vc_of (fun ρ α hB hF => by
  obtain ⟨f0, f1, f2, f3, f4, f5, f6, f7, f8, f9, f10, f11, -⟩ := hF
  have e69 : PT 69 = P_nV := hp.2.2.2.2.2.2.1
  have e71 : PT 71 = P_tkV := hp.2.2.2.2.2.2.2.2.1
  simp only [hF0, hF2, hF3, hF6, hF20, hF21, hFp_69, hFp_71, e69, e71, P_nV, P_tkV, den_s, den_c, Int.add_zero, List.map_cons, List.map_nil] at f0 f1 f2 f3 f4 f5 f6 f7 f8 f9 f10 f11 ⊢
  have b1 : (0 : Int) ≤ ρ 1 ∧ ρ 1 ≤ 49 := hB 1 (0, 49) rfl
  have b14 : (1 : Int) ≤ ρ 14 ∧ ρ 14 ≤ 10 := hB 14 (1, 10) rfl
  have b15 : (0 : Int) ≤ ρ 15 ∧ ρ 15 ≤ 9 := hB 15 (0, 9) rfl
  have b16 : (0 : Int) ≤ ρ 16 ∧ ρ 16 ≤ 10 := hB 16 (0, 10) rfl
  have b17 : (0 : Int) ≤ ρ 17 ∧ ρ 17 ≤ 45 := hB 17 (0, 45) rfl
  have b18 : (97 : Int) ≤ ρ 18 ∧ ρ 18 ≤ 104 := hB 18 (97, 104) rfl
  have b19 : (0 : Int) ≤ ρ 19 ∧ ρ 19 ≤ 255 := hB 19 (0, 255) rfl
  have b20 : (0 : Int) ≤ ρ 20 ∧ ρ 20 ≤ 255 := hB 20 (0, 255) rfl
  have b21 : (0 : Int) ≤ ρ 21 ∧ ρ 21 ≤ 255 := hB 21 (0, 255) rfl
  clear hB
  generalize ρ 1 = r1, ρ 14 = r14, ρ 15 = r15, ρ 16 = r16, ρ 17 = r17, ρ 18 = r18, ρ 19 = r19, ρ 20 = r20, ρ 21 = r21, α 4 = a4, α 58 = a58, α 59 = a59, α 60 = a60, α 61 = a61, α 62 = a62 at *
  subst f0
  subst f2
  subst f3
  subst f4
  subst f5
  subst f6
  first
    | omega
    | (exfalso; omega)
    | (have w := wellV_at f8 b1.1 (i := r15) (by omega) (by omega); omega)
    | (have e := f9; subst e; exact tkV_s f11 (by omega) (by omega) (by omega) (by omega)))
def w_take_V_1_6 : VC := ((bX ++ [(1, 10), (0, 9), (0, 10), (0, 45), (97, 104), (48, 57), (0, 255), (0, 255)]), [(21, [(some 16, 0), (some 19, (-48))], [63, 59]), (21, [(some 16, 0), (some 18, (-97))], [62, 58]), (3, [(none, 10), (some 16, 0)], []), (20, [(some 21, 0), (some 17, 3)], [4]), (20, [(some 20, 0), (some 17, 2)], [4]), (20, [(some 19, 0), (some 17, 1)], [4]), (20, [(some 18, 0), (some 17, 0)], [4]), (6, [(some 17, 0), (none, 5), (some 15, 0)], []), (2, [(some 15, 0), (some 14, 0)], []), (69, [(some 14, 0), (some 1, 0)], [4]), (0, [(some 16, 0), (some 15, 0)], []), (3, [(some 14, 0), (some 15, 0)], []), (71, [(some 15, 0)], [4, 58, 59, 60, 61])], (3, [(some 20, (-97)), (none, 0)], []))
set_option maxRecDepth 20000 in
theorem v_take_V_1_6 {PT : PTy} (hp : HP1 PT) : vcOk PT w_take_V_1_6 := vc_of (fun ρ α hB hF => by
  obtain ⟨f0, f1, f2, f3, f4, f5, f6, f7, f8, f9, f10, f11, f12, -⟩ := hF
  have e69 : PT 69 = P_nV := hp.2.2.2.2.2.2.1
  have e71 : PT 71 = P_tkV := hp.2.2.2.2.2.2.2.2.1
  simp only [hF0, hF2, hF3, hF6, hF20, hF21, hFp_69, hFp_71, e69, e71, P_nV, P_tkV, den_s, den_c, Int.add_zero, List.map_cons, List.map_nil] at f0 f1 f2 f3 f4 f5 f6 f7 f8 f9 f10 f11 f12 ⊢
  have b1 : (0 : Int) ≤ ρ 1 ∧ ρ 1 ≤ 49 := hB 1 (0, 49) rfl
  have b14 : (1 : Int) ≤ ρ 14 ∧ ρ 14 ≤ 10 := hB 14 (1, 10) rfl
  have b15 : (0 : Int) ≤ ρ 15 ∧ ρ 15 ≤ 9 := hB 15 (0, 9) rfl
  have b16 : (0 : Int) ≤ ρ 16 ∧ ρ 16 ≤ 10 := hB 16 (0, 10) rfl
  have b17 : (0 : Int) ≤ ρ 17 ∧ ρ 17 ≤ 45 := hB 17 (0, 45) rfl
  have b18 : (97 : Int) ≤ ρ 18 ∧ ρ 18 ≤ 104 := hB 18 (97, 104) rfl
  have b19 : (48 : Int) ≤ ρ 19 ∧ ρ 19 ≤ 57 := hB 19 (48, 57) rfl
  have b20 : (0 : Int) ≤ ρ 20 ∧ ρ 20 ≤ 255 := hB 20 (0, 255) rfl
  have b21 : (0 : Int) ≤ ρ 21 ∧ ρ 21 ≤ 255 := hB 21 (0, 255) rfl
  clear hB
  generalize ρ 1 = r1, ρ 14 = r14, ρ 15 = r15, ρ 16 = r16, ρ 17 = r17, ρ 18 = r18, ρ 19 = r19, ρ 20 = r20, ρ 21 = r21, α 4 = a4, α 58 = a58, α 59 = a59, α 60 = a60, α 61 = a61, α 62 = a62, α 63 = a63 at *
  subst f0
  subst f1
  subst f3
  subst f4
  subst f5
  subst f6
  subst f7
  first
    | omega
    | (exfalso; omega)
    | (have w := wellV_at f9 b1.1 (i := r15) (by omega) (by omega); omega)
    | (have e := f10; subst e; exact tkV_s f12 (by omega) (by omega) (by omega) (by omega)))
def w_take_V_1_7 : VC := ((bX ++ [(1, 10), (0, 9), (0, 10), (0, 45), (97, 104), (48, 57), (0, 255), (0, 255)]), [(21, [(some 16, 0), (some 19, (-48))], [63, 59]), (21, [(some 16, 0), (some 18, (-97))], [62, 58]), (3, [(none, 10), (some 16, 0)], []), (20, [(some 21, 0), (some 17, 3)], [4]), (20, [(some 20, 0), (some 17, 2)], [4]), (20, [(some 19, 0), (some 17, 1)], [4]), (20, [(some 18, 0), (some 17, 0)], [4]), (6, [(some 17, 0), (none, 5), (some 15, 0)], []), (2, [(some 15, 0), (some 14, 0)], []), (69, [(some 14, 0), (some 1, 0)], [4]), (0, [(some 16, 0), (some 15, 0)], []), (3, [(some 14, 0), (some 15, 0)], []), (71, [(some 15, 0)], [4, 58, 59, 60, 61])], (3, [(none, 23), (some 20, (-97))], []))
set_option maxRecDepth 20000 in
theorem v_take_V_1_7 {PT : PTy} (hp : HP1 PT) : vcOk PT w_take_V_1_7 := vc_of (fun ρ α hB hF => by
  obtain ⟨f0, f1, f2, f3, f4, f5, f6, f7, f8, f9, f10, f11, f12, -⟩ := hF
  have e69 : PT 69 = P_nV := hp.2.2.2.2.2.2.1
  have e71 : PT 71 = P_tkV := hp.2.2.2.2.2.2.2.2.1
  simp only [hF0, hF2, hF3, hF6, hF20, hF21, hFp_69, hFp_71, e69, e71, P_nV, P_tkV, den_s, den_c, Int.add_zero, List.map_cons, List.map_nil] at f0 f1 f2 f3 f4 f5 f6 f7 f8 f9 f10 f11 f12 ⊢
  have b1 : (0 : Int) ≤ ρ 1 ∧ ρ 1 ≤ 49 := hB 1 (0, 49) rfl
  have b14 : (1 : Int) ≤ ρ 14 ∧ ρ 14 ≤ 10 := hB 14 (1, 10) rfl
  have b15 : (0 : Int) ≤ ρ 15 ∧ ρ 15 ≤ 9 := hB 15 (0, 9) rfl
  have b16 : (0 : Int) ≤ ρ 16 ∧ ρ 16 ≤ 10 := hB 16 (0, 10) rfl
  have b17 : (0 : Int) ≤ ρ 17 ∧ ρ 17 ≤ 45 := hB 17 (0, 45) rfl
  have b18 : (97 : Int) ≤ ρ 18 ∧ ρ 18 ≤ 104 := hB 18 (97, 104) rfl
  have b19 : (48 : Int) ≤ ρ 19 ∧ ρ 19 ≤ 57 := hB 19 (48, 57) rfl
  have b20 : (0 : Int) ≤ ρ 20 ∧ ρ 20 ≤ 255 := hB 20 (0, 255) rfl
  have b21 : (0 : Int) ≤ ρ 21 ∧ ρ 21 ≤ 255 := hB 21 (0, 255) rfl
  clear hB
  generalize ρ 1 = r1, ρ 14 = r14, ρ 15 = r15, ρ 16 = r16, ρ 17 = r17, ρ 18 = r18, ρ 19 = r19, ρ 20 = r20, ρ 21 = r21, α 4 = a4, α 58 = a58, α 59 = a59, α 60 = a60, α 61 = a61, α 62 = a62, α 63 = a63 at *
  subst f0
  subst f1
  subst f3
  subst f4
  subst f5
  subst f6
  subst f7
  first
    | omega
    | (exfalso; omega)
    | (have w := wellV_at f9 b1.1 (i := r15) (by omega) (by omega); omega)
    | (have e := f10; subst e; exact tkV_s f12 (by omega) (by omega) (by omega) (by omega)))
def w_take_V_1_8 : VC := ((bX ++ [(1, 10), (0, 9), (0, 10), (0, 45), (97, 104), (48, 57), (97, 120), (0, 255)]), [(21, [(some 16, 0), (some 20, (-97))], [64, 60]), (21, [(some 16, 0), (some 19, (-48))], [63, 59]), (21, [(some 16, 0), (some 18, (-97))], [62, 58]), (3, [(none, 10), (some 16, 0)], []), (20, [(some 21, 0), (some 17, 3)], [4]), (20, [(some 20, 0), (some 17, 2)], [4]), (20, [(some 19, 0), (some 17, 1)], [4]), (20, [(some 18, 0), (some 17, 0)], [4]), (6, [(some 17, 0), (none, 5), (some 15, 0)], []), (2, [(some 15, 0), (some 14, 0)], []), (69, [(some 14, 0), (some 1, 0)], [4]), (0, [(some 16, 0), (some 15, 0)], []), (3, [(some 14, 0), (some 15, 0)], []), (71, [(some 15, 0)], [4, 58, 59, 60, 61])], (3, [(some 21, (-97)), (none, (-1))], []))
set_option maxRecDepth 20000 in
theorem v_take_V_1_8 {PT : PTy} (hp : HP1 PT) : vcOk PT w_take_V_1_8 := vc_of (fun ρ α hB hF => by
  obtain ⟨f0, f1, f2, f3, f4, f5, f6, f7, f8, f9, f10, f11, f12, f13, -⟩ := hF
  have e69 : PT 69 = P_nV := hp.2.2.2.2.2.2.1
  have e71 : PT 71 = P_tkV := hp.2.2.2.2.2.2.2.2.1
  simp only [hF0, hF2, hF3, hF6, hF20, hF21, hFp_69, hFp_71, e69, e71, P_nV, P_tkV, den_s, den_c, Int.add_zero, List.map_cons, List.map_nil] at f0 f1 f2 f3 f4 f5 f6 f7 f8 f9 f10 f11 f12 f13 ⊢
  have b1 : (0 : Int) ≤ ρ 1 ∧ ρ 1 ≤ 49 := hB 1 (0, 49) rfl
  have b14 : (1 : Int) ≤ ρ 14 ∧ ρ 14 ≤ 10 := hB 14 (1, 10) rfl
  have b15 : (0 : Int) ≤ ρ 15 ∧ ρ 15 ≤ 9 := hB 15 (0, 9) rfl
  have b16 : (0 : Int) ≤ ρ 16 ∧ ρ 16 ≤ 10 := hB 16 (0, 10) rfl
  have b17 : (0 : Int) ≤ ρ 17 ∧ ρ 17 ≤ 45 := hB 17 (0, 45) rfl
  have b18 : (97 : Int) ≤ ρ 18 ∧ ρ 18 ≤ 104 := hB 18 (97, 104) rfl
  have b19 : (48 : Int) ≤ ρ 19 ∧ ρ 19 ≤ 57 := hB 19 (48, 57) rfl
  have b20 : (97 : Int) ≤ ρ 20 ∧ ρ 20 ≤ 120 := hB 20 (97, 120) rfl
  have b21 : (0 : Int) ≤ ρ 21 ∧ ρ 21 ≤ 255 := hB 21 (0, 255) rfl
  clear hB
  generalize ρ 1 = r1, ρ 14 = r14, ρ 15 = r15, ρ 16 = r16, ρ 17 = r17, ρ 18 = r18, ρ 19 = r19, ρ 20 = r20, ρ 21 = r21, α 4 = a4, α 58 = a58, α 59 = a59, α 60 = a60, α 61 = a61, α 62 = a62, α 63 = a63, α 64 = a64 at *
  subst f0
  subst f1
  subst f2
  subst f4
  subst f5
  subst f6
  subst f7
  subst f8
  first
    | omega
    | (exfalso; omega)
    | (have w := wellV_at f10 b1.1 (i := r15) (by omega) (by omega); omega)
    | (have e := f11; subst e; exact tkV_s f13 (by omega) (by omega) (by omega) (by omega)))
def w_take_V_1_9 : VC := ((bX ++ [(1, 10), (0, 9), (0, 10), (0, 45), (97, 104), (48, 57), (97, 120), (0, 255)]), [(21, [(some 16, 0), (some 20, (-97))], [64, 60]), (21, [(some 16, 0), (some 19, (-48))], [63, 59]), (21, [(some 16, 0), (some 18, (-97))], [62, 58]), (3, [(none, 10), (some 16, 0)], []), (20, [(some 21, 0), (some 17, 3)], [4]), (20, [(some 20, 0), (some 17, 2)], [4]), (20, [(some 19, 0), (some 17, 1)], [4]), (20, [(some 18, 0), (some 17, 0)], [4]), (6, [(some 17, 0), (none, 5), (some 15, 0)], []), (2, [(some 15, 0), (some 14, 0)], []), (69, [(some 14, 0), (some 1, 0)], [4]), (0, [(some 16, 0), (some 15, 0)], []), (3, [(some 14, 0), (some 15, 0)], []), (71, [(some 15, 0)], [4, 58, 59, 60, 61])], (3, [(none, 23), (some 21, (-97))], []))
set_option maxRecDepth 20000 in
theorem v_take_V_1_9 {PT : PTy} (hp : HP1 PT) : vcOk PT w_take_V_1_9 := vc_of (fun ρ α hB hF => by
  obtain ⟨f0, f1, f2, f3, f4, f5, f6, f7, f8, f9, f10, f11, f12, f13, -⟩ := hF
  have e69 : PT 69 = P_nV := hp.2.2.2.2.2.2.1
  have e71 : PT 71 = P_tkV := hp.2.2.2.2.2.2.2.2.1
  simp only [hF0, hF2, hF3, hF6, hF20, hF21, hFp_69, hFp_71, e69, e71, P_nV, P_tkV, den_s, den_c, Int.add_zero, List.map_cons, List.map_nil] at f0 f1 f2 f3 f4 f5 f6 f7 f8 f9 f10 f11 f12 f13 ⊢
  have b1 : (0 : Int) ≤ ρ 1 ∧ ρ 1 ≤ 49 := hB 1 (0, 49) rfl
  have b14 : (1 : Int) ≤ ρ 14 ∧ ρ 14 ≤ 10 := hB 14 (1, 10) rfl
  have b15 : (0 : Int) ≤ ρ 15 ∧ ρ 15 ≤ 9 := hB 15 (0, 9) rfl
  have b16 : (0 : Int) ≤ ρ 16 ∧ ρ 16 ≤ 10 := hB 16 (0, 10) rfl
  have b17 : (0 : Int) ≤ ρ 17 ∧ ρ 17 ≤ 45 := hB 17 (0, 45) rfl
  have b18 : (97 : Int) ≤ ρ 18 ∧ ρ 18 ≤ 104 := hB 18 (97, 104) rfl
  have b19 : (48 : Int) ≤ ρ 19 ∧ ρ 19 ≤ 57 := hB 19 (48, 57) rfl
  have b20 : (97 : Int) ≤ ρ 20 ∧ ρ 20 ≤ 120 := hB 20 (97, 120) rfl
  have b21 : (0 : Int) ≤ ρ 21 ∧ ρ 21 ≤ 255 := hB 21 (0, 255) rfl
  clear hB
  generalize ρ 1 = r1, ρ 14 = r14, ρ 15 = r15, ρ 16 = r16, ρ 17 = r17, ρ 18 = r18, ρ 19 = r19, ρ 20 = r20, ρ 21 = r21, α 4 = a4, α 58 = a58, α 59 = a59, α 60 = a60, α 61 = a61, α 62 = a62, α 63 = a63, α 64 = a64 at *
  subst f0
  subst f1
  subst f2
  subst f4
  subst f5
  subst f6
  subst f7
  subst f8
  first
    | omega
    | (exfalso; omega)
    | (have w := wellV_at f10 b1.1 (i := r15) (by omega) (by omega); omega)
    | (have e := f11; subst e; exact tkV_s f13 (by omega) (by omega) (by omega) (by omega)))
def w_take_V_1_10 : VC := ((bX ++ [(1, 10), (0, 9), (0, 10), (0, 45), (97, 104), (48, 57), (97, 120), (96, 120)]), [(21, [(some 16, 0), (some 21, (-97))], [65, 61]), (21, [(some 16, 0), (some 20, (-97))], [64, 60]), (21, [(some 16, 0), (some 19, (-48))], [63, 59]), (21, [(some 16, 0), (some 18, (-97))], [62, 58]), (3, [(none, 10), (some 16, 0)], []), (20, [(some 21, 0), (some 17, 3)], [4]), (20, [(some 20, 0), (some 17, 2)], [4]), (20, [(some 19, 0), (some 17, 1)], [4]), (20, [(some 18, 0), (some 17, 0)], [4]), (6, [(some 17, 0), (none, 5), (some 15, 0)], []), (2, [(some 15, 0), (some 14, 0)], []), (69, [(some 14, 0), (some 1, 0)], [4]), (0, [(some 16, 0), (some 15, 0)], []), (3, [(some 14, 0), (some 15, 0)], []), (71, [(some 15, 0)], [4, 58, 59, 60, 61])], (3, [(some 16, 1), (none, 0)], []))
set_option maxRecDepth 20000 in
theorem v_take_V_1_10 {PT : PTy} (hp : HP1 PT) : vcOk PT w_take_V_1_10 := vc_of (fun ρ α hB hF => by
  obtain ⟨f0, f1, f2, f3, f4, f5, f6, f7, f8, f9, f10, f11, f12, f13, f14, -⟩ := hF
  have e69 : PT 69 = P_nV := hp.2.2.2.2.2.2.1
  have e71 : PT 71 = P_tkV := hp.2.2.2.2.2.2.2.2.1
  simp only [hF0, hF2, hF3, hF6, hF20, hF21, hFp_69, hFp_71, e69, e71, P_nV, P_tkV, den_s, den_c, Int.add_zero, List.map_cons, List.map_nil] at f0 f1 f2 f3 f4 f5 f6 f7 f8 f9 f10 f11 f12 f13 f14 ⊢
  have b1 : (0 : Int) ≤ ρ 1 ∧ ρ 1 ≤ 49 := hB 1 (0, 49) rfl
  have b14 : (1 : Int) ≤ ρ 14 ∧ ρ 14 ≤ 10 := hB 14 (1, 10) rfl
  have b15 : (0 : Int) ≤ ρ 15 ∧ ρ 15 ≤ 9 := hB 15 (0, 9) rfl
  have b16 : (0 : Int) ≤ ρ 16 ∧ ρ 16 ≤ 10 := hB 16 (0, 10) rfl
  have b17 : (0 : Int) ≤ ρ 17 ∧ ρ 17 ≤ 45 := hB 17 (0, 45) rfl
  have b18 : (97 : Int) ≤ ρ 18 ∧ ρ 18 ≤ 104 := hB 18 (97, 104) rfl
  have b19 : (48 : Int) ≤ ρ 19 ∧ ρ 19 ≤ 57 := hB 19 (48, 57) rfl
  have b20 : (97 : Int) ≤ ρ 20 ∧ ρ 20 ≤ 120 := hB 20 (97, 120) rfl
  have b21 : (96 : Int) ≤ ρ 21 ∧ ρ 21 ≤ 120 := hB 21 (96, 120) rfl
  clear hB
  generalize ρ 1 = r1, ρ 14 = r14, ρ 15 = r15, ρ 16 = r16, ρ 17 = r17, ρ 18 = r18, ρ 19 = r19, ρ 20 = r20, ρ 21 = r21, α 4 = a4, α 58 = a58, α 59 = a59, α 60 = a60, α 61 = a61, α 62 = a62, α 63 = a63, α 64 = a64, α 65 = a65 at *
  subst f0
  subst f1
  subst f2
  subst f3
  subst f5
  subst f6
  subst f7
  subst f8
  subst f9
  first
    | omega
    | (exfalso; omega)
    | (have w := wellV_at f11 b1.1 (i := r15) (by omega) (by omega); omega)
    | (have e := f12; subst e; exact tkV_s f14 (by omega) (by omega) (by omega) (by omega)))
def w_take_V_1_11 : VC := ((bX ++ [(1, 10), (0, 9), (0, 10), (0, 45), (97, 104), (48, 57), (97, 120), (96, 120)]), [(21, [(some 16, 0), (some 21, (-97))], [65, 61]), (21, [(some 16, 0), (some 20, (-97))], [64, 60]), (21, [(some 16, 0), (some 19, (-48))], [63, 59]), (21, [(some 16, 0), (some 18, (-97))], [62, 58]), (3, [(none, 10), (some 16, 0)], []), (20, [(some 21, 0), (some 17, 3)], [4]), (20, [(some 20, 0), (some 17, 2)], [4]), (20, [(some 19, 0), (some 17, 1)], [4]), (20, [(some 18, 0), (some 17, 0)], [4]), (6, [(some 17, 0), (none, 5), (some 15, 0)], []), (2, [(some 15, 0), (some 14, 0)], []), (69, [(some 14, 0), (some 1, 0)], [4]), (0, [(some 16, 0), (some 15, 0)], []), (3, [(some 14, 0), (some 15, 0)], []), (71, [(some 15, 0)], [4, 58, 59, 60, 61])], (3, [(none, 10), (some 16, 1)], []))
set_option maxRecDepth 20000 in
theorem v_take_V_1_11 {PT : PTy} (hp : HP1 PT) : vcOk PT w_take_V_1_11 := vc_of (fun ρ α hB hF => by
  obtain ⟨f0, f1, f2, f3, f4, f5, f6, f7, f8, f9, f10, f11, f12, f13, f14, -⟩ := hF
  have e69 : PT 69 = P_nV := hp.2.2.2.2.2.2.1
  have e71 : PT 71 = P_tkV := hp.2.2.2.2.2.2.2.2.1
  simp only [hF0, hF2, hF3, hF6, hF20, hF21, hFp_69, hFp_71, e69, e71, P_nV, P_tkV, den_s, den_c, Int.add_zero, List.map_cons, List.map_nil] at f0 f1 f2 f3 f4 f5 f6 f7 f8 f9 f10 f11 f12 f13 f14 ⊢
  have b1 : (0 : Int) ≤ ρ 1 ∧ ρ 1 ≤ 49 := hB 1 (0, 49) rfl
  have b14 : (1 : Int) ≤ ρ 14 ∧ ρ 14 ≤ 10 := hB 14 (1, 10) rfl
  have b15 : (0 : Int) ≤ ρ 15 ∧ ρ 15 ≤ 9 := hB 15 (0, 9) rfl
  have b16 : (0 : Int) ≤ ρ 16 ∧ ρ 16 ≤ 10 := hB 16 (0, 10) rfl
  have b17 : (0 : Int) ≤ ρ 17 ∧ ρ 17 ≤ 45 := hB 17 (0, 45) rfl
  have b18 : (97 : Int) ≤ ρ 18 ∧ ρ 18 ≤ 104 := hB 18 (97, 104) rfl
  have b19 : (48 : Int) ≤ ρ 19 ∧ ρ 19 ≤ 57 := hB 19 (48, 57) rfl
  have b20 : (97 : Int) ≤ ρ 20 ∧ ρ 20 ≤ 120 := hB 20 (97, 120) rfl
  have b21 : (96 : Int) ≤ ρ 21 ∧ ρ 21 ≤ 120 := hB 21 (96, 120) rfl
  clear hB
  generalize ρ 1 = r1, ρ 14 = r14, ρ 15 = r15, ρ 16 = r16, ρ 17 = r17, ρ 18 = r18, ρ 19 = r19, ρ 20 = r20, ρ 21 = r21, α 4 = a4, α 58 = a58, α 59 = a59, α 60 = a60, α 61 = a61, α 62 = a62, α 63 = a63, α 64 = a64, α 65 = a65 at *
  subst f0
  subst f1
  subst f2
  subst f3
  subst f5
  subst f6
  subst f7
  subst f8
  subst f9
  first
    | omega
    | (exfalso; omega)
    | (have w := wellV_at f11 b1.1 (i := r15) (by omega) (by omega); omega)
    | (have e := f12; subst e; exact tkV_s f14 (by omega) (by omega) (by omega) (by omega)))
def w_take_V_1_12 : VC := ((bX ++ [(1, 10), (0, 9), (0, 10), (0, 45), (97, 104), (48, 57), (97, 120), (96, 120)]), [(21, [(some 16, 0), (some 21, (-97))], [65, 61]), (21, [(some 16, 0), (some 20, (-97))], [64, 60]), (21, [(some 16, 0), (some 19, (-48))], [63, 59]), (21, [(some 16, 0), (some 18, (-97))], [62, 58]), (3, [(none, 10), (some 16, 0)], []), (20, [(some 21, 0), (some 17, 3)], [4]), (20, [(some 20, 0), (some 17, 2)], [4]), (20, [(some 19, 0), (some 17, 1)], [4]), (20, [(some 18, 0), (some 17, 0)], [4]), (6, [(some 17, 0), (none, 5), (some 15, 0)], []), (2, [(some 15, 0), (some 14, 0)], []), (69, [(some 14, 0), (some 1, 0)], [4]), (0, [(some 16, 0), (some 15, 0)], []), (3, [(some 14, 0), (some 15, 0)], []), (71, [(some 15, 0)], [4, 58, 59, 60, 61])], (0, [(some 16, 1), (some 15, 1)], []))
set_option maxRecDepth 20000 in
theorem v_take_V_1_12 {PT : PTy} (hp : HP1 PT) : vcOk PT w_take_V_1_12 := vc_of (fun ρ α hB hF => by
  obtain ⟨f0, f1, f2, f3, f4, f5, f6, f7, f8, f9, f10, f11, f12, f13, f14, -⟩ := hF
  have e69 : PT 69 = P_nV := hp.2.2.2.2.2.2.1
  have e71 : PT 71 = P_tkV := hp.2.2.2.2.2.2.2.2.1
  simp only [hF0, hF2, hF3, hF6, hF20, hF21, hFp_69, hFp_71, e69, e71, P_nV, P_tkV, den_s, den_c, Int.add_zero, List.map_cons, List.map_nil] at f0 f1 f2 f3 f4 f5 f6 f7 f8 f9 f10 f11 f12 f13 f14 ⊢
  have b1 : (0 : Int) ≤ ρ 1 ∧ ρ 1 ≤ 49 := hB 1 (0, 49) rfl
  have b14 : (1 : Int) ≤ ρ 14 ∧ ρ 14 ≤ 10 := hB 14 (1, 10) rfl
  have b15 : (0 : Int) ≤ ρ 15 ∧ ρ 15 ≤ 9 := hB 15 (0, 9) rfl
  have b16 : (0 : Int) ≤ ρ 16 ∧ ρ 16 ≤ 10 := hB 16 (0, 10) rfl
  have b17 : (0 : Int) ≤ ρ 17 ∧ ρ 17 ≤ 45 := hB 17 (0, 45) rfl
  have b18 : (97 : Int) ≤ ρ 18 ∧ ρ 18 ≤ 104 := hB 18 (97, 104) rfl
  have b19 : (48 : Int) ≤ ρ 19 ∧ ρ 19 ≤ 57 := hB 19 (48, 57) rfl
  have b20 : (97 : Int) ≤ ρ 20 ∧ ρ 20 ≤ 120 := hB 20 (97, 120) rfl
  have b21 : (96 : Int) ≤ ρ 21 ∧ ρ 21 ≤ 120 := hB 21 (96, 120) rfl
  clear hB
  generalize ρ 1 = r1, ρ 14 = r14, ρ 15 = r15, ρ 16 = r16, ρ 17 = r17, ρ 18 = r18, ρ 19 = r19, ρ 20 = r20, ρ 21 = r21, α 4 = a4, α 58 = a58, α 59 = a59, α 60 = a60, α 61 = a61, α 62 = a62, α 63 = a63, α 64 = a64, α 65 = a65 at *
  subst f0
  subst f1
  subst f2
  subst f3
  subst f5
  subst f6
  subst f7
  subst f8
  subst f9
  first
    | omega
    | (exfalso; omega)
    | (have w := wellV_at f11 b1.1 (i := r15) (by omega) (by omega); omega)
    | (have e := f12; subst e; exact tkV_s f14 (by omega) (by omega) (by omega) (by omega)))
def w_take_V_1_13 : VC := ((bX ++ [(1, 10), (0, 9), (0, 10), (0, 45), (97, 104), (48, 57), (97, 120), (96, 120)]), [(21, [(some 16, 0), (some 21, (-97))], [65, 61]), (21, [(some 16, 0), (some 20, (-97))], [64, 60]), (21, [(some 16, 0), (some 19, (-48))], [63, 59]), (21, [(some 16, 0), (some 18, (-97))], [62, 58]), (3, [(none, 10), (some 16, 0)], []), (20, [(some 21, 0), (some 17, 3)], [4]), (20, [(some 20, 0), (some 17, 2)], [4]), (20, [(some 19, 0), (some 17, 1)], [4]), (20, [(some 18, 0), (some 17, 0)], [4]), (6, [(some 17, 0), (none, 5), (some 15, 0)], []), (2, [(some 15, 0), (some 14, 0)], []), (69, [(some 14, 0), (some 1, 0)], [4]), (0, [(some 16, 0), (some 15, 0)], []), (3, [(some 14, 0), (some 15, 0)], []), (71, [(some 15, 0)], [4, 58, 59, 60, 61])], (3, [(some 14, 0), (some 15, 1)], []))
set_option maxRecDepth 20000 in
theorem v_take_V_1_13 {PT : PTy} (hp : HP1 PT) : vcOk PT w_take_V_1_13 := vc_of (fun ρ α hB hF => by
  obtain ⟨f0, f1, f2, f3, f4, f5, f6, f7, f8, f9, f10, f11, f12, f13, f14, -⟩ := hF
  have e69 : PT 69 = P_nV := hp.2.2.2.2.2.2.1
  have e71 : PT 71 = P_tkV := hp.2.2.2.2.2.2.2.2.1
  simp only [hF0, hF2, hF3, hF6, hF20, hF21, hFp_69, hFp_71, e69, e71, P_nV, P_tkV, den_s, den_c, Int.add_zero, List.map_cons, List.map_nil] at f0 f1 f2 f3 f4 f5 f6 f7 f8 f9 f10 f11 f12 f13 f14 ⊢
  have b1 : (0 : Int) ≤ ρ 1 ∧ ρ 1 ≤ 49 := hB 1 (0, 49) rfl
  have b14 : (1 : Int) ≤ ρ 14 ∧ ρ 14 ≤ 10 := hB 14 (1, 10) rfl
  have b15 : (0 : Int) ≤ ρ 15 ∧ ρ 15 ≤ 9 := hB 15 (0, 9) rfl
  have b16 : (0 : Int) ≤ ρ 16 ∧ ρ 16 ≤ 10 := hB 16 (0, 10) rfl
  have b17 : (0 : Int) ≤ ρ 17 ∧ ρ 17 ≤ 45 := hB 17 (0, 45) rfl
  have b18 : (97 : Int) ≤ ρ 18 ∧ ρ 18 ≤ 104 := hB 18 (97, 104) rfl
  have b19 : (48 : Int) ≤ ρ 19 ∧ ρ 19 ≤ 57 := hB 19 (48, 57) rfl
  have b20 : (97 : Int) ≤ ρ 20 ∧ ρ 20 ≤ 120 := hB 20 (97, 120) rfl
  have b21 : (96 : Int) ≤ ρ 21 ∧ ρ 21 ≤ 120 := hB 21 (96, 120) rfl
  clear hB
  generalize ρ 1 = r1, ρ 14 = r14, ρ 15 = r15, ρ 16 = r16, ρ 17 = r17, ρ 18 = r18, ρ 19 = r19, ρ 20 = r20, ρ 21 = r21, α 4 = a4, α 58 = a58, α 59 = a59, α 60 = a60, α 61 = a61, α 62 = a62, α 63 = a63, α 64 = a64, α 65 = a65 at *
  subst f0
  subst f1
  subst f2
  subst f3
  subst f5
  subst f6
  subst f7
  subst f8
  subst f9
  first
    | omega
    | (exfalso; omega)
    | (have w := wellV_at f11 b1.1 (i := r15) (by omega) (by omega); omega)
    | (have e := f12; subst e; exact tkV_s f14 (by omega) (by omega) (by omega) (by omega)))
def w_take_V_1_14 : VC := ((bX ++ [(1, 10), (0, 9), (0, 10), (0, 45), (97, 104), (48, 57), (97, 120), (96, 120)]), [(21, [(some 16, 0), (some 21, (-97))], [65, 61]), (21, [(some 16, 0), (some 20, (-97))], [64, 60]), (21, [(some 16, 0), (some 19, (-48))], [63, 59]), (21, [(some 16, 0), (some 18, (-97))], [62, 58]), (3, [(none, 10), (some 16, 0)], []), (20, [(some 21, 0), (some 17, 3)], [4]), (20, [(some 20, 0), (some 17, 2)], [4]), (20, [(some 19, 0), (some 17, 1)], [4]), (20, [(some 18, 0), (some 17, 0)], [4]), (6, [(some 17, 0), (none, 5), (some 15, 0)], []), (2, [(some 15, 0), (some 14, 0)], []), (69, [(some 14, 0), (some 1, 0)], [4]), (0, [(some 16, 0), (some 15, 0)], []), (3, [(some 14, 0), (some 15, 0)], []), (71, [(some 15, 0)], [4, 58, 59, 60, 61])], (71, [(some 15, 1)], [4, 62, 63, 64, 65]))
set_option maxRecDepth 20000 in
theorem v_take_V_1_14 {PT : PTy} (hp : HP1 PT) : vcOk PT w_take_V_1_14 := vc_of (fun ρ α hB hF => by
  obtain ⟨f0, f1, f2, f3, f4, f5, f6, f7, f8, f9, f10, f11, f12, f13, f14, -⟩ := hF
  have e69 : PT 69 = P_nV := hp.2.2.2.2.2.2.1
  have e71 : PT 71 = P_tkV := hp.2.2.2.2.2.2.2.2.1
  simp only [hF0, hF2, hF3, hF6, hF20, hF21, hFp_69, hFp_71, e69, e71, P_nV, P_tkV, den_s, den_c, Int.add_zero, List.map_cons, List.map_nil] at f0 f1 f2 f3 f4 f5 f6 f7 f8 f9 f10 f11 f12 f13 f14 ⊢
  have b1 : (0 : Int) ≤ ρ 1 ∧ ρ 1 ≤ 49 := hB 1 (0, 49) rfl
  have b14 : (1 : Int) ≤ ρ 14 ∧ ρ 14 ≤ 10 := hB 14 (1, 10) rfl
  have b15 : (0 : Int) ≤ ρ 15 ∧ ρ 15 ≤ 9 := hB 15 (0, 9) rfl
  have b16 : (0 : Int) ≤ ρ 16 ∧ ρ 16 ≤ 10 := hB 16 (0, 10) rfl
  have b17 : (0 : Int) ≤ ρ 17 ∧ ρ 17 ≤ 45 := hB 17 (0, 45) rfl
  have b18 : (97 : Int) ≤ ρ 18 ∧ ρ 18 ≤ 104 := hB 18 (97, 104) rfl
  have b19 : (48 : Int) ≤ ρ 19 ∧ ρ 19 ≤ 57 := hB 19 (48, 57) rfl
  have b20 : (97 : Int) ≤ ρ 20 ∧ ρ 20 ≤ 120 := hB 20 (97, 120) rfl
  have b21 : (96 : Int) ≤ ρ 21 ∧ ρ 21 ≤ 120 := hB 21 (96, 120) rfl
  clear hB
  generalize ρ 1 = r1, ρ 14 = r14, ρ 15 = r15, ρ 16 = r16, ρ 17 = r17, ρ 18 = r18, ρ 19 = r19, ρ 20 = r20, ρ 21 = r21, α 4 = a4, α 58 = a58, α 59 = a59, α 60 = a60, α 61 = a61, α 62 = a62, α 63 = a63, α 64 = a64, α 65 = a65 at *
  subst f0
  subst f1
  subst f2
  subst f3
  subst f5
  subst f6
  subst f7
  subst f8
  subst f9
  first
    | omega
    | (exfalso; omega)
    | (have w := wellV_at f11 b1.1 (i := r15) (by omega) (by omega); omega)
    | (have e := f12; subst e; exact tkV_s f14 (by omega) (by omega) (by omega) (by omega)))
set_option maxRecDepth 1000000 in
theorem k_take_V {PT : PTy} (hp : HP1 PT) : wfX c_take_V = true ∧ xcOk PT c_take_V := xctr (xl (k_FF_V hp) (xl0)) c_take_V 97 mX5_take rfl h_take_V (by decide +kernel) (by decide +kernel) (by decide) (vcs_by [w_take_V_0_0, w_take_V_0_1, w_take_V_0_2, w_take_V_0_3, w_take_V_0_4, w_take_V_0_5, w_take_V_0_6, w_take_V_0_7] (by decide +kernel) (vc (v_take_V_0_0 hp) (vc (v_take_V_0_1 hp) (vc (v_take_V_0_2 hp) (vc (v_take_V_0_3 hp) (vc (v_take_V_0_4 hp) (vc (v_take_V_0_5 hp) (vc (v_take_V_0_6 hp) (vc (v_take_V_0_7 hp) vn))))))))) (fmc (vcs_by [w_take_V_1_0, w_take_V_1_1, w_take_V_1_2, w_take_V_1_3, w_take_V_1_4, w_take_V_1_5, w_take_V_1_6, w_take_V_1_7, w_take_V_1_8, w_take_V_1_9, w_take_V_1_10, w_take_V_1_11, w_take_V_1_12, w_take_V_1_13, w_take_V_1_14] (by decide +kernel) (vc (v_take_V_1_0 hp) (vc (v_take_V_1_1 hp) (vc (v_take_V_1_2 hp) (vc (v_take_V_1_3 hp) (vc (v_take_V_1_4 hp) (vc (v_take_V_1_5 hp) (vc (v_take_V_1_6 hp) (vc (v_take_V_1_7 hp) (vc (v_take_V_1_8 hp) (vc (v_take_V_1_9 hp) (vc (v_take_V_1_10 hp) (vc (v_take_V_1_11 hp) (vc (v_take_V_1_12 hp) (vc (v_take_V_1_13 hp) (vc (v_take_V_1_14 hp) vn)))))))))))))))) fmn)
def c_takeTexts : XC := (87, 3, (bT), [.inr (.inl 0)], (gX 999), [], [((bT ++ [(0, 8), (0, 10)]), none, (hst (gX 999) [(6, .inr (.inr (.inr (1, [.inr (.inl 7), .inr (.inl 8), .inl (some 14, 0)])))), (9, .inr (.inr (.inr (5, [.inr (.inl 10), .inr (.inl 11), .inr (.inl 12), .inr (.inl 13), .inl (some 15, 0)]))))]), (ansT 58 [(7, 58), (8, 59), (10, 60), (11, 61), (12, 62), (13, 63)]), 64, [(68, [(some 14, 0), (some 0, 0)], [2]), (70, [(some 14, 0)], [2, 58, 59]), (69, [(some 15, 0), (some 1, 0)], [4]), (71, [(some 15, 0)], [4, 60, 61, 62, 63])])])
def h_takeTexts : List XH := []
set_option maxRecDepth 1000000 in
theorem k_takeTexts {PT : PTy} (hp : HP1 PT) : wfX c_takeTexts = true ∧ xcOk PT c_takeTexts := xctr (xl (k_take_P hp) (xl (k_take_V hp) (xl0))) c_takeTexts 31 mX6_takeTexts rfl h_takeTexts (by decide +kernel) (by decide +kernel) (by decide) (vcs_by [] (by decide +kernel) vn) fmn
