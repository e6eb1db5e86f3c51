/-! ===== texts and counts alone; printed by wip/gen/x ===== -/
def P_XN (l : List Int) (a : List (Int → Int)) : Prop := match l, a with
  | [n, m, p, q], [A, V] => nP n p A ∧ nV m q V
  | _, _ => False
theorem hFp_146 {PT : PTy} {ρ : Nat → Int} {α : Nat → Int → Int} (l : List AN) (a : List Nat) : hF PT ρ α (146, l, a) = PT 146 (l.map (den ρ)) (a.map α) := rfl
def HP10 (PT : PTy) : Prop := HP9 PT ∧ (PT 146 = P_XN ∧ True)
