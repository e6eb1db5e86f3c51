def oX : AC := .inr (.inr (6, dfs 6))
def oY : AC := .inr (.inr (7, dfs 7))
def rX0 : Option (Option Value × AH × Nat × Nat) := ev noO 2000 12 42 0 (entL [.ref 0] 1) [] [oX] 0 0
def rY0 : Option (Option Value × AH × Nat × Nat) := ev noO 400 12 103 0 (entL [.ref 0] 1) [] [oY] 0 0
def hX0 : AH := match rX0 with
  | some (_, h, _, _) => h
  | none => []
def hY0 : AH := match rY0 with
  | some (_, h, _, _) => h
  | none => []
set_option maxRecDepth 1000000 in
theorem evX0 : rX0.isSome = true := by decide +kernel
set_option maxRecDepth 1000000 in
theorem evXl : hX0.length = 58 := by decide +kernel
set_option maxRecDepth 1000000 in
theorem evYl : hY0.length = 35 := by decide +kernel
def eX (O : OR) (k ml : Nat) (as : List Value) : Option (Option Value × AH × Nat × Nat) := ev O 3000 12 k 0 (entL (.ref 0 :: as) ml) [] hX0 0 0
def eY (O : OR) (k ml : Nat) (as : List Value) : Option (Option Value × AH × Nat × Nat) := ev O 3000 12 k 0 (entL (.ref 0 :: as) ml) [] hY0 0 0
/-- both answer, and alike -/
def alike (rx ry : Option (Option Value × AH × Nat × Nat)) : Bool := match rx, ry with
  | some (some v, h, 0, 0), some (some w, g, 0, 0) => decide (v = w) && (numB v && (decide (h.length = 58) && decide (g.length = 35)))
  | _, _ => false
