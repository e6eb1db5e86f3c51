/-! ===== plans: words alone; printed by wip/gen/x ===== -/
def P_wsI (l : List Int) (a : List (Int → Int)) : Prop := match l, a with
  | [i, b, k, ns, n, m, nk, nl, nt, u, h], [so, sz, wh, gr, md, du, kd, ko, ld, lw, lm, td, tw, tm, sd, sw, sm] => obB (wsQ k ns n m nk nl nt u h so sz wh gr md du kd ko ld lw lm td tw tm sd sw sm) i b
  | _, _ => False
theorem hFp_203 {PT : PTy} {ρ : Nat → Int} {α : Nat → Int → Int} (l : List AN) (a : List Nat) : hF PT ρ α (203, l, a) = PT 203 (l.map (den ρ)) (a.map α) := rfl
def P_woI (l : List Int) (a : List (Int → Int)) : Prop := match l, a with
  | [i, b, k, ns, n, m, nk, nl, nt, u, h], [so, sz, wh, gr, md, du, kd, ko, ld, lw, lm, td, tw, tm, sd, sw, sm] => obB (woQ k ns n m nk nl nt u h so sz wh gr md du kd ko ld lw lm td tw tm sd sw sm) i b
  | _, _ => False
theorem hFp_204 {PT : PTy} {ρ : Nat → Int} {α : Nat → Int → Int} (l : List AN) (a : List Nat) : hF PT ρ α (204, l, a) = PT 204 (l.map (den ρ)) (a.map α) := rfl
def P_owaX (l : List Int) (a : List (Int → Int)) : Prop := match l, a with
  | [r, k, w, ns, n, m, nk, nl, nt, u, h], [so, sz, wh, gr, md, du, kd, ko, ld, lw, lm, td, tw, tm, sd, sw, sm] => (¬ (0 ≤ k ∧ k < n ∧ 0 ≤ w ∧ w ≤ 1) → r = -2) ∧ (0 ≤ k ∧ k < n ∧ 0 ≤ w ∧ w ≤ 1 → (w = 0 → obB (wsQ k ns n m nk nl nt u h so sz wh gr md du kd ko ld lw lm td tw tm sd sw sm) 10 r) ∧ (w = 1 → obB (woQ k ns n m nk nl nt u h so sz wh gr md du kd ko ld lw lm td tw tm sd sw sm) 3 r))
  | _, _ => False
theorem hFp_205 {PT : PTy} {ρ : Nat → Int} {α : Nat → Int → Int} (l : List AN) (a : List Nat) : hF PT ρ α (205, l, a) = PT 205 (l.map (den ρ)) (a.map α) := rfl
def HP16 (PT : PTy) : Prop := HP15 PT ∧ (PT 203 = P_wsI ∧ PT 204 = P_woI ∧ PT 205 = P_owaX ∧ True)
