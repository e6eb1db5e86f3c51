/-! ===== plans: words alone; printed by wip/gen/x ===== -/
def P_bu2 (l : List Int) (a : List (Int → Int)) : Prop := match l, a with
  | [k], [A, B] => ∀ i, ¬ i = k → A i = B i
  | _, _ => False
theorem hFp_188 {PT : PTy} {ρ : Nat → Int} {α : Nat → Int → Int} (l : List AN) (a : List Nat) : hF PT ρ α (188, l, a) = PT 188 (l.map (den ρ)) (a.map α) := rfl
def P_duI (l : List Int) (a : List (Int → Int)) : Prop := match l, a with
  | [i, x, v, p, n, m, nk, nl, nt], [so, sz, wh, gr, md, du, kd, ko, ld, lw, lm, td, tw, tm] => obM (dueQ p n m nk nl nt so sz wh gr md du kd ko ld lw lm td tw tm) i x v 11
  | _, _ => False
theorem hFp_189 {PT : PTy} {ρ : Nat → Int} {α : Nat → Int → Int} (l : List AN) (a : List Nat) : hF PT ρ α (189, l, a) = PT 189 (l.map (den ρ)) (a.map α) := rfl
def P_odX (l : List Int) (a : List (Int → Int)) : Prop := match l, a with
  | [r, p, w, n, m, nk, nl, nt], [so, sz, wh, gr, md, du, kd, ko, ld, lw, lm, td, tw, tm] => (¬ (0 ≤ p ∧ p < m ∧ 0 ≤ w ∧ w ≤ 1) → r = -2) ∧ (0 ≤ p ∧ p < m ∧ 0 ≤ w ∧ w ≤ 1 → ∃ x v, obM (dueQ p n m nk nl nt so sz wh gr md du kd ko ld lw lm td tw tm) 24 x v 11 ∧ (w = 0 → r = x) ∧ (w = 1 → r = v))
  | _, _ => False
theorem hFp_190 {PT : PTy} {ρ : Nat → Int} {α : Nat → Int → Int} (l : List AN) (a : List Nat) : hF PT ρ α (190, l, a) = PT 190 (l.map (den ρ)) (a.map α) := rfl
def P_dyI (l : List Int) (a : List (Int → Int)) : Prop := match l, a with
  | [i, x, v, p, t, n, m, nk, nl, nt], [L, T, so, sz, wh, gr, md, D8, KD, KO, ld, lw, lm, td, tw, tm] => ∃ a b du, rdP a n (L 0) T so sz ∧ rdV b m (L 1) (sh T) wh gr md du ∧ (∀ q, ¬ q = p → D8 q = du q) ∧ t = du p ∧ obM (dueY p n m nk nl nt so sz wh gr md du KD KO ld lw lm td tw tm) i x v 999
  | _, _ => False
theorem hFp_191 {PT : PTy} {ρ : Nat → Int} {α : Nat → Int → Int} (l : List AN) (a : List Nat) : hF PT ρ α (191, l, a) = PT 191 (l.map (den ρ)) (a.map α) := rfl
def P_dyP (l : List Int) (a : List (Int → Int)) : Prop := match l, a with
  | [r, p, w, n, m, nk, nl, nt], [L, T, so, sz, wh, gr, md, du, KD, KO, kd, ko, ld, lw, lm, td, tw, tm] => toY n m nk L T so sz wh gr md du KD KO kd ko ∧ ∃ x v, obM (dueY p n m nk nl nt so sz wh gr md du KD KO ld lw lm td tw tm) 24 x v 999 ∧ (w = 0 → r = x) ∧ (w = 1 → r = v)
  | _, _ => False
theorem hFp_192 {PT : PTy} {ρ : Nat → Int} {α : Nat → Int → Int} (l : List AN) (a : List Nat) : hF PT ρ α (192, l, a) = PT 192 (l.map (den ρ)) (a.map α) := rfl
def P_odY (l : List Int) (a : List (Int → Int)) : Prop := match l, a with
  | [r, p, w, n, m, nk, nl, nt], [L, T, so, sz, wh, gr, md, du, KD, KO, kd, ko, ld, lw, lm, td, tw, tm] => ∃ n0, nV n0 (L 1) (sh T) ∧ (¬ (0 ≤ p ∧ p < n0 ∧ 0 ≤ w ∧ w ≤ 1) → r = -2) ∧ (0 ≤ p ∧ p < n0 ∧ 0 ≤ w ∧ w ≤ 1 → m = n0 ∧ toY n m nk L T so sz wh gr md du KD KO kd ko ∧ ∃ x v, obM (dueY p n m nk nl nt so sz wh gr md du KD KO ld lw lm td tw tm) 24 x v 999 ∧ (w = 0 → r = x) ∧ (w = 1 → r = v))
  | _, _ => False
theorem hFp_193 {PT : PTy} {ρ : Nat → Int} {α : Nat → Int → Int} (l : List AN) (a : List Nat) : hF PT ρ α (193, l, a) = PT 193 (l.map (den ρ)) (a.map α) := rfl
def HP14 (PT : PTy) : Prop := HP13 PT ∧ (PT 188 = P_bu2 ∧ PT 189 = P_duI ∧ PT 190 = P_odX ∧ PT 191 = P_dyI ∧ PT 192 = P_dyP ∧ PT 193 = P_odY ∧ True)
