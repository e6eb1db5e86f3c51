/-! ===== plans: words alone; printed by wip/gen/x ===== -/
def P_alk (l : List Int) (a : List (Int → Int)) : Prop := match l, a with
  | [n], [A, B, C, D] => ∀ i, 0 ≤ i → i < n → A i = B i ∧ C i = D i
  | _, _ => False
theorem hFp_180 {PT : PTy} {ρ : Nat → Int} {α : Nat → Int → Int} (l : List AN) (a : List Nat) : hF PT ρ α (180, l, a) = PT 180 (l.map (den ρ)) (a.map α) := rfl
def P_keI (l : List Int) (a : List (Int → Int)) : Prop := match l, a with
  | [i, w, v, d, n, m, nk, nl, nt], [so, sz, wh, gr, md, du, kd, ko, ld, lw, lm, td, tw, tm] => obS (keepQ d n m nk nl nt so sz wh gr md du kd ko ld lw lm td tw tm) i w v
  | _, _ => False
theorem hFp_181 {PT : PTy} {ρ : Nat → Int} {α : Nat → Int → Int} (l : List AN) (a : List Nat) : hF PT ρ α (181, l, a) = PT 181 (l.map (den ρ)) (a.map α) := rfl
def P_okX2 (l : List Int) (a : List (Int → Int)) : Prop := match l, a with
  | [r, d, w, n, m, nk, nl, nt], [so, sz, wh, gr, md, du, kd, ko, ld, lw, lm, td, tw, tm] => (¬ (0 ≤ d ∧ d ≤ 23 ∧ 0 ≤ w ∧ w ≤ 1) → r = -2) ∧ (0 ≤ d ∧ d ≤ 23 ∧ 0 ≤ w ∧ w ≤ 1 → ∃ b v, obS (keepQ d n m nk nl nt so sz wh gr md du kd ko ld lw lm td tw tm) m b v ∧ (w = 0 → r = b) ∧ (w = 1 → r = v))
  | _, _ => False
theorem hFp_182 {PT : PTy} {ρ : Nat → Int} {α : Nat → Int → Int} (l : List AN) (a : List Nat) : hF PT ρ α (182, l, a) = PT 182 (l.map (den ρ)) (a.map α) := rfl
def P_kyI (l : List Int) (a : List (Int → Int)) : Prop := match l, a with
  | [i, w, v, d, n, m, nk, nl, nt], [so, sz, wh, gr, md, du, kd, ko, ld, lw, lm, td, tw, tm] => obS (keepY d n m nk nl nt so sz wh gr md du kd ko ld lw lm td tw tm) i w v
  | _, _ => False
theorem hFp_183 {PT : PTy} {ρ : Nat → Int} {α : Nat → Int → Int} (l : List AN) (a : List Nat) : hF PT ρ α (183, l, a) = PT 183 (l.map (den ρ)) (a.map α) := rfl
def P_kyP (l : List Int) (a : List (Int → Int)) : Prop := match l, a with
  | [r, d, w, n, m, nk, nl, nt], [L, T, so, sz, wh, gr, md, du, kd, ko, ld, lw, lm, td, tw, tm] => (∃ a b, rdP a n (L 0) T so sz ∧ rdV b m (L 1) (sh T) wh gr md du) ∧ ∃ b v, obS (keepY d n m nk nl nt so sz wh gr md du kd ko ld lw lm td tw tm) m b v ∧ (w = 0 → r = b) ∧ (w = 1 → r = v)
  | _, _ => False
theorem hFp_184 {PT : PTy} {ρ : Nat → Int} {α : Nat → Int → Int} (l : List AN) (a : List Nat) : hF PT ρ α (184, l, a) = PT 184 (l.map (den ρ)) (a.map α) := rfl
def P_okY2 (l : List Int) (a : List (Int → Int)) : Prop := match l, a with
  | [r, d, w, n, m, nk, nl, nt], [L, T, so, sz, wh, gr, md, du, kd, ko, ld, lw, lm, td, tw, tm] => (¬ (0 ≤ d ∧ d ≤ 23 ∧ 0 ≤ w ∧ w ≤ 1) → r = -2) ∧ (0 ≤ d ∧ d ≤ 23 ∧ 0 ≤ w ∧ w ≤ 1 → (∃ a b, rdP a n (L 0) T so sz ∧ rdV b m (L 1) (sh T) wh gr md du) ∧ ∃ b v, obS (keepY d n m nk nl nt so sz wh gr md du kd ko ld lw lm td tw tm) m b v ∧ (w = 0 → r = b) ∧ (w = 1 → r = v))
  | _, _ => False
theorem hFp_185 {PT : PTy} {ρ : Nat → Int} {α : Nat → Int → Int} (l : List AN) (a : List Nat) : hF PT ρ α (185, l, a) = PT 185 (l.map (den ρ)) (a.map α) := rfl
def P_al (l : List Int) (a : List (Int → Int)) : Prop := match l, a with
  | [n], [A, B] => ∀ i, 0 ≤ i → i < n → A i = B i
  | _, _ => False
theorem hFp_186 {PT : PTy} {ρ : Nat → Int} {α : Nat → Int → Int} (l : List AN) (a : List Nat) : hF PT ρ α (186, l, a) = PT 186 (l.map (den ρ)) (a.map α) := rfl
def P_bu (l : List Int) (a : List (Int → Int)) : Prop := match l, a with
  | [k], [A, B] => ∀ i, ¬ i = k → A i = B i
  | _, _ => False
theorem hFp_187 {PT : PTy} {ρ : Nat → Int} {α : Nat → Int → Int} (l : List AN) (a : List Nat) : hF PT ρ α (187, l, a) = PT 187 (l.map (den ρ)) (a.map α) := rfl
def HP13 (PT : PTy) : Prop := HP12 PT ∧ (PT 180 = P_alk ∧ PT 181 = P_keI ∧ PT 182 = P_okX2 ∧ PT 183 = P_kyI ∧ PT 184 = P_kyP ∧ PT 185 = P_okY2 ∧ PT 186 = P_al ∧ PT 187 = P_bu ∧ True)
