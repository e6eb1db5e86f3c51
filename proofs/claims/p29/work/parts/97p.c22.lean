/-! ===== plans: words alone; printed by wip/gen/x ===== -/
def P_lnX (l : List Int) (a : List (Int → Int)) : Prop := match l, a with
  | [r, h, n, m, nk, nl, nt, u], [so, sz, wh, gr, md, du, kd, ko, ld, lw, lm, td, tw, tm] => u = 0 → hqX n m nk nl nt so sz wh gr md du kd ko ld lw lm td tw tm h r
  | _, _ => False
theorem hFp_212 {PT : PTy} {ρ : Nat → Int} {α : Nat → Int → Int} (l : List AN) (a : List Nat) : hF PT ρ α (212, l, a) = PT 212 (l.map (den ρ)) (a.map α) := rfl
def P_hu1 (l : List Int) (a : List (Int → Int)) : Prop := match l, a with
  | [i, n, m, nk, nl, nt], [so, sz, wh, gr, md, du, kd, ko, ld, lw, lm, td, tw, tm] => hu1 (hqX n m nk nl nt so sz wh gr md du kd ko ld lw lm td tw tm) i
  | _, _ => False
theorem hFp_213 {PT : PTy} {ρ : Nat → Int} {α : Nat → Int → Int} (l : List AN) (a : List Nat) : hF PT ρ α (213, l, a) = PT 213 (l.map (den ρ)) (a.map α) := rfl
def P_hu2 (l : List Int) (a : List (Int → Int)) : Prop := match l, a with
  | [a, b, n, m, nk, nl, nt], [so, sz, wh, gr, md, du, kd, ko, ld, lw, lm, td, tw, tm] => hu2 (hqX n m nk nl nt so sz wh gr md du kd ko ld lw lm td tw tm) nl a b
  | _, _ => False
theorem hFp_214 {PT : PTy} {ρ : Nat → Int} {α : Nat → Int → Int} (l : List AN) (a : List Nat) : hF PT ρ α (214, l, a) = PT 214 (l.map (den ρ)) (a.map α) := rfl
def P_hu3 (l : List Int) (a : List (Int → Int)) : Prop := match l, a with
  | [a, n, m, nk, nl, nt], [so, sz, wh, gr, md, du, kd, ko, ld, lw, lm, td, tw, tm] => hu3 (hqX n m nk nl nt so sz wh gr md du kd ko ld lw lm td tw tm) nl a
  | _, _ => False
theorem hFp_215 {PT : PTy} {ρ : Nat → Int} {α : Nat → Int → Int} (l : List AN) (a : List Nat) : hF PT ρ α (215, l, a) = PT 215 (l.map (den ρ)) (a.map α) := rfl
def P_hsX (l : List Int) (a : List (Int → Int)) : Prop := match l, a with
  | [r, n, m, nk, nl, nt], [so, sz, wh, gr, md, du, kd, ko, ld, lw, lm, td, tw, tm] => ∃ c a b, huR (hqX n m nk nl nt so sz wh gr md du kd ko ld lw lm td tw tm) nl c a b ∧ (c = 0 → r = 0) ∧ (c = 1 → r = l1 a) ∧ (c = 2 → r = l2 a b) ∧ (c = -1 → r = -1)
  | _, _ => False
theorem hFp_216 {PT : PTy} {ρ : Nat → Int} {α : Nat → Int → Int} (l : List AN) (a : List Nat) : hF PT ρ α (216, l, a) = PT 216 (l.map (den ρ)) (a.map α) := rfl
def P_ihY (l : List Int) (a : List (Int → Int)) : Prop := match l, a with
  | [r, h, n, m, nk, nl, nt, m1, u], [so, sz, wh, gr, md, du, KD, KO, ld, lw, lm, td, tw, tm] => m1 = m → u = 0 → hqY n m nk nl nt so sz wh gr md du KD KO ld lw lm td tw tm h r
  | _, _ => False
theorem hFp_217 {PT : PTy} {ρ : Nat → Int} {α : Nat → Int → Int} (l : List AN) (a : List Nat) : hF PT ρ α (217, l, a) = PT 217 (l.map (den ρ)) (a.map α) := rfl
def P_hv1 (l : List Int) (a : List (Int → Int)) : Prop := match l, a with
  | [i, n, m, nk, nl, nt], [so, sz, wh, gr, md, du, KD, KO, ld, lw, lm, td, tw, tm] => hu1 (hqY n m nk nl nt so sz wh gr md du KD KO ld lw lm td tw tm) i
  | _, _ => False
theorem hFp_218 {PT : PTy} {ρ : Nat → Int} {α : Nat → Int → Int} (l : List AN) (a : List Nat) : hF PT ρ α (218, l, a) = PT 218 (l.map (den ρ)) (a.map α) := rfl
def P_hv2 (l : List Int) (a : List (Int → Int)) : Prop := match l, a with
  | [a, b, n, m, nk, nl, nt], [so, sz, wh, gr, md, du, KD, KO, ld, lw, lm, td, tw, tm] => hu2 (hqY n m nk nl nt so sz wh gr md du KD KO ld lw lm td tw tm) nl a b
  | _, _ => False
theorem hFp_219 {PT : PTy} {ρ : Nat → Int} {α : Nat → Int → Int} (l : List AN) (a : List Nat) : hF PT ρ α (219, l, a) = PT 219 (l.map (den ρ)) (a.map α) := rfl
def P_hv3 (l : List Int) (a : List (Int → Int)) : Prop := match l, a with
  | [a, n, m, nk, nl, nt], [so, sz, wh, gr, md, du, KD, KO, ld, lw, lm, td, tw, tm] => hu3 (hqY n m nk nl nt so sz wh gr md du KD KO ld lw lm td tw tm) nl a
  | _, _ => False
theorem hFp_220 {PT : PTy} {ρ : Nat → Int} {α : Nat → Int → Int} (l : List AN) (a : List Nat) : hF PT ρ α (220, l, a) = PT 220 (l.map (den ρ)) (a.map α) := rfl
def P_hbY (l : List Int) (a : List (Int → Int)) : Prop := match l, a with
  | [c, n, m, nk, nl, nt], [L, T, so, sz, wh, gr, md, du, KD, KO, kd, ko, ld, lw, lm, td, tw, tm, PR] => toY n m nk L T so sz wh gr md du KD KO kd ko ∧ ∃ a b, huR (hqY n m nk nl nt so sz wh gr md du KD KO ld lw lm td tw tm) nl c a b ∧ (1 ≤ c → PR 0 = a) ∧ (c = 2 → PR 1 = b)
  | _, _ => False
theorem hFp_221 {PT : PTy} {ρ : Nat → Int} {α : Nat → Int → Int} (l : List AN) (a : List Nat) : hF PT ρ α (221, l, a) = PT 221 (l.map (den ρ)) (a.map α) := rfl
def P_ohY (l : List Int) (a : List (Int → Int)) : Prop := match l, a with
  | [r, i, n, m, nk, nl, nt], [L, T, so, sz, wh, gr, md, du, KD, KO, kd, ko, ld, lw, lm, td, tw, tm] => (¬ (-1 ≤ i ∧ i ≤ 1) → r = -2) ∧ (-1 ≤ i ∧ i ≤ 1 → toY n m nk L T so sz wh gr md du KD KO kd ko ∧ ∃ c a b, huR (hqY n m nk nl nt so sz wh gr md du KD KO ld lw lm td tw tm) nl c a b ∧ (i = -1 → r = c) ∧ (0 ≤ i → c ≤ i → r = -1) ∧ (i = 0 → 1 ≤ c → r = a) ∧ (i = 1 → c = 2 → r = b))
  | _, _ => False
theorem hFp_222 {PT : PTy} {ρ : Nat → Int} {α : Nat → Int → Int} (l : List AN) (a : List Nat) : hF PT ρ α (222, l, a) = PT 222 (l.map (den ρ)) (a.map α) := rfl
def P_ohX (l : List Int) (a : List (Int → Int)) : Prop := match l, a with
  | [r, i, n, m, nk, nl, nt], [so, sz, wh, gr, md, du, kd, ko, ld, lw, lm, td, tw, tm] => (¬ (-1 ≤ i ∧ i ≤ 1) → r = -2) ∧ (-1 ≤ i ∧ i ≤ 1 → ∃ c a b, huR (hqX n m nk nl nt so sz wh gr md du kd ko ld lw lm td tw tm) nl c a b ∧ (i = -1 → r = c) ∧ (0 ≤ i → c ≤ i → r = -1) ∧ (i = 0 → 1 ≤ c → r = a) ∧ (i = 1 → c = 2 → r = b))
  | _, _ => False
theorem hFp_223 {PT : PTy} {ρ : Nat → Int} {α : Nat → Int → Int} (l : List AN) (a : List Nat) : hF PT ρ α (223, l, a) = PT 223 (l.map (den ρ)) (a.map α) := rfl
def HP18 (PT : PTy) : Prop := HP17 PT ∧ (PT 212 = P_lnX ∧ PT 213 = P_hu1 ∧ PT 214 = P_hu2 ∧ PT 215 = P_hu3 ∧ PT 216 = P_hsX ∧ PT 217 = P_ihY ∧ PT 218 = P_hv1 ∧ PT 219 = P_hv2 ∧ PT 220 = P_hv3 ∧ PT 221 = P_hbY ∧ PT 222 = P_ohY ∧ PT 223 = P_ohX ∧ True)
