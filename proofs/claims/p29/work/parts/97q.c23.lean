/-! ===== plans: words alone; printed by wip/gen/x ===== -/
def P_ncI (l : List Int) (a : List (Int → Int)) : Prop := match l, a with
  | [i, d, k, n, m, nk, nl, nt, u, h], [so, sz, wh, gr, md, du, kd, ko, ld, lw, lm, td, tw, tm, c0, c1, c2, c3, c4, c5, c6, c7, c8, c9] => ncS (cbX k n m nk nl nt u h so sz wh gr md du kd ko ld lw lm td tw tm) i d (fun v => rowC v c0 c1 c2 c3 c4 c5 c6 c7 c8 c9)
  | _, _ => False
theorem hFp_224 {PT : PTy} {ρ : Nat → Int} {α : Nat → Int → Int} (l : List AN) (a : List Nat) : hF PT ρ α (224, l, a) = PT 224 (l.map (den ρ)) (a.map α) := rfl
def P_maI (l : List Int) (a : List (Int → Int)) : Prop := match l, a with
  | [a, m, s, d], [c0, c1, c2, c3, c4, c5, c6, c7, c8, c9] => m = maN s (fun v => rowC v c0 c1 c2 c3 c4 c5 c6 c7 c8 c9 d) a
  | _, _ => False
theorem hFp_225 {PT : PTy} {ρ : Nat → Int} {α : Nat → Int → Int} (l : List AN) (a : List Nat) : hF PT ρ α (225, l, a) = PT 225 (l.map (den ρ)) (a.map α) := rfl
def P_alI (l : List Int) (a : List (Int → Int)) : Prop := match l, a with
  | [a, b, c, s, d], [c0, c1, c2, c3, c4, c5, c6, c7, c8, c9] => c = alN s (fun v => rowC v c0 c1 c2 c3 c4 c5 c6 c7 c8 c9 d) a b
  | _, _ => False
theorem hFp_226 {PT : PTy} {ρ : Nat → Int} {α : Nat → Int → Int} (l : List AN) (a : List Nat) : hF PT ρ α (226, l, a) = PT 226 (l.map (den ρ)) (a.map α) := rfl
def P_aqI (l : List Int) (a : List (Int → Int)) : Prop := match l, a with
  | [i, w, v, s, k, n, m, nk, nl, nt, u, h], [so, sz, wh, gr, md, du, kd, ko, ld, lw, lm, td, tw, tm] => obM (askQ (cbX k n m nk nl nt u h so sz wh gr md du kd ko ld lw lm td tw tm) s) i w v 11
  | _, _ => False
theorem hFp_227 {PT : PTy} {ρ : Nat → Int} {α : Nat → Int → Int} (l : List AN) (a : List Nat) : hF PT ρ α (227, l, a) = PT 227 (l.map (den ρ)) (a.map α) := rfl
def P_oaX (l : List Int) (a : List (Int → Int)) : Prop := match l, a with
  | [r, k, ns, n, m, nk, nl, nt, u, h], [so, sz, wh, gr, md, du, kd, ko, ld, lw, lm, td, tw, tm, sd, sw, sm] => (¬ (0 ≤ k ∧ k < n) → r = -2) ∧ (0 ≤ k ∧ k < n → ∃ s v, obB (wsQ k ns n m nk nl nt u h so sz wh gr md du kd ko ld lw lm td tw tm sd sw sm) 10 s ∧ obM (askQ (cbX k n m nk nl nt u h so sz wh gr md du kd ko ld lw lm td tw tm) s) 24 r v 11)
  | _, _ => False
theorem hFp_228 {PT : PTy} {ρ : Nat → Int} {α : Nat → Int → Int} (l : List AN) (a : List Nat) : hF PT ρ α (228, l, a) = PT 228 (l.map (den ρ)) (a.map α) := rfl
def P_atv (l : List Int) (a : List (Int → Int)) : Prop := match l, a with
  | [v, k], [A] => A k = v
  | _, _ => False
theorem hFp_229 {PT : PTy} {ρ : Nat → Int} {α : Nat → Int → Int} (l : List AN) (a : List Nat) : hF PT ρ α (229, l, a) = PT 229 (l.map (den ρ)) (a.map α) := rfl
def P_aqY (l : List Int) (a : List (Int → Int)) : Prop := match l, a with
  | [i, w, v, s, k, n, m, nk, nl, nt], [so, sz, wh, gr, md, du, KD, KO, ld, lw, lm, td, tw, tm] => obN (askQ (cbY k n m nk nl nt 0 0 so sz wh gr md du KD KO ld lw lm td tw tm) s) i w v
  | _, _ => False
theorem hFp_230 {PT : PTy} {ρ : Nat → Int} {α : Nat → Int → Int} (l : List AN) (a : List Nat) : hF PT ρ α (230, l, a) = PT 230 (l.map (den ρ)) (a.map α) := rfl
def P_maY (l : List Int) (a : List (Int → Int)) : Prop := match l, a with
  | [a, m, s, d], [CB] => m = maN s (fun v => CB (24 * v + d)) a
  | _, _ => False
theorem hFp_231 {PT : PTy} {ρ : Nat → Int} {α : Nat → Int → Int} (l : List AN) (a : List Nat) : hF PT ρ α (231, l, a) = PT 231 (l.map (den ρ)) (a.map α) := rfl
def P_alY (l : List Int) (a : List (Int → Int)) : Prop := match l, a with
  | [a, b, c, s, d], [CB] => c = alN s (fun v => CB (24 * v + d)) a b
  | _, _ => False
theorem hFp_232 {PT : PTy} {ρ : Nat → Int} {α : Nat → Int → Int} (l : List AN) (a : List Nat) : hF PT ρ α (232, l, a) = PT 232 (l.map (den ρ)) (a.map α) := rfl
def P_asP (l : List Int) (a : List (Int → Int)) : Prop := match l, a with
  | [r, k, ns, n, m, nk, nl, nt], [L, T, so, sz, wh, gr, md, du, KD, KO, kd, ko, ld, lw, lm, td, tw, tm, sd, sw, sm] => toY n m nk L T so sz wh gr md du KD KO kd ko ∧ ∃ s v, obB (wsY k ns n m nk nl nt 0 0 so sz wh gr md du KD KO ld lw lm td tw tm sd sw sm) 10 s ∧ obN (askQ (cbY k n m nk nl nt 0 0 so sz wh gr md du KD KO ld lw lm td tw tm) s) 24 r v
  | _, _ => False
theorem hFp_233 {PT : PTy} {ρ : Nat → Int} {α : Nat → Int → Int} (l : List AN) (a : List Nat) : hF PT ρ α (233, l, a) = PT 233 (l.map (den ρ)) (a.map α) := rfl
def P_oaY (l : List Int) (a : List (Int → Int)) : Prop := match l, a with
  | [r, k, ns, n, m, nk, nl, nt], [L, T, so, sz, wh, gr, md, du, KD, KO, kd, ko, ld, lw, lm, td, tw, tm, sd, sw, sm] => ∃ n0, nP n0 (L 0) T ∧ (¬ (0 ≤ k ∧ k < n0) → r = -2) ∧ (0 ≤ k ∧ k < n0 → n = n0 ∧ toY n m nk L T so sz wh gr md du KD KO kd ko ∧ ∃ s v, obB (wsY k ns n m nk nl nt 0 0 so sz wh gr md du KD KO ld lw lm td tw tm sd sw sm) 10 s ∧ obN (askQ (cbY k n m nk nl nt 0 0 so sz wh gr md du KD KO ld lw lm td tw tm) s) 24 r v)
  | _, _ => False
theorem hFp_234 {PT : PTy} {ρ : Nat → Int} {α : Nat → Int → Int} (l : List AN) (a : List Nat) : hF PT ρ α (234, l, a) = PT 234 (l.map (den ρ)) (a.map α) := rfl
def HP19 (PT : PTy) : Prop := HP18 PT ∧ (PT 224 = P_ncI ∧ PT 225 = P_maI ∧ PT 226 = P_alI ∧ PT 227 = P_aqI ∧ PT 228 = P_oaX ∧ PT 229 = P_atv ∧ PT 230 = P_aqY ∧ PT 231 = P_maY ∧ PT 232 = P_alY ∧ PT 233 = P_asP ∧ PT 234 = P_oaY ∧ True)
