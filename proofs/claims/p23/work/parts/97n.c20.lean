/-! ===== plans: words alone; printed by wip/gen/x ===== -/
def P_wyS (l : List Int) (a : List (Int → Int)) : Prop := match l, a with
  | [i, b, k, t, ns, n, m, nk, nl, nt], [L, T, so, D4, wh, gr, md, du, KD, KO, ld, lw, lm, td, tw, tm, sd, sw, sm, CB] => wyS i b k t ns n m nk nl nt L T so D4 wh gr md du KD KO ld lw lm td tw tm sd sw sm CB
  | _, _ => False
theorem hFp_206 {PT : PTy} {ρ : Nat → Int} {α : Nat → Int → Int} (l : List AN) (a : List Nat) : hF PT ρ α (206, l, a) = PT 206 (l.map (den ρ)) (a.map α) := rfl
def P_wyT (l : List Int) (a : List (Int → Int)) : Prop := match l, a with
  | [v, d, b, k, t, ns, n, m, nk, nl, nt], [L, T, so, D4, wh, gr, md, du, KD, KO, ld, lw, lm, td, tw, tm, sd, sw, sm, CB, CA] => wyT v d b k t ns n m nk nl nt L T so D4 wh gr md du KD KO ld lw lm td tw tm sd sw sm CB CA
  | _, _ => False
theorem hFp_207 {PT : PTy} {ρ : Nat → Int} {α : Nat → Int → Int} (l : List AN) (a : List Nat) : hF PT ρ α (207, l, a) = PT 207 (l.map (den ρ)) (a.map α) := rfl
def P_szP (l : List Int) (a : List (Int → Int)) : Prop := match l, a with
  | [r, k, ns, n, m, nk, nl, nt], [L, T, so, sz, wh, gr, md, du, KD, KO, kd, ko, ld, lw, lm, td, tw, tm, sd, sw, sm, CB] => toY n m nk L T so sz wh gr md du KD KO kd ko ∧ obB (wsY k ns n m nk nl nt 0 0 so sz wh gr md du KD KO ld lw lm td tw tm sd sw sm) 10 r ∧ ∀ v d, 0 ≤ v → v < 10 → 0 ≤ d → d < 24 → cbY k n m nk nl nt 0 0 so sz wh gr md du KD KO ld lw lm td tw tm v d (CB (24 * v + d))
  | _, _ => False
theorem hFp_208 {PT : PTy} {ρ : Nat → Int} {α : Nat → Int → Int} (l : List AN) (a : List Nat) : hF PT ρ α (208, l, a) = PT 208 (l.map (den ρ)) (a.map α) := rfl
def P_woS (l : List Int) (a : List (Int → Int)) : Prop := match l, a with
  | [i, b, k, t, ns, n, m, nk, nl, nt], [L, T, D3, sz, wh, gr, md, du, KD, KO, ld, lw, lm, td, tw, tm, sd, sw, sm] => ∃ a b' so, rdP a n (L 0) T so sz ∧ rdV b' m (L 1) (sh T) wh gr md du ∧ (∀ q, ¬ q = k → D3 q = so q) ∧ t = so k ∧ obB (woY k ns n m nk nl nt 0 0 so sz wh gr md du KD KO ld lw lm td tw tm sd sw sm) i b
  | _, _ => False
theorem hFp_209 {PT : PTy} {ρ : Nat → Int} {α : Nat → Int → Int} (l : List AN) (a : List Nat) : hF PT ρ α (209, l, a) = PT 209 (l.map (den ρ)) (a.map α) := rfl
def P_soP2 (l : List Int) (a : List (Int → Int)) : Prop := match l, a with
  | [r, k, ns, n, m, nk, nl, nt], [L, T, so, sz, wh, gr, md, du, KD, KO, kd, ko, ld, lw, lm, td, tw, tm, sd, sw, sm] => toY n m nk L T so sz wh gr md du KD KO kd ko ∧ obB (woY k ns n m nk nl nt 0 0 so sz wh gr md du KD KO ld lw lm td tw tm sd sw sm) 3 r
  | _, _ => False
theorem hFp_210 {PT : PTy} {ρ : Nat → Int} {α : Nat → Int → Int} (l : List AN) (a : List Nat) : hF PT ρ α (210, l, a) = PT 210 (l.map (den ρ)) (a.map α) := rfl
def P_owaY (l : List Int) (a : List (Int → Int)) : Prop := match l, a with
  | [r, k, w, ns, n, m, nk, nl, nt], [L, T, so, sz, wh, gr, md, du, KD, KO, kd, ko, ld, lw, lm, td, tw, tm, sd, sw, sm] => ∃ n0, nP n0 (L 0) T ∧ (¬ (0 ≤ k ∧ k < n0 ∧ 0 ≤ w ∧ w ≤ 1) → r = -2) ∧ (0 ≤ k ∧ k < n0 ∧ 0 ≤ w ∧ w ≤ 1 → n = n0 ∧ toY n m nk L T so sz wh gr md du KD KO kd ko ∧ (w = 0 → obB (wsY k ns n m nk nl nt 0 0 so sz wh gr md du KD KO ld lw lm td tw tm sd sw sm) 10 r) ∧ (w = 1 → obB (woY k ns n m nk nl nt 0 0 so sz wh gr md du KD KO ld lw lm td tw tm sd sw sm) 3 r))
  | _, _ => False
theorem hFp_211 {PT : PTy} {ρ : Nat → Int} {α : Nat → Int → Int} (l : List AN) (a : List Nat) : hF PT ρ α (211, l, a) = PT 211 (l.map (den ρ)) (a.map α) := rfl
def HP17 (PT : PTy) : Prop := HP16 PT ∧ (PT 206 = P_wyS ∧ PT 207 = P_wyT ∧ PT 208 = P_szP ∧ PT 209 = P_woS ∧ PT 210 = P_soP2 ∧ PT 211 = P_owaY ∧ True)
