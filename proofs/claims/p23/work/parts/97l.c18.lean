/-! ===== plans: words alone; printed by wip/gen/x ===== -/
def P_sbX (l : List Int) (a : List (Int → Int)) : Prop := match l, a with
  | [r, d, ns, n], [sd, sw, sm, C] => (r = 1 ∧ ∀ j, 0 ≤ j → j < ns → sd j = d → okS n C sw sm j) ∨ (r = 0 ∧ ∃ j, 0 ≤ j ∧ j < ns ∧ sd j = d ∧ ¬ okS n C sw sm j)
  | _, _ => False
theorem hFp_194 {PT : PTy} {ρ : Nat → Int} {α : Nat → Int → Int} (l : List AN) (a : List Nat) : hF PT ρ α (194, l, a) = PT 194 (l.map (den ρ)) (a.map α) := rfl
def P_sbI (l : List Int) (a : List (Int → Int)) : Prop := match l, a with
  | [i, d, n], [sd, sw, sm, C] => ∀ j, 0 ≤ j → j < i → sd j = d → okS n C sw sm j
  | _, _ => False
theorem hFp_195 {PT : PTy} {ρ : Nat → Int} {α : Nat → Int → Int} (l : List AN) (a : List Nat) : hF PT ρ α (195, l, a) = PT 195 (l.map (den ρ)) (a.map α) := rfl
def P_saI (l : List Int) (a : List (Int → Int)) : Prop := match l, a with
  | [d, ns, n, m, nk, nl, nt, u, h], [so, sz, wh, gr, md, du, kd, ko, ld, lw, lm, td, tw, tm, sd, sw, sm] => ∀ j, 0 ≤ j → j < ns → 0 ≤ sd j → sd j < d → shX1 n m nk nl nt u h so sz wh gr md du kd ko ld lw lm td tw tm sd sw sm j
  | _, _ => False
theorem hFp_196 {PT : PTy} {ρ : Nat → Int} {α : Nat → Int → Int} (l : List AN) (a : List Nat) : hF PT ρ α (196, l, a) = PT 196 (l.map (den ρ)) (a.map α) := rfl
def P_saX (l : List Int) (a : List (Int → Int)) : Prop := match l, a with
  | [r, ns, n, m, nk, nl, nt, u, h], [so, sz, wh, gr, md, du, kd, ko, ld, lw, lm, td, tw, tm, sd, sw, sm] => shQ ns n m nk nl nt u h so sz wh gr md du kd ko ld lw lm td tw tm sd sw sm r
  | _, _ => False
theorem hFp_197 {PT : PTy} {ρ : Nat → Int} {α : Nat → Int → Int} (l : List AN) (a : List Nat) : hF PT ρ α (197, l, a) = PT 197 (l.map (den ρ)) (a.map α) := rfl
def P_nvI (l : List Int) (a : List (Int → Int)) : Prop := match l, a with
  | [i, b, ns, n, m, nk, nl, nt], [so, sz, wh, gr, md, du, kd, ko, ld, lw, lm, td, tw, tm, sd, sw, sm] => obB (fun j v => shQ ns n m nk nl nt (mShl 1 j) 0 so sz wh gr md du kd ko ld lw lm td tw tm sd sw sm v) i b
  | _, _ => False
theorem hFp_198 {PT : PTy} {ρ : Nat → Int} {α : Nat → Int → Int} (l : List AN) (a : List Nat) : hF PT ρ α (198, l, a) = PT 198 (l.map (den ρ)) (a.map α) := rfl
def P_onvX (l : List Int) (a : List (Int → Int)) : Prop := match l, a with
  | [r, ns, n, m, nk, nl, nt], [so, sz, wh, gr, md, du, kd, ko, ld, lw, lm, td, tw, tm, sd, sw, sm] => obB (fun j v => shQ ns n m nk nl nt (mShl 1 j) 0 so sz wh gr md du kd ko ld lw lm td tw tm sd sw sm v) nk r
  | _, _ => False
theorem hFp_199 {PT : PTy} {ρ : Nat → Int} {α : Nat → Int → Int} (l : List AN) (a : List Nat) : hF PT ρ α (199, l, a) = PT 199 (l.map (den ρ)) (a.map α) := rfl
def P_sy (l : List Int) (a : List (Int → Int)) : Prop := match l, a with
  | [r, ns, n], [sd, sw, sm, CA] => shT ns n CA sd sw sm r
  | _, _ => False
theorem hFp_200 {PT : PTy} {ρ : Nat → Int} {α : Nat → Int → Int} (l : List AN) (a : List Nat) : hF PT ρ α (200, l, a) = PT 200 (l.map (den ρ)) (a.map α) := rfl
def P_nyI (l : List Int) (a : List (Int → Int)) : Prop := match l, a with
  | [i, b, ns, n, m, nk, nl, nt], [so, sz, wh, gr, md, du, KD, KO, ld, lw, lm, td, tw, tm, sd, sw, sm] => obB (fun j v => shYQ ns n m nk nl nt (mShl 1 j) 0 so sz wh gr md du KD KO ld lw lm td tw tm sd sw sm v) i b
  | _, _ => False
theorem hFp_201 {PT : PTy} {ρ : Nat → Int} {α : Nat → Int → Int} (l : List AN) (a : List Nat) : hF PT ρ α (201, l, a) = PT 201 (l.map (den ρ)) (a.map α) := rfl
def P_onvY (l : List Int) (a : List (Int → Int)) : Prop := match l, a with
  | [r, ns, n, m, nk, nl, nt], [L, T, so, sz, wh, gr, md, du, KD, KO, kd, ko, ld, lw, lm, td, tw, tm, sd, sw, sm] => toY n m nk L T so sz wh gr md du KD KO kd ko ∧ obB (fun j v => shYQ ns n m nk nl nt (mShl 1 j) 0 so sz wh gr md du KD KO ld lw lm td tw tm sd sw sm v) nk r
  | _, _ => False
theorem hFp_202 {PT : PTy} {ρ : Nat → Int} {α : Nat → Int → Int} (l : List AN) (a : List Nat) : hF PT ρ α (202, l, a) = PT 202 (l.map (den ρ)) (a.map α) := rfl
def HP15 (PT : PTy) : Prop := HP14 PT ∧ (PT 194 = P_sbX ∧ PT 195 = P_sbI ∧ PT 196 = P_saI ∧ PT 197 = P_saX ∧ PT 198 = P_nvI ∧ PT 199 = P_onvX ∧ PT 200 = P_sy ∧ PT 201 = P_nyI ∧ PT 202 = P_onvY ∧ True)
