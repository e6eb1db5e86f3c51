/-! ===== plans; printed by wip/gen/x ===== -/
def P_kpI (l : List Int) (a : List (Int → Int)) : Prop := match l, a with
  | [b, i, k, m], [ko, wh] => b = bitG (kpP m k ko wh) i.toNat
  | _, _ => False
theorem hFp_235 {PT : PTy} {ρ : Nat → Int} {α : Nat → Int → Int} (l : List AN) (a : List Nat) : hF PT ρ α (235, l, a) = PT 235 (l.map (den ρ)) (a.map α) := rfl
def P_wtI (l : List Int) (a : List (Int → Int)) : Prop := match l, a with
  | [w, i, c, t, u], [] => w = wtF c t u i.toNat
  | _, _ => False
theorem hFp_236 {PT : PTy} {ρ : Nat → Int} {α : Nat → Int → Int} (l : List AN) (a : List Nat) : hF PT ρ α (236, l, a) = PT 236 (l.map (den ρ)) (a.map α) := rfl
def P_wcI (l : List Int) (a : List (Int → Int)) : Prop := match l, a with
  | [s, j, c, t, d, k, n, m, nk, nl, nt], [so, sz, wh, gr, md, du, kd, ko, ld, lw, lm, td, tw, tm] => ∃ G : Int → Int, (∀ i, 0 ≤ i → i < j → mAnd i (mXor t (-1)) = 0 → (fwX d k n m nk nl nt so sz wh gr md du kd ko ld lw lm td tw tm) i (G i)) ∧ s = smC c t G j.toNat
  | _, _ => False
theorem hFp_237 {PT : PTy} {ρ : Nat → Int} {α : Nat → Int → Int} (l : List AN) (a : List Nat) : hF PT ρ α (237, l, a) = PT 237 (l.map (den ρ)) (a.map α) := rfl
def P_hlI (l : List Int) (a : List (Int → Int)) : Prop := match l, a with
  | [a, b, i, c, t, d, k, n, m, nk, nl, nt], [so, sz, wh, gr, md, du, kd, ko, ld, lw, lm, td, tw, tm] => ∃ G : Int → Int, (∀ i, 0 ≤ i → i < 256 → mAnd i (mXor t (-1)) = 0 → (fwX d k n m nk nl nt so sz wh gr md du kd ko ld lw lm td tw tm) i (G i)) ∧ a * 2 ^ i.toNat = smC c t G 256 ∧ b * 2 ^ i.toNat = ((2 ^ (4 * bcF t).toNat : Nat) : Int)
  | _, _ => False
theorem hFp_238 {PT : PTy} {ρ : Nat → Int} {α : Nat → Int → Int} (l : List AN) (a : List Nat) : hF PT ρ α (238, l, a) = PT 238 (l.map (den ρ)) (a.map α) := rfl
def P_pwI (l : List Int) (a : List (Int → Int)) : Prop := match l, a with
  | [b, t], [] => b = ((2 ^ (4 * bcF t).toNat : Nat) : Int)
  | _, _ => False
theorem hFp_239 {PT : PTy} {ρ : Nat → Int} {α : Nat → Int → Int} (l : List AN) (a : List Nat) : hF PT ρ α (239, l, a) = PT 239 (l.map (den ρ)) (a.map α) := rfl
def P_wdX (l : List Int) (a : List (Int → Int)) : Prop := match l, a with
  | [r, c, k, d, w, n, m, nk, nl, nt], [so, sz, wh, gr, md, du, kd, ko, ld, lw, lm, td, tw, tm] => (¬ ((0 ≤ c ∧ c ≤ 16) ∧ (0 ≤ k ∧ k < n) ∧ (0 ≤ d ∧ d ≤ 23) ∧ (0 ≤ w ∧ w ≤ 1)) → r = -9223372036854775806) ∧ ((0 ≤ c ∧ c ≤ 16) ∧ (0 ≤ k ∧ k < n) ∧ (0 ≤ d ∧ d ≤ 23) ∧ (0 ≤ w ∧ w ≤ 1) → ∃ (G : Int → Int) (t a b i : Int), t = bitG (kpP m k ko wh) nk.toNat ∧ 0 ≤ i ∧ i ≤ 32 ∧ (∀ j, 0 ≤ j → j < 256 → mAnd j (mXor t (-1)) = 0 → (fwX d k n m nk nl nt so sz wh gr md du kd ko ld lw lm td tw tm) j (G j)) ∧ a * 2 ^ i.toNat = smC c t G 256 ∧ b * 2 ^ i.toNat = ((2 ^ (4 * bcF t).toNat : Nat) : Int) ∧ (b ≤ 1 ∨ a % 2 = 1 ∨ i = 32) ∧ 0 ≤ a ∧ 0 ≤ b ∧ (w = 0 → r = a) ∧ (w = 1 → r = b))
  | _, _ => False
theorem hFp_240 {PT : PTy} {ρ : Nat → Int} {α : Nat → Int → Int} (l : List AN) (a : List Nat) : hF PT ρ α (240, l, a) = PT 240 (l.map (den ρ)) (a.map α) := rfl
def P_wrI (l : List Int) (a : List (Int → Int)) : Prop := match l, a with
  | [w, i, c, u], [] => w = wrF c u i.toNat
  | _, _ => False
theorem hFp_241 {PT : PTy} {ρ : Nat → Int} {α : Nat → Int → Int} (l : List AN) (a : List Nat) : hF PT ρ α (241, l, a) = PT 241 (l.map (den ρ)) (a.map α) := rfl
def P_wyI (l : List Int) (a : List (Int → Int)) : Prop := match l, a with
  | [s, j, c, d, k, n, m, nk, nl, nt], [so, sz, wh, gr, md, du, KD, KO, ld, lw, lm, td, tw, tm] => ∃ G : Int → Int, (∀ i, 0 ≤ i → i < j → (fwY d k n m nk nl nt so sz wh gr md du KD KO ld lw lm td tw tm) i (G i) ∨ wrF c i nk.toNat = 0) ∧ s = smY c nk.toNat G j.toNat
  | _, _ => False
theorem hFp_242 {PT : PTy} {ρ : Nat → Int} {α : Nat → Int → Int} (l : List AN) (a : List Nat) : hF PT ρ α (242, l, a) = PT 242 (l.map (den ρ)) (a.map α) := rfl
def P_slI (l : List Int) (a : List (Int → Int)) : Prop := match l, a with
  | [j, nk], [] => j ≤ mShl 1 nk
  | _, _ => False
theorem hFp_243 {PT : PTy} {ρ : Nat → Int} {α : Nat → Int → Int} (l : List AN) (a : List Nat) : hF PT ρ α (243, l, a) = PT 243 (l.map (den ρ)) (a.map α) := rfl
def P_sjI (l : List Int) (a : List (Int → Int)) : Prop := match l, a with
  | [j, nk], [] => j < mShl 1 nk
  | _, _ => False
theorem hFp_244 {PT : PTy} {ρ : Nat → Int} {α : Nat → Int → Int} (l : List AN) (a : List Nat) : hF PT ρ α (244, l, a) = PT 244 (l.map (den ρ)) (a.map α) := rfl
def P_lwX (l : List Int) (a : List (Int → Int)) : Prop := match l, a with
  | [r, a, b, w], [] => (w = 0 → r = a / (gcI a b : Int)) ∧ (¬ w = 0 → r = b / (gcI a b : Int))
  | _, _ => False
theorem hFp_245 {PT : PTy} {ρ : Nat → Int} {α : Nat → Int → Int} (l : List AN) (a : List Nat) : hF PT ρ α (245, l, a) = PT 245 (l.map (den ρ)) (a.map α) := rfl
def P_wrP (l : List Int) (a : List (Int → Int)) : Prop := match l, a with
  | [r, c, d, k, w, n, m, nk, nl, nt], [L, T, so, sz, wh, gr, md, du, KD, KO, kd, ko, ld, lw, lm, td, tw, tm] => toY n m nk L T so sz wh gr md du KD KO kd ko ∧ ∃ G : Int → Int, (∀ i, 0 ≤ i → i < ((2 ^ nk.toNat : Nat) : Int) → (fwY d k n m nk nl nt so sz wh gr md du KD KO ld lw lm td tw tm) i (G i) ∨ wrF c i nk.toNat = 0) ∧ (w = 0 → r = smY c nk.toNat G (2 ^ nk.toNat) / (gcI (smY c nk.toNat G (2 ^ nk.toNat)) ((2 ^ (4 * nk).toNat : Nat) : Int) : Int)) ∧ (¬ w = 0 → r = ((2 ^ (4 * nk).toNat : Nat) : Int) / (gcI (smY c nk.toNat G (2 ^ nk.toNat)) ((2 ^ (4 * nk).toNat : Nat) : Int) : Int))
  | _, _ => False
theorem hFp_246 {PT : PTy} {ρ : Nat → Int} {α : Nat → Int → Int} (l : List AN) (a : List Nat) : hF PT ρ α (246, l, a) = PT 246 (l.map (den ρ)) (a.map α) := rfl
def P_wdY (l : List Int) (a : List (Int → Int)) : Prop := match l, a with
  | [r, c, k, d, w, n, m, nk, nl, nt], [L, T, so, sz, wh, gr, md, du, KD, KO, kd, ko, ld, lw, lm, td, tw, tm] => ∃ n0, nP n0 (L 0) T ∧ (¬ ((0 ≤ c ∧ c ≤ 16) ∧ (0 ≤ k ∧ k < n0) ∧ (0 ≤ d ∧ d ≤ 23) ∧ (0 ≤ w ∧ w ≤ 1)) → r = -9223372036854775806) ∧ ((0 ≤ c ∧ c ≤ 16) ∧ (0 ≤ k ∧ k < n0) ∧ (0 ≤ d ∧ d ≤ 23) ∧ (0 ≤ w ∧ w ≤ 1) → n = n0 ∧ toY n m nk L T so sz wh gr md du KD KO kd ko ∧ ∃ G : Int → Int, (∀ i, 0 ≤ i → i < ((2 ^ nk.toNat : Nat) : Int) → (fwY d k n m nk nl nt so sz wh gr md du KD KO ld lw lm td tw tm) i (G i) ∨ wrF c i nk.toNat = 0) ∧ (w = 0 → r = smY c nk.toNat G (2 ^ nk.toNat) / (gcI (smY c nk.toNat G (2 ^ nk.toNat)) ((2 ^ (4 * nk).toNat : Nat) : Int) : Int)) ∧ (¬ w = 0 → r = ((2 ^ (4 * nk).toNat : Nat) : Int) / (gcI (smY c nk.toNat G (2 ^ nk.toNat)) ((2 ^ (4 * nk).toNat : Nat) : Int) : Int)))
  | _, _ => False
theorem hFp_247 {PT : PTy} {ρ : Nat → Int} {α : Nat → Int → Int} (l : List AN) (a : List Nat) : hF PT ρ α (247, l, a) = PT 247 (l.map (den ρ)) (a.map α) := rfl
def HP20 (PT : PTy) : Prop := HP19 PT ∧ (PT 235 = P_kpI ∧ PT 236 = P_wtI ∧ PT 237 = P_wcI ∧ PT 238 = P_hlI ∧ PT 239 = P_pwI ∧ PT 240 = P_wdX ∧ PT 241 = P_wrI ∧ PT 242 = P_wyI ∧ PT 243 = P_slI ∧ PT 244 = P_sjI ∧ PT 245 = P_lwX ∧ PT 246 = P_wrP ∧ PT 247 = P_wdY ∧ True)
def c_kpOf : XC := (95, 1, (bT ++ [(0, 7)]), [.inr (.inl 0), .inl (some 14, 0)], (gX 14), [], [((bT ++ [(0, 7), (0, 255)]), some (.inl (some 15, 0)), (gX 14), (List.range 58), 58, [(235, [(some 15, 0), (some 4, 0), (some 14, 0), (some 3, 0)], [16, 10])])])
def h_kpOf : List XH := [(4, (bT ++ [(0, 7), ((-2147483648), 2147483647), (0, 8)]), [some (.inr (.inl 0)), some (.inl (some 14, 0)), some (.inl (some 15, 0)), some (.inl (some 16, 0)), none], (gX 14), (List.range 58), 58, [(235, [(some 15, 0), (some 16, 0), (some 14, 0), (some 3, 0)], [16, 10]), (3, [(some 4, 0), (some 16, 0)], [])], [(true, (none, 1)), (true, (some 16, 0))])]
def w_kpOf_0_0 : VC := ((bT ++ [(0, 7)]), [], (235, [(none, 0), (none, 0), (some 14, 0), (some 3, 0)], [16, 10]))
theorem pe235_20 {PT : PTy} (hp : HP20 PT) : PT 235 = P_kpI := hp.2.1
set_option maxRecDepth 20000 in
theorem v_kpOf_0_0 {PT : PTy} (hp : HP20 PT) : vcOk PT w_kpOf_0_0 := vc_iv [(3, 0, 10), (14, 0, 7)] [10, 16] (by decide +kernel) (fun ρ α => by
  intro r3 g3 b3 r14 g14 b14 a10 h10 a16 h16 tt
  have e235 : PT 235 = P_kpI := pe235_20 hp
  simp only [hFp_235, e235, P_kpI, den_s, den_c, Int.add_zero, List.map_cons, List.map_nil, g3.eq, g14.eq, h10, h16] at ⊢
  rfl)
def w_kpOf_0_1 : VC := ((bT ++ [(0, 7)]), [], (3, [(some 4, 0), (none, 0)], []))
set_option maxRecDepth 20000 in
theorem v_kpOf_0_1 {PT : PTy} (hp : HP20 PT) : vcOk PT w_kpOf_0_1 := vc_iv [(4, 0, 8)] [] (by decide +kernel) (fun ρ α => by
  intro r4 g4 b4 tt
  simp only [hF3, den_s, den_c, Int.add_zero, List.map_cons, List.map_nil, g4.eq] at ⊢
  omega)
def w_kpOf_1_0 : VC := ((bT ++ [(0, 7), ((-2147483648), 2147483647), (0, 8)]), [(3, [(some 16, 0), (some 4, 0)], []), (235, [(some 15, 0), (some 16, 0), (some 14, 0), (some 3, 0)], [16, 10]), (3, [(some 4, 0), (some 16, 0)], [])], (3, [(some 15, 0), (none, 0)], []))
set_option maxRecDepth 20000 in
theorem v_kpOf_1_0 {PT : PTy} (hp : HP20 PT) : vcOk PT w_kpOf_1_0 := vc_iv [(3, 0, 10), (4, 0, 8), (14, 0, 7), (15, (-2147483648), 2147483647), (16, 0, 8)] [10, 16] (by decide +kernel) (fun ρ α => by
  intro r3 g3 b3 r4 g4 b4 r14 g14 b14 r15 g15 b15 r16 g16 b16 a10 h10 a16 h16 f0 f1 f2 tt
  have e235 : PT 235 = P_kpI := pe235_20 hp
  simp only [hF3, hFp_235, e235, P_kpI, den_s, den_c, Int.add_zero, List.map_cons, List.map_nil, g3.eq, g4.eq, g14.eq, g15.eq, g16.eq, h10, h16] at f0 f1 f2 ⊢
  have h := f1
  have b := bitG_255 (p := kpP r3 r14 a16 a10) (n := r16) (by omega)
  omega)
def w_kpOf_1_1 : VC := ((bT ++ [(0, 7), ((-2147483648), 2147483647), (0, 8)]), [(3, [(some 16, 0), (some 4, 0)], []), (235, [(some 15, 0), (some 16, 0), (some 14, 0), (some 3, 0)], [16, 10]), (3, [(some 4, 0), (some 16, 0)], [])], (3, [(none, 255), (some 15, 0)], []))
set_option maxRecDepth 20000 in
theorem v_kpOf_1_1 {PT : PTy} (hp : HP20 PT) : vcOk PT w_kpOf_1_1 := vc_iv [(3, 0, 10), (4, 0, 8), (14, 0, 7), (15, (-2147483648), 2147483647), (16, 0, 8)] [10, 16] (by decide +kernel) (fun ρ α => by
  intro r3 g3 b3 r4 g4 b4 r14 g14 b14 r15 g15 b15 r16 g16 b16 a10 h10 a16 h16 f0 f1 f2 tt
  have e235 : PT 235 = P_kpI := pe235_20 hp
  simp only [hF3, hFp_235, e235, P_kpI, den_s, den_c, Int.add_zero, List.map_cons, List.map_nil, g3.eq, g4.eq, g14.eq, g15.eq, g16.eq, h10, h16] at f0 f1 f2 ⊢
  have h := f1
  have b := bitG_255 (p := kpP r3 r14 a16 a10) (n := r16) (by omega)
  omega)
def w_kpOf_1_2 : VC := ((bT ++ [(0, 7), ((-2147483648), 2147483647), (0, 8)]), [(3, [(some 16, 0), (some 4, 0)], []), (235, [(some 15, 0), (some 16, 0), (some 14, 0), (some 3, 0)], [16, 10]), (3, [(some 4, 0), (some 16, 0)], [])], (235, [(some 15, 0), (some 4, 0), (some 14, 0), (some 3, 0)], [16, 10]))
set_option maxRecDepth 20000 in
theorem v_kpOf_1_2 {PT : PTy} (hp : HP20 PT) : vcOk PT w_kpOf_1_2 := vc_iv [(3, 0, 10), (4, 0, 8), (14, 0, 7), (15, (-2147483648), 2147483647), (16, 0, 8)] [10, 16] (by decide +kernel) (fun ρ α => by
  intro r3 g3 b3 r4 g4 b4 r14 g14 b14 r15 g15 b15 r16 g16 b16 a10 h10 a16 h16 f0 f1 f2 tt
  have e235 : PT 235 = P_kpI := pe235_20 hp
  simp only [hF3, hFp_235, e235, P_kpI, den_s, den_c, Int.add_zero, List.map_cons, List.map_nil, g3.eq, g4.eq, g14.eq, g15.eq, g16.eq, h10, h16] at f0 f1 f2 ⊢
  have h := f1
  rw [show r16 = r4 by omega] at h
  exact h)
def w_kpOf_1_3 : VC := (([(0, 23), (0, 49), (0, 8), (0, 9), (1, 8), (0, 6), (0, 6), (0, 8), (0, 9), (0, 49), (0, 49), ((-2147483648), 2147483647), ((-2147483648), 2147483647), (0, 5), (0, 7), ((-2147483648), 2147483647), (0, 7), (0, 9)]), [(0, [(none, 0), (none, 0)], []), (3, [(some 17, 0), (some 3, 0)], []), (3, [(some 17, 0), (none, 0)], []), (20, [(some 17, 0), (some 16, 0)], [16]), (2, [(some 16, 0), (some 4, 0)], []), (235, [(some 15, 0), (some 16, 0), (some 14, 0), (some 3, 0)], [16, 10]), (3, [(some 4, 0), (some 16, 0)], [])], (235, [(some 15, 0), (some 16, 1), (some 14, 0), (some 3, 0)], [16, 10]))
set_option maxRecDepth 20000 in
theorem v_kpOf_1_3 {PT : PTy} (hp : HP20 PT) : vcOk PT w_kpOf_1_3 := vc_iv [(3, 0, 9), (4, 1, 8), (14, 0, 7), (15, (-2147483648), 2147483647), (16, 0, 7), (17, 0, 9)] [10, 16] (by decide +kernel) (fun ρ α => by
  intro r3 g3 b3 r4 g4 b4 r14 g14 b14 r15 g15 b15 r16 g16 b16 r17 g17 b17 a10 h10 a16 h16 f0 f1 f2 f3 f4 f5 f6 tt
  clear f0 f2
  have e235 : PT 235 = P_kpI := pe235_20 hp
  simp only [hF2, hF3, hF20, hFp_235, e235, P_kpI, den_s, den_c, Int.add_zero, List.map_cons, List.map_nil, g3.eq, g4.eq, g14.eq, g15.eq, g16.eq, g17.eq, h10, h16] at f1 f3 f4 f5 f6 ⊢
  subst f3
  have h := f5
  have kd : kpP r3 r14 a16 a10 r16 = decide ((0 ≤ a16 r16 ∧ a16 r16 < r3) ∧ a10 (a16 r16) = r14) := rfl
  rw [bitG_s (by omega), ← h, kd]
  first
    | (rw [if_neg (fun q => by have q := of_decide_eq_true q; omega)])
    | (rw [if_pos (decide_eq_true (by omega))]))
def w_kpOf_1_4 : VC := (([(0, 23), (0, 49), (0, 8), (0, 9), (1, 8), (0, 6), (0, 6), (0, 8), (0, 9), (0, 49), (0, 49), ((-2147483648), 2147483647), ((-2147483648), 2147483647), (0, 5), (0, 7), ((-2147483648), 2147483647), (0, 7), (0, 9)]), [(0, [(none, 0), (none, 0)], []), (3, [(some 17, 0), (some 3, 0)], []), (3, [(some 17, 0), (none, 0)], []), (20, [(some 17, 0), (some 16, 0)], [16]), (2, [(some 16, 0), (some 4, 0)], []), (235, [(some 15, 0), (some 16, 0), (some 14, 0), (some 3, 0)], [16, 10]), (3, [(some 4, 0), (some 16, 0)], [])], (3, [(some 4, 0), (some 16, 1)], []))
set_option maxRecDepth 20000 in
theorem v_kpOf_1_4 {PT : PTy} (hp : HP20 PT) : vcOk PT w_kpOf_1_4 := vc_iv [(3, 0, 9), (4, 1, 8), (14, 0, 7), (15, (-2147483648), 2147483647), (16, 0, 7), (17, 0, 9)] [10, 16] (by decide +kernel) (fun ρ α => by
  intro r3 g3 b3 r4 g4 b4 r14 g14 b14 r15 g15 b15 r16 g16 b16 r17 g17 b17 a10 h10 a16 h16 f0 f1 f2 f3 f4 f5 f6 tt
  clear f0 f2
  have e235 : PT 235 = P_kpI := pe235_20 hp
  simp only [hF2, hF3, hF20, hFp_235, e235, P_kpI, den_s, den_c, Int.add_zero, List.map_cons, List.map_nil, g3.eq, g4.eq, g14.eq, g15.eq, g16.eq, g17.eq, h10, h16] at f1 f3 f4 f5 f6 ⊢
  subst f3
  omega)
def w_kpOf_1_5 : VC := (([(0, 23), (0, 49), (0, 8), (1, 10), (1, 8), (0, 6), (0, 6), (0, 8), (0, 9), (0, 49), (0, 49), ((-2147483648), 2147483647), ((-2147483648), 2147483647), (0, 5), (0, 7), ((-2147483648), 2147483647), (0, 7), (0, 9), (0, 7)]), [(1, [(some 18, 0), (some 14, 0)], []), (20, [(some 18, 0), (some 17, 0)], [10]), (1, [(none, 1), (none, 0)], []), (2, [(some 17, 0), (some 3, 0)], []), (3, [(some 17, 0), (none, 0)], []), (20, [(some 17, 0), (some 16, 0)], [16]), (2, [(some 16, 0), (some 4, 0)], []), (235, [(some 15, 0), (some 16, 0), (some 14, 0), (some 3, 0)], [16, 10]), (3, [(some 4, 0), (some 16, 0)], [])], (235, [(some 15, 0), (some 16, 1), (some 14, 0), (some 3, 0)], [16, 10]))
set_option maxRecDepth 20000 in
theorem v_kpOf_1_5 {PT : PTy} (hp : HP20 PT) : vcOk PT w_kpOf_1_5 := vc_iv [(3, 1, 10), (4, 1, 8), (14, 0, 7), (15, (-2147483648), 2147483647), (16, 0, 7), (17, 0, 9), (18, 0, 7)] [10, 16] (by decide +kernel) (fun ρ α => by
  intro r3 g3 b3 r4 g4 b4 r14 g14 b14 r15 g15 b15 r16 g16 b16 r17 g17 b17 r18 g18 b18 a10 h10 a16 h16 f0 f1 f2 f3 f4 f5 f6 f7 f8 tt
  clear f2 f4
  have e235 : PT 235 = P_kpI := pe235_20 hp
  simp only [hF1, hF2, hF3, hF20, hFp_235, e235, P_kpI, den_s, den_c, Int.add_zero, List.map_cons, List.map_nil, g3.eq, g4.eq, g14.eq, g15.eq, g16.eq, g17.eq, g18.eq, h10, h16] at f0 f1 f3 f5 f6 f7 f8 ⊢
  subst f1
  subst f5
  have h := f7
  have kd : kpP r3 r14 a16 a10 r16 = decide ((0 ≤ a16 r16 ∧ a16 r16 < r3) ∧ a10 (a16 r16) = r14) := rfl
  rw [bitG_s (by omega), ← h, kd]
  first
    | (rw [if_neg (fun q => by have q := of_decide_eq_true q; omega)])
    | (rw [if_pos (decide_eq_true (by omega))]))
def w_kpOf_1_6 : VC := (([(0, 23), (0, 49), (0, 8), (1, 10), (1, 8), (0, 6), (0, 6), (0, 8), (0, 9), (0, 49), (0, 49), ((-2147483648), 2147483647), ((-2147483648), 2147483647), (0, 5), (0, 7), ((-2147483648), 2147483647), (0, 7), (0, 9), (0, 7)]), [(1, [(some 18, 0), (some 14, 0)], []), (20, [(some 18, 0), (some 17, 0)], [10]), (1, [(none, 1), (none, 0)], []), (2, [(some 17, 0), (some 3, 0)], []), (3, [(some 17, 0), (none, 0)], []), (20, [(some 17, 0), (some 16, 0)], [16]), (2, [(some 16, 0), (some 4, 0)], []), (235, [(some 15, 0), (some 16, 0), (some 14, 0), (some 3, 0)], [16, 10]), (3, [(some 4, 0), (some 16, 0)], [])], (3, [(some 4, 0), (some 16, 1)], []))
set_option maxRecDepth 20000 in
theorem v_kpOf_1_6 {PT : PTy} (hp : HP20 PT) : vcOk PT w_kpOf_1_6 := vc_iv [(3, 1, 10), (4, 1, 8), (14, 0, 7), (15, (-2147483648), 2147483647), (16, 0, 7), (17, 0, 9), (18, 0, 7)] [10, 16] (by decide +kernel) (fun ρ α => by
  intro r3 g3 b3 r4 g4 b4 r14 g14 b14 r15 g15 b15 r16 g16 b16 r17 g17 b17 r18 g18 b18 a10 h10 a16 h16 f0 f1 f2 f3 f4 f5 f6 f7 f8 tt
  clear f2 f4
  have e235 : PT 235 = P_kpI := pe235_20 hp
  simp only [hF1, hF2, hF3, hF20, hFp_235, e235, P_kpI, den_s, den_c, Int.add_zero, List.map_cons, List.map_nil, g3.eq, g4.eq, g14.eq, g15.eq, g16.eq, g17.eq, g18.eq, h10, h16] at f0 f1 f3 f5 f6 f7 f8 ⊢
  subst f1
  subst f5
  omega)
def w_kpOf_1_7 : VC := (([(0, 23), (0, 49), (0, 8), (1, 10), (1, 8), (0, 6), (0, 6), (0, 8), (0, 9), (0, 49), (0, 49), ((-2147483648), 2147483647), ((-2147483648), 2147483647), (0, 5), (0, 7), ((-2147483648), 2147483647), (0, 7), (0, 9), (0, 7), (1, 128), ((-2147483648), 2147483647)]), [(11, [(some 20, 0), (some 15, 0), (some 19, 0)], []), (13, [(some 19, 0), (none, 1), (some 16, 0)], []), (0, [(some 18, 0), (some 14, 0)], []), (20, [(some 18, 0), (some 17, 0)], [10]), (1, [(none, 1), (none, 0)], []), (2, [(some 17, 0), (some 3, 0)], []), (3, [(some 17, 0), (none, 0)], []), (20, [(some 17, 0), (some 16, 0)], [16]), (2, [(some 16, 0), (some 4, 0)], []), (235, [(some 15, 0), (some 16, 0), (some 14, 0), (some 3, 0)], [16, 10]), (3, [(some 4, 0), (some 16, 0)], [])], (235, [(some 20, 0), (some 16, 1), (some 14, 0), (some 3, 0)], [16, 10]))
set_option maxRecDepth 20000 in
theorem v_kpOf_1_7 {PT : PTy} (hp : HP20 PT) : vcOk PT w_kpOf_1_7 := vc_iv [(3, 1, 10), (4, 1, 8), (14, 0, 7), (15, (-2147483648), 2147483647), (16, 0, 7), (17, 0, 9), (18, 0, 7), (19, 1, 128), (20, (-2147483648), 2147483647)] [10, 16] (by decide +kernel) (fun ρ α => by
  intro r3 g3 b3 r4 g4 b4 r14 g14 b14 r15 g15 b15 r16 g16 b16 r17 g17 b17 r18 g18 b18 r19 g19 b19 r20 g20 b20 a10 h10 a16 h16 f0 f1 f2 f3 f4 f5 f6 f7 f8 f9 f10 tt
  clear f4 f6
  have e235 : PT 235 = P_kpI := pe235_20 hp
  simp only [hF0, hF2, hF3, hF11, hF13, hF20, hFp_235, e235, P_kpI, den_s, den_c, Int.add_zero, List.map_cons, List.map_nil, g3.eq, g4.eq, g14.eq, g15.eq, g16.eq, g17.eq, g18.eq, g19.eq, g20.eq, h10, h16] at f0 f1 f2 f3 f5 f7 f8 f9 f10 ⊢
  subst f0
  subst f1
  subst f3
  subst f7
  have h := f9
  have kd : kpP r3 r14 a16 a10 r16 = decide ((0 ≤ a16 r16 ∧ a16 r16 < r3) ∧ a10 (a16 r16) = r14) := rfl
  rw [bitG_s (by omega), ← h, kd]
  first
    | (rw [if_neg (fun q => by have q := of_decide_eq_true q; omega)])
    | (rw [if_pos (decide_eq_true (by omega))]))
def w_kpOf_1_8 : VC := (([(0, 23), (0, 49), (0, 8), (1, 10), (1, 8), (0, 6), (0, 6), (0, 8), (0, 9), (0, 49), (0, 49), ((-2147483648), 2147483647), ((-2147483648), 2147483647), (0, 5), (0, 7), ((-2147483648), 2147483647), (0, 7), (0, 9), (0, 7), (1, 128), ((-2147483648), 2147483647)]), [(11, [(some 20, 0), (some 15, 0), (some 19, 0)], []), (13, [(some 19, 0), (none, 1), (some 16, 0)], []), (0, [(some 18, 0), (some 14, 0)], []), (20, [(some 18, 0), (some 17, 0)], [10]), (1, [(none, 1), (none, 0)], []), (2, [(some 17, 0), (some 3, 0)], []), (3, [(some 17, 0), (none, 0)], []), (20, [(some 17, 0), (some 16, 0)], [16]), (2, [(some 16, 0), (some 4, 0)], []), (235, [(some 15, 0), (some 16, 0), (some 14, 0), (some 3, 0)], [16, 10]), (3, [(some 4, 0), (some 16, 0)], [])], (3, [(some 4, 0), (some 16, 1)], []))
set_option maxRecDepth 20000 in
theorem v_kpOf_1_8 {PT : PTy} (hp : HP20 PT) : vcOk PT w_kpOf_1_8 := vc_iv [(3, 1, 10), (4, 1, 8), (14, 0, 7), (15, (-2147483648), 2147483647), (16, 0, 7), (17, 0, 9), (18, 0, 7), (19, 1, 128), (20, (-2147483648), 2147483647)] [10, 16] (by decide +kernel) (fun ρ α => by
  intro r3 g3 b3 r4 g4 b4 r14 g14 b14 r15 g15 b15 r16 g16 b16 r17 g17 b17 r18 g18 b18 r19 g19 b19 r20 g20 b20 a10 h10 a16 h16 f0 f1 f2 f3 f4 f5 f6 f7 f8 f9 f10 tt
  clear f4 f6
  have e235 : PT 235 = P_kpI := pe235_20 hp
  simp only [hF0, hF2, hF3, hF11, hF13, hF20, hFp_235, e235, P_kpI, den_s, den_c, Int.add_zero, List.map_cons, List.map_nil, g3.eq, g4.eq, g14.eq, g15.eq, g16.eq, g17.eq, g18.eq, g19.eq, g20.eq, h10, h16] at f0 f1 f2 f3 f5 f7 f8 f9 f10 ⊢
  subst f0
  subst f1
  subst f3
  subst f7
  omega)
set_option maxRecDepth 1000000 in
theorem k_kpOf {PT : PTy} (hp : HP20 PT) : wfX c_kpOf = true ∧ xcOk PT c_kpOf := xctr (xl0) c_kpOf 61 mX6_keepingsOf rfl h_kpOf (by decide +kernel) (by decide +kernel) (by decide) (vcs_by [w_kpOf_0_0, w_kpOf_0_1] (by decide +kernel) (vc (v_kpOf_0_0 hp) (vc (v_kpOf_0_1 hp) vn))) (fmc (vcs_by [w_kpOf_1_0, w_kpOf_1_1, w_kpOf_1_2, w_kpOf_1_3, w_kpOf_1_4, w_kpOf_1_5, w_kpOf_1_6, w_kpOf_1_7, w_kpOf_1_8] (by decide +kernel) (vc (v_kpOf_1_0 hp) (vc (v_kpOf_1_1 hp) (vc (v_kpOf_1_2 hp) (vc (v_kpOf_1_3 hp) (vc (v_kpOf_1_4 hp) (vc (v_kpOf_1_5 hp) (vc (v_kpOf_1_6 hp) (vc (v_kpOf_1_7 hp) (vc (v_kpOf_1_8 hp) vn)))))))))) fmn)
def c_wtOf : XC := (96, 0, (bX ++ [(0, 16), (0, 255), (0, 255)]), [.inl (some 14, 0), .inl (some 15, 0), .inl (some 16, 0)], (gX 14), [], [((bX ++ [(0, 16), (0, 255), (0, 255), (0, 4294967296)]), some (.inr (.inr (some (some 17, 0)))), (gX 14), (List.range 58), 58, [(236, [(some 17, 0), (none, 8), (some 14, 0), (some 15, 0), (some 16, 0)], [])])])
def h_wtOf : List XH := [(5, (bX ++ [(0, 16), (0, 255), (0, 255), (0, 4294967296), (0, 8)]), [some (.inl (some 14, 0)), some (.inl (some 15, 0)), some (.inl (some 16, 0)), some (.inr (.inr (some (some 17, 0)))), none, some (.inl (some 18, 0))], (gX 14), (List.range 58), 58, [(236, [(some 17, 0), (some 18, 0), (some 14, 0), (some 15, 0), (some 16, 0)], [])], [(true, (none, 1)), (true, (some 18, 0))])]
def w_wtOf_0_0 : VC := ((bX ++ [(0, 16), (0, 255), (0, 255)]), [], (236, [(none, 1), (none, 0), (some 14, 0), (some 15, 0), (some 16, 0)], []))
theorem pe236_20 {PT : PTy} (hp : HP20 PT) : PT 236 = P_wtI := hp.2.2.1
set_option maxRecDepth 20000 in
theorem v_wtOf_0_0 {PT : PTy} (hp : HP20 PT) : vcOk PT w_wtOf_0_0 := vc_iv [(14, 0, 16), (15, 0, 255), (16, 0, 255)] [] (by decide +kernel) (fun ρ α => by
  intro r14 g14 b14 r15 g15 b15 r16 g16 b16 tt
  have e236 : PT 236 = P_wtI := pe236_20 hp
  simp only [hFp_236, e236, P_wtI, den_s, den_c, Int.add_zero, List.map_cons, List.map_nil, g14.eq, g15.eq, g16.eq] at ⊢
  rfl)
def w_wtOf_1_0 : VC := ((bX ++ [(0, 16), (0, 255), (0, 255), (0, 4294967296), (8, 8)]), [(3, [(some 18, 0), (none, 8)], []), (236, [(some 17, 0), (some 18, 0), (some 14, 0), (some 15, 0), (some 16, 0)], [])], (236, [(some 17, 0), (none, 8), (some 14, 0), (some 15, 0), (some 16, 0)], []))
set_option maxRecDepth 20000 in
theorem v_wtOf_1_0 {PT : PTy} (hp : HP20 PT) : vcOk PT w_wtOf_1_0 := vc_iv [(14, 0, 16), (15, 0, 255), (16, 0, 255), (17, 0, 4294967296), (18, 8, 8)] [] (by decide +kernel) (fun ρ α => by
  intro r14 g14 b14 r15 g15 b15 r16 g16 b16 r17 g17 b17 r18 g18 b18 f0 f1 tt
  clear f0
  have e236 : PT 236 = P_wtI := pe236_20 hp
  simp only [hFp_236, e236, P_wtI, den_s, den_c, Int.add_zero, List.map_cons, List.map_nil, g14.eq, g15.eq, g16.eq, g17.eq, g18.eq] at f1 ⊢
  have h := f1
  rw [show r18 = 8 by omega] at h
  exact h)
def w_wtOf_1_1 : VC := ((bX ++ [(0, 16), (0, 255), (0, 255), (0, 4294967296), (0, 7), ((-2147483648), 2147483647), ((-2147483648), 2147483647)]), [(1, [(some 20, 0), (none, 1)], []), (10, [(some 20, 0), (some 19, 0), (none, 1)], []), (14, [(some 19, 0), (some 15, 0), (some 18, 0)], []), (2, [(some 18, 0), (none, 8)], []), (236, [(some 17, 0), (some 18, 0), (some 14, 0), (some 15, 0), (some 16, 0)], [])], (236, [(some 17, 0), (some 18, 1), (some 14, 0), (some 15, 0), (some 16, 0)], []))
set_option maxRecDepth 20000 in
theorem v_wtOf_1_1 {PT : PTy} (hp : HP20 PT) : vcOk PT w_wtOf_1_1 := vc_iv [(14, 0, 16), (15, 0, 255), (16, 0, 255), (17, 0, 4294967296), (18, 0, 7), (19, (-2147483648), 2147483647), (20, (-2147483648), 2147483647)] [] (by decide +kernel) (fun ρ α => by
  intro r14 g14 b14 r15 g15 b15 r16 g16 b16 r17 g17 b17 r18 g18 b18 r19 g19 b19 r20 g20 b20 f0 f1 f2 f3 f4 tt
  clear f3
  have e236 : PT 236 = P_wtI := pe236_20 hp
  simp only [hF1, hF10, hF14, hFp_236, e236, P_wtI, den_s, den_c, Int.add_zero, List.map_cons, List.map_nil, g14.eq, g15.eq, g16.eq, g17.eq, g18.eq, g19.eq, g20.eq] at f0 f1 f2 f4 ⊢
  subst f1
  subst f2
  rw [wtF_s (by omega), if_neg f0]
  exact f4)
def w_wtOf_1_2 : VC := ((bX ++ [(0, 16), (0, 255), (0, 255), (0, 4294967296), (0, 7), ((-2147483648), 2147483647), (1, 1), ((-2147483648), 2147483647), ((-2147483648), 2147483647), (0, 68719476736)]), [(6, [(some 23, 0), (some 17, 0), (some 14, 0)], []), (1, [(some 22, 0), (none, 1)], []), (10, [(some 22, 0), (some 21, 0), (none, 1)], []), (14, [(some 21, 0), (some 16, 0), (some 18, 0)], []), (0, [(some 20, 0), (none, 1)], []), (10, [(some 20, 0), (some 19, 0), (none, 1)], []), (14, [(some 19, 0), (some 15, 0), (some 18, 0)], []), (2, [(some 18, 0), (none, 8)], []), (236, [(some 17, 0), (some 18, 0), (some 14, 0), (some 15, 0), (some 16, 0)], [])], (3, [(some 23, 0), (none, 0)], []))
set_option maxRecDepth 20000 in
theorem v_wtOf_1_2 {PT : PTy} (hp : HP20 PT) : vcOk PT w_wtOf_1_2 := vc_iv [(14, 0, 16), (15, 0, 255), (16, 0, 255), (17, 0, 4294967296), (18, 0, 7), (19, (-2147483648), 2147483647), (20, 1, 1), (21, (-2147483648), 2147483647), (22, (-2147483648), 2147483647), (23, 0, 68719476736)] [] (by decide +kernel) (fun ρ α => by
  intro r14 g14 b14 r15 g15 b15 r16 g16 b16 r17 g17 b17 r18 g18 b18 r19 g19 b19 r20 g20 b20 r21 g21 b21 r22 g22 b22 r23 g23 b23 f0 f1 f2 f3 f4 f5 f6 f7 f8 tt
  clear f7
  have e236 : PT 236 = P_wtI := pe236_20 hp
  simp only [hF0, hF1, hF3, hF6, hF10, hF14, hFp_236, e236, P_wtI, den_s, den_c, Int.add_zero, List.map_cons, List.map_nil, g14.eq, g15.eq, g16.eq, g17.eq, g18.eq, g19.eq, g20.eq, g21.eq, g22.eq, g23.eq] at f0 f1 f2 f3 f4 f5 f6 f8 ⊢
  subst f0
  subst f2
  subst f3
  subst f5
  subst f6
  have e : r17 * r14 = wtF r14 r15 r16 (r18 + 1).toNat := by
    rw [wtF_s (by omega), if_pos f4, if_neg f1, ← f8]
  have b := wtF_8 (c := r14) (t := r15) (u := r16) (n := (r18 + 1).toNat) (by omega) (by omega)
  rw [← e] at b
  first | exact b.1 | exact b.2)
def w_wtOf_1_3 : VC := ((bX ++ [(0, 16), (0, 255), (0, 255), (0, 4294967296), (0, 7), ((-2147483648), 2147483647), (1, 1), ((-2147483648), 2147483647), ((-2147483648), 2147483647), (0, 68719476736)]), [(6, [(some 23, 0), (some 17, 0), (some 14, 0)], []), (1, [(some 22, 0), (none, 1)], []), (10, [(some 22, 0), (some 21, 0), (none, 1)], []), (14, [(some 21, 0), (some 16, 0), (some 18, 0)], []), (0, [(some 20, 0), (none, 1)], []), (10, [(some 20, 0), (some 19, 0), (none, 1)], []), (14, [(some 19, 0), (some 15, 0), (some 18, 0)], []), (2, [(some 18, 0), (none, 8)], []), (236, [(some 17, 0), (some 18, 0), (some 14, 0), (some 15, 0), (some 16, 0)], [])], (3, [(none, 4294967296), (some 23, 0)], []))
set_option maxRecDepth 20000 in
theorem v_wtOf_1_3 {PT : PTy} (hp : HP20 PT) : vcOk PT w_wtOf_1_3 := vc_iv [(14, 0, 16), (15, 0, 255), (16, 0, 255), (17, 0, 4294967296), (18, 0, 7), (19, (-2147483648), 2147483647), (20, 1, 1), (21, (-2147483648), 2147483647), (22, (-2147483648), 2147483647), (23, 0, 68719476736)] [] (by decide +kernel) (fun ρ α => by
  intro r14 g14 b14 r15 g15 b15 r16 g16 b16 r17 g17 b17 r18 g18 b18 r19 g19 b19 r20 g20 b20 r21 g21 b21 r22 g22 b22 r23 g23 b23 f0 f1 f2 f3 f4 f5 f6 f7 f8 tt
  clear f7
  have e236 : PT 236 = P_wtI := pe236_20 hp
  simp only [hF0, hF1, hF3, hF6, hF10, hF14, hFp_236, e236, P_wtI, den_s, den_c, Int.add_zero, List.map_cons, List.map_nil, g14.eq, g15.eq, g16.eq, g17.eq, g18.eq, g19.eq, g20.eq, g21.eq, g22.eq, g23.eq] at f0 f1 f2 f3 f4 f5 f6 f8 ⊢
  subst f0
  subst f2
  subst f3
  subst f5
  subst f6
  have e : r17 * r14 = wtF r14 r15 r16 (r18 + 1).toNat := by
    rw [wtF_s (by omega), if_pos f4, if_neg f1, ← f8]
  have b := wtF_8 (c := r14) (t := r15) (u := r16) (n := (r18 + 1).toNat) (by omega) (by omega)
  rw [← e] at b
  first | exact b.1 | exact b.2)
def w_wtOf_1_4 : VC := ((bX ++ [(0, 16), (0, 255), (0, 255), (0, 4294967296), (0, 7), ((-2147483648), 2147483647), (1, 1), ((-2147483648), 2147483647), ((-2147483648), 2147483647), (0, 68719476736)]), [(6, [(some 23, 0), (some 17, 0), (some 14, 0)], []), (1, [(some 22, 0), (none, 1)], []), (10, [(some 22, 0), (some 21, 0), (none, 1)], []), (14, [(some 21, 0), (some 16, 0), (some 18, 0)], []), (0, [(some 20, 0), (none, 1)], []), (10, [(some 20, 0), (some 19, 0), (none, 1)], []), (14, [(some 19, 0), (some 15, 0), (some 18, 0)], []), (2, [(some 18, 0), (none, 8)], []), (236, [(some 17, 0), (some 18, 0), (some 14, 0), (some 15, 0), (some 16, 0)], [])], (236, [(some 23, 0), (some 18, 1), (some 14, 0), (some 15, 0), (some 16, 0)], []))
set_option maxRecDepth 20000 in
theorem v_wtOf_1_4 {PT : PTy} (hp : HP20 PT) : vcOk PT w_wtOf_1_4 := vc_iv [(14, 0, 16), (15, 0, 255), (16, 0, 255), (17, 0, 4294967296), (18, 0, 7), (19, (-2147483648), 2147483647), (20, 1, 1), (21, (-2147483648), 2147483647), (22, (-2147483648), 2147483647), (23, 0, 68719476736)] [] (by decide +kernel) (fun ρ α => by
  intro r14 g14 b14 r15 g15 b15 r16 g16 b16 r17 g17 b17 r18 g18 b18 r19 g19 b19 r20 g20 b20 r21 g21 b21 r22 g22 b22 r23 g23 b23 f0 f1 f2 f3 f4 f5 f6 f7 f8 tt
  clear f7
  have e236 : PT 236 = P_wtI := pe236_20 hp
  simp only [hF0, hF1, hF6, hF10, hF14, hFp_236, e236, P_wtI, den_s, den_c, Int.add_zero, List.map_cons, List.map_nil, g14.eq, g15.eq, g16.eq, g17.eq, g18.eq, g19.eq, g20.eq, g21.eq, g22.eq, g23.eq] at f0 f1 f2 f3 f4 f5 f6 f8 ⊢
  subst f0
  subst f2
  subst f3
  subst f5
  subst f6
  rw [wtF_s (by omega), if_pos f4, if_neg f1, ← f8])
def w_wtOf_1_5 : VC := ((bX ++ [(0, 16), (0, 255), (0, 255), (0, 4294967296), (0, 7), ((-2147483648), 2147483647), (1, 1), ((-2147483648), 2147483647), (1, 1), (0, 16), (0, 68719476736)]), [(6, [(some 24, 0), (some 17, 0), (some 23, 0)], []), (5, [(some 23, 0), (none, 16), (some 14, 0)], []), (0, [(some 22, 0), (none, 1)], []), (10, [(some 22, 0), (some 21, 0), (none, 1)], []), (14, [(some 21, 0), (some 16, 0), (some 18, 0)], []), (0, [(some 20, 0), (none, 1)], []), (10, [(some 20, 0), (some 19, 0), (none, 1)], []), (14, [(some 19, 0), (some 15, 0), (some 18, 0)], []), (2, [(some 18, 0), (none, 8)], []), (236, [(some 17, 0), (some 18, 0), (some 14, 0), (some 15, 0), (some 16, 0)], [])], (3, [(some 24, 0), (none, 0)], []))
set_option maxRecDepth 20000 in
theorem v_wtOf_1_5 {PT : PTy} (hp : HP20 PT) : vcOk PT w_wtOf_1_5 := vc_iv [(14, 0, 16), (15, 0, 255), (16, 0, 255), (17, 0, 4294967296), (18, 0, 7), (19, (-2147483648), 2147483647), (20, 1, 1), (21, (-2147483648), 2147483647), (22, 1, 1), (23, 0, 16), (24, 0, 68719476736)] [] (by decide +kernel) (fun ρ α => by
  intro r14 g14 b14 r15 g15 b15 r16 g16 b16 r17 g17 b17 r18 g18 b18 r19 g19 b19 r20 g20 b20 r21 g21 b21 r22 g22 b22 r23 g23 b23 r24 g24 b24 f0 f1 f2 f3 f4 f5 f6 f7 f8 f9 tt
  clear f8
  have e236 : PT 236 = P_wtI := pe236_20 hp
  simp only [hF0, hF3, hF5, hF6, hF10, hF14, hFp_236, e236, P_wtI, den_s, den_c, Int.add_zero, List.map_cons, List.map_nil, g14.eq, g15.eq, g16.eq, g17.eq, g18.eq, g19.eq, g20.eq, g21.eq, g22.eq, g23.eq, g24.eq] at f0 f1 f2 f3 f4 f5 f6 f7 f9 ⊢
  subst f0
  subst f1
  subst f3
  subst f4
  subst f6
  subst f7
  have e : r17 * (16 - r14) = wtF r14 r15 r16 (r18 + 1).toNat := by
    rw [wtF_s (by omega), if_pos f5, if_pos f2, ← f9]
  have b := wtF_8 (c := r14) (t := r15) (u := r16) (n := (r18 + 1).toNat) (by omega) (by omega)
  rw [← e] at b
  first | exact b.1 | exact b.2)
def w_wtOf_1_6 : VC := ((bX ++ [(0, 16), (0, 255), (0, 255), (0, 4294967296), (0, 7), ((-2147483648), 2147483647), (1, 1), ((-2147483648), 2147483647), (1, 1), (0, 16), (0, 68719476736)]), [(6, [(some 24, 0), (some 17, 0), (some 23, 0)], []), (5, [(some 23, 0), (none, 16), (some 14, 0)], []), (0, [(some 22, 0), (none, 1)], []), (10, [(some 22, 0), (some 21, 0), (none, 1)], []), (14, [(some 21, 0), (some 16, 0), (some 18, 0)], []), (0, [(some 20, 0), (none, 1)], []), (10, [(some 20, 0), (some 19, 0), (none, 1)], []), (14, [(some 19, 0), (some 15, 0), (some 18, 0)], []), (2, [(some 18, 0), (none, 8)], []), (236, [(some 17, 0), (some 18, 0), (some 14, 0), (some 15, 0), (some 16, 0)], [])], (3, [(none, 4294967296), (some 24, 0)], []))
set_option maxRecDepth 20000 in
theorem v_wtOf_1_6 {PT : PTy} (hp : HP20 PT) : vcOk PT w_wtOf_1_6 := vc_iv [(14, 0, 16), (15, 0, 255), (16, 0, 255), (17, 0, 4294967296), (18, 0, 7), (19, (-2147483648), 2147483647), (20, 1, 1), (21, (-2147483648), 2147483647), (22, 1, 1), (23, 0, 16), (24, 0, 68719476736)] [] (by decide +kernel) (fun ρ α => by
  intro r14 g14 b14 r15 g15 b15 r16 g16 b16 r17 g17 b17 r18 g18 b18 r19 g19 b19 r20 g20 b20 r21 g21 b21 r22 g22 b22 r23 g23 b23 r24 g24 b24 f0 f1 f2 f3 f4 f5 f6 f7 f8 f9 tt
  clear f8
  have e236 : PT 236 = P_wtI := pe236_20 hp
  simp only [hF0, hF3, hF5, hF6, hF10, hF14, hFp_236, e236, P_wtI, den_s, den_c, Int.add_zero, List.map_cons, List.map_nil, g14.eq, g15.eq, g16.eq, g17.eq, g18.eq, g19.eq, g20.eq, g21.eq, g22.eq, g23.eq, g24.eq] at f0 f1 f2 f3 f4 f5 f6 f7 f9 ⊢
  subst f0
  subst f1
  subst f3
  subst f4
  subst f6
  subst f7
  have e : r17 * (16 - r14) = wtF r14 r15 r16 (r18 + 1).toNat := by
    rw [wtF_s (by omega), if_pos f5, if_pos f2, ← f9]
  have b := wtF_8 (c := r14) (t := r15) (u := r16) (n := (r18 + 1).toNat) (by omega) (by omega)
  rw [← e] at b
  first | exact b.1 | exact b.2)
def w_wtOf_1_7 : VC := ((bX ++ [(0, 16), (0, 255), (0, 255), (0, 4294967296), (0, 7), ((-2147483648), 2147483647), (1, 1), ((-2147483648), 2147483647), (1, 1), (0, 16), (0, 68719476736)]), [(6, [(some 24, 0), (some 17, 0), (some 23, 0)], []), (5, [(some 23, 0), (none, 16), (some 14, 0)], []), (0, [(some 22, 0), (none, 1)], []), (10, [(some 22, 0), (some 21, 0), (none, 1)], []), (14, [(some 21, 0), (some 16, 0), (some 18, 0)], []), (0, [(some 20, 0), (none, 1)], []), (10, [(some 20, 0), (some 19, 0), (none, 1)], []), (14, [(some 19, 0), (some 15, 0), (some 18, 0)], []), (2, [(some 18, 0), (none, 8)], []), (236, [(some 17, 0), (some 18, 0), (some 14, 0), (some 15, 0), (some 16, 0)], [])], (236, [(some 24, 0), (some 18, 1), (some 14, 0), (some 15, 0), (some 16, 0)], []))
set_option maxRecDepth 20000 in
theorem v_wtOf_1_7 {PT : PTy} (hp : HP20 PT) : vcOk PT w_wtOf_1_7 := vc_iv [(14, 0, 16), (15, 0, 255), (16, 0, 255), (17, 0, 4294967296), (18, 0, 7), (19, (-2147483648), 2147483647), (20, 1, 1), (21, (-2147483648), 2147483647), (22, 1, 1), (23, 0, 16), (24, 0, 68719476736)] [] (by decide +kernel) (fun ρ α => by
  intro r14 g14 b14 r15 g15 b15 r16 g16 b16 r17 g17 b17 r18 g18 b18 r19 g19 b19 r20 g20 b20 r21 g21 b21 r22 g22 b22 r23 g23 b23 r24 g24 b24 f0 f1 f2 f3 f4 f5 f6 f7 f8 f9 tt
  clear f8
  have e236 : PT 236 = P_wtI := pe236_20 hp
  simp only [hF0, hF5, hF6, hF10, hF14, hFp_236, e236, P_wtI, den_s, den_c, Int.add_zero, List.map_cons, List.map_nil, g14.eq, g15.eq, g16.eq, g17.eq, g18.eq, g19.eq, g20.eq, g21.eq, g22.eq, g23.eq, g24.eq] at f0 f1 f2 f3 f4 f5 f6 f7 f9 ⊢
  subst f0
  subst f1
  subst f3
  subst f4
  subst f6
  subst f7
  rw [wtF_s (by omega), if_pos f5, if_pos f2, ← f9])
set_option maxRecDepth 1000000 in
theorem k_wtOf {PT : PTy} (hp : HP20 PT) : wfX c_wtOf = true ∧ xcOk PT c_wtOf := xctr (xl0) c_wtOf 48 mX6_weight rfl h_wtOf (by decide +kernel) (by decide +kernel) (by decide) (vcs_by [w_wtOf_0_0] (by decide +kernel) (vc (v_wtOf_0_0 hp) vn)) (fmc (vcs_by [w_wtOf_1_0, w_wtOf_1_1, w_wtOf_1_2, w_wtOf_1_3, w_wtOf_1_4, w_wtOf_1_5, w_wtOf_1_6, w_wtOf_1_7] (by decide +kernel) (vc (v_wtOf_1_0 hp) (vc (v_wtOf_1_1 hp) (vc (v_wtOf_1_2 hp) (vc (v_wtOf_1_3 hp) (vc (v_wtOf_1_4 hp) (vc (v_wtOf_1_5 hp) (vc (v_wtOf_1_6 hp) (vc (v_wtOf_1_7 hp) vn))))))))) fmn)
def c_bc8 : XC := (201, 0, (bX ++ [(0, 255)]), [.inl (some 14, 0)], (gX 14), [], [((bX ++ [(0, 255), (0, 8)]), some (.inl (some 15, 0)), (gX 14), (List.range 58), 58, [(160, [(some 15, 0), (some 14, 0)], [])])])
def h_bc8 : List XH := []
def w_bc8_0_0 : VC := ((bX ++ [(0, 255)] ++ List.replicate 12 ((-2147483648), 2147483647) ++ [(0, 65535), ((-2147483648), 2147483647), ((-2147483648), 2147483647)]), [(10, [(some 29, 0), (some 28, 0), (none, 63)], []), (16, [(some 28, 0), (some 26, 0), (some 27, 0)], []), (15, [(some 27, 0), (some 26, 0), (none, 16)], []), (16, [(some 26, 0), (some 24, 0), (some 25, 0)], []), (15, [(some 25, 0), (some 24, 0), (none, 8)], []), (10, [(some 24, 0), (some 23, 0), (none, 252645135)], []), (16, [(some 23, 0), (some 21, 0), (some 22, 0)], []), (15, [(some 22, 0), (some 21, 0), (none, 4)], []), (16, [(some 21, 0), (some 18, 0), (some 20, 0)], []), (10, [(some 20, 0), (some 19, 0), (none, 858993459)], []), (15, [(some 19, 0), (some 17, 0), (none, 2)], []), (10, [(some 18, 0), (some 17, 0), (none, 858993459)], []), (29, [(some 17, 0), (some 14, 0), (some 16, 0)], []), (10, [(some 16, 0), (some 15, 0), (none, 1431655765)], []), (15, [(some 15, 0), (some 14, 0), (none, 1)], [])], (3, [(some 29, 0), (none, 0)], []))
set_option maxRecDepth 20000 in
theorem v_bc8_0_0 {PT : PTy} (hp : HP20 PT) : vcOk PT w_bc8_0_0 := vc_iv [(14, 0, 255), (15, (-2147483648), 2147483647), (16, (-2147483648), 2147483647), (17, (-2147483648), 2147483647), (18, (-2147483648), 2147483647), (19, (-2147483648), 2147483647), (20, (-2147483648), 2147483647), (21, (-2147483648), 2147483647), (22, (-2147483648), 2147483647), (23, (-2147483648), 2147483647), (24, (-2147483648), 2147483647), (25, (-2147483648), 2147483647), (26, (-2147483648), 2147483647), (27, 0, 65535), (28, (-2147483648), 2147483647), (29, (-2147483648), 2147483647)] [] (by decide +kernel) (fun ρ α => by
  intro r14 g14 b14 r15 g15 b15 r16 g16 b16 r17 g17 b17 r18 g18 b18 r19 g19 b19 r20 g20 b20 r21 g21 b21 r22 g22 b22 r23 g23 b23 r24 g24 b24 r25 g25 b25 r26 g26 b26 r27 g27 b27 r28 g28 b28 r29 g29 b29 f0 f1 f2 f3 f4 f5 f6 f7 f8 f9 f10 f11 f12 f13 f14 tt
  simp only [hF3, hF10, hF15, hF16, hF29, den_s, den_c, Int.add_zero, List.map_cons, List.map_nil, g14.eq, g15.eq, g16.eq, g17.eq, g18.eq, g19.eq, g20.eq, g21.eq, g22.eq, g23.eq, g24.eq, g25.eq, g26.eq, g27.eq, g28.eq, g29.eq] at f0 f1 f2 f3 f4 f5 f6 f7 f8 f9 f10 f11 f12 f13 f14 ⊢
  subst f0
  subst f1
  subst f2
  subst f3
  subst f4
  subst f5
  subst f6
  subst f7
  subst f8
  subst f9
  subst f10
  subst f11
  subst f12
  subst f13
  subst f14
  have b := bc_8 (x := r14) (by omega)
  first | exact b.1 | exact b.2)
def w_bc8_0_1 : VC := ((bX ++ [(0, 255)] ++ List.replicate 12 ((-2147483648), 2147483647) ++ [(0, 65535), ((-2147483648), 2147483647), ((-2147483648), 2147483647)]), [(10, [(some 29, 0), (some 28, 0), (none, 63)], []), (16, [(some 28, 0), (some 26, 0), (some 27, 0)], []), (15, [(some 27, 0), (some 26, 0), (none, 16)], []), (16, [(some 26, 0), (some 24, 0), (some 25, 0)], []), (15, [(some 25, 0), (some 24, 0), (none, 8)], []), (10, [(some 24, 0), (some 23, 0), (none, 252645135)], []), (16, [(some 23, 0), (some 21, 0), (some 22, 0)], []), (15, [(some 22, 0), (some 21, 0), (none, 4)], []), (16, [(some 21, 0), (some 18, 0), (some 20, 0)], []), (10, [(some 20, 0), (some 19, 0), (none, 858993459)], []), (15, [(some 19, 0), (some 17, 0), (none, 2)], []), (10, [(some 18, 0), (some 17, 0), (none, 858993459)], []), (29, [(some 17, 0), (some 14, 0), (some 16, 0)], []), (10, [(some 16, 0), (some 15, 0), (none, 1431655765)], []), (15, [(some 15, 0), (some 14, 0), (none, 1)], [])], (3, [(none, 8), (some 29, 0)], []))
set_option maxRecDepth 20000 in
theorem v_bc8_0_1 {PT : PTy} (hp : HP20 PT) : vcOk PT w_bc8_0_1 := vc_iv [(14, 0, 255), (15, (-2147483648), 2147483647), (16, (-2147483648), 2147483647), (17, (-2147483648), 2147483647), (18, (-2147483648), 2147483647), (19, (-2147483648), 2147483647), (20, (-2147483648), 2147483647), (21, (-2147483648), 2147483647), (22, (-2147483648), 2147483647), (23, (-2147483648), 2147483647), (24, (-2147483648), 2147483647), (25, (-2147483648), 2147483647), (26, (-2147483648), 2147483647), (27, 0, 65535), (28, (-2147483648), 2147483647), (29, (-2147483648), 2147483647)] [] (by decide +kernel) (fun ρ α => by
  intro r14 g14 b14 r15 g15 b15 r16 g16 b16 r17 g17 b17 r18 g18 b18 r19 g19 b19 r20 g20 b20 r21 g21 b21 r22 g22 b22 r23 g23 b23 r24 g24 b24 r25 g25 b25 r26 g26 b26 r27 g27 b27 r28 g28 b28 r29 g29 b29 f0 f1 f2 f3 f4 f5 f6 f7 f8 f9 f10 f11 f12 f13 f14 tt
  simp only [hF3, hF10, hF15, hF16, hF29, den_s, den_c, Int.add_zero, List.map_cons, List.map_nil, g14.eq, g15.eq, g16.eq, g17.eq, g18.eq, g19.eq, g20.eq, g21.eq, g22.eq, g23.eq, g24.eq, g25.eq, g26.eq, g27.eq, g28.eq, g29.eq] at f0 f1 f2 f3 f4 f5 f6 f7 f8 f9 f10 f11 f12 f13 f14 ⊢
  subst f0
  subst f1
  subst f2
  subst f3
  subst f4
  subst f5
  subst f6
  subst f7
  subst f8
  subst f9
  subst f10
  subst f11
  subst f12
  subst f13
  subst f14
  have b := bc_8 (x := r14) (by omega)
  first | exact b.1 | exact b.2)
def w_bc8_0_2 : VC := ((bX ++ [(0, 255)] ++ List.replicate 12 ((-2147483648), 2147483647) ++ [(0, 65535), ((-2147483648), 2147483647), ((-2147483648), 2147483647)]), [(10, [(some 29, 0), (some 28, 0), (none, 63)], []), (16, [(some 28, 0), (some 26, 0), (some 27, 0)], []), (15, [(some 27, 0), (some 26, 0), (none, 16)], []), (16, [(some 26, 0), (some 24, 0), (some 25, 0)], []), (15, [(some 25, 0), (some 24, 0), (none, 8)], []), (10, [(some 24, 0), (some 23, 0), (none, 252645135)], []), (16, [(some 23, 0), (some 21, 0), (some 22, 0)], []), (15, [(some 22, 0), (some 21, 0), (none, 4)], []), (16, [(some 21, 0), (some 18, 0), (some 20, 0)], []), (10, [(some 20, 0), (some 19, 0), (none, 858993459)], []), (15, [(some 19, 0), (some 17, 0), (none, 2)], []), (10, [(some 18, 0), (some 17, 0), (none, 858993459)], []), (29, [(some 17, 0), (some 14, 0), (some 16, 0)], []), (10, [(some 16, 0), (some 15, 0), (none, 1431655765)], []), (15, [(some 15, 0), (some 14, 0), (none, 1)], [])], (160, [(some 29, 0), (some 14, 0)], []))
theorem pe160_20 {PT : PTy} (hp : HP20 PT) : PT 160 = P_bc := hp.1.1.1.1.1.1.1.1.1.2.2.2.2.2.2.2.2.2.2.2.2.2.2.1
set_option maxRecDepth 20000 in
theorem v_bc8_0_2 {PT : PTy} (hp : HP20 PT) : vcOk PT w_bc8_0_2 := vc_iv [(14, 0, 255), (15, (-2147483648), 2147483647), (16, (-2147483648), 2147483647), (17, (-2147483648), 2147483647), (18, (-2147483648), 2147483647), (19, (-2147483648), 2147483647), (20, (-2147483648), 2147483647), (21, (-2147483648), 2147483647), (22, (-2147483648), 2147483647), (23, (-2147483648), 2147483647), (24, (-2147483648), 2147483647), (25, (-2147483648), 2147483647), (26, (-2147483648), 2147483647), (27, 0, 65535), (28, (-2147483648), 2147483647), (29, (-2147483648), 2147483647)] [] (by decide +kernel) (fun ρ α => by
  intro r14 g14 b14 r15 g15 b15 r16 g16 b16 r17 g17 b17 r18 g18 b18 r19 g19 b19 r20 g20 b20 r21 g21 b21 r22 g22 b22 r23 g23 b23 r24 g24 b24 r25 g25 b25 r26 g26 b26 r27 g27 b27 r28 g28 b28 r29 g29 b29 f0 f1 f2 f3 f4 f5 f6 f7 f8 f9 f10 f11 f12 f13 f14 tt
  have e160 : PT 160 = P_bc := pe160_20 hp
  simp only [hF10, hF15, hF16, hF29, hFp_160, e160, P_bc, den_s, den_c, Int.add_zero, List.map_cons, List.map_nil, g14.eq, g15.eq, g16.eq, g17.eq, g18.eq, g19.eq, g20.eq, g21.eq, g22.eq, g23.eq, g24.eq, g25.eq, g26.eq, g27.eq, g28.eq, g29.eq] at f0 f1 f2 f3 f4 f5 f6 f7 f8 f9 f10 f11 f12 f13 f14 ⊢
  subst f0
  subst f1
  subst f2
  subst f3
  subst f4
  subst f5
  subst f6
  subst f7
  subst f8
  subst f9
  subst f10
  subst f11
  subst f12
  subst f13
  subst f14
  rfl)
set_option maxRecDepth 1000000 in
theorem k_bc8 {PT : PTy} (hp : HP20 PT) : wfX c_bc8 = true ∧ xcOk PT c_bc8 := xctr (xl0) c_bc8 62 mJ6_bitCount_0f7a4 rfl h_bc8 (by decide +kernel) (by decide +kernel) (by decide) (vcs_by [w_bc8_0_0, w_bc8_0_1, w_bc8_0_2] (by decide +kernel) (vc (v_bc8_0_0 hp) (vc (v_bc8_0_1 hp) (vc (v_bc8_0_2 hp) vn)))) fmn
def c_xo_word : XC := (70, 3, (bT ++ [((-2147483648), 2147483647), ((-2147483648), 2147483647), ((-2147483648), 2147483647), ((-2147483648), 2147483647)]), [.inr (.inl 0), .inl (some 14, 0), .inl (some 15, 0), .inl (some 16, 0), .inl (some 17, 0)], (gX 999), [], [((bT ++ [((-2147483648), 2147483647), ((-2147483648), 2147483647), ((-2147483648), 2147483647), ((-2147483648), 2147483647), ((-9223372036854775808), 9223372036854775807), (0, 49), (0, 49), ((-2147483648), 2147483647), ((-2147483648), 2147483647)]), some (.inr (.inr (some (some 18, 0)))), (hst (gX 999) [(5, .inr (.inr (.inr (0, [.inr (.inl 6), .inr (.inl 9), .inr (.inl 14), .inr (.inl 18), .inr (.inl 22), .inr (.inl 26), .inr (.inl 27), .inr (.inl 28), .inr (.inl 29), .inr (.inl 30), .inl (some 19, 0), .inl (some 20, 0), .inl (some 21, 0), .inl (some 22, 0), .inr (.inl 999)]))))]), (ansT 58 [(26, 58), (27, 59), (28, 60), (29, 61), (30, 62)]), 63, [(240, [(some 18, 0), (some 14, 0), (some 15, 0), (some 16, 0), (some 17, 0), (some 2, 0), (some 3, 0), (some 4, 0), (some 5, 0), (some 6, 0)], [7, 8, 10, 11, 12, 13, 15, 16, 19, 20, 21, 23, 24, 25])])])
def h_xo_word : List XH := [(150, ([(0, 23), (0, 49), (1, 8), (0, 10), (0, 8), (0, 6), (0, 6), (0, 8), (0, 9), (0, 49), (0, 49), ((-2147483648), 2147483647), ((-2147483648), 2147483647), (0, 5), (0, 16), (0, 7), (0, 23), (0, 1), (0, 255), (0, 1099511627776), (1, 4294967296), (0, 32), (0, 49), (0, 49), ((-2147483648), 2147483647)]), [some (.inr (.inl 0)), some (.inl (some 14, 0)), some (.inl (some 15, 0)), some (.inl (some 16, 0)), some (.inl (some 17, 0)), some (.inl (some 18, 0)), some (.inr (.inr (some (some 19, 0)))), none, some (.inr (.inr (some (some 20, 0)))), none, some (.inl (some 21, 0))], (hst (gX 14) [(5, .inr (.inr (.inr (0, [.inr (.inl 6), .inr (.inl 9), .inr (.inl 14), .inr (.inl 18), .inr (.inl 22), .inr (.inl 26), .inr (.inl 27), .inr (.inl 28), .inr (.inl 29), .inr (.inl 30), .inl (some 22, 0), .inl (some 23, 0), .inl (some 24, 0), .inl (none, 0), .inr (.inl 14)]))))]), (ansT 58 [(26, 58), (27, 59), (28, 60), (29, 61), (30, 62)]), 63, [(238, [(some 19, 0), (some 20, 0), (some 21, 0), (some 14, 0), (some 18, 0), (some 16, 0), (some 15, 0), (some 2, 0), (some 3, 0), (some 4, 0), (some 5, 0), (some 6, 0)], [7, 8, 10, 11, 12, 13, 15, 16, 19, 20, 21, 23, 24, 25]), (235, [(some 18, 0), (some 4, 0), (some 15, 0), (some 3, 0)], [16, 10]), (2, [(some 15, 0), (some 2, 0)], [])], [(true, (none, 2)), (true, (some 21, 0))]),
  (75, ([(0, 23), (0, 49), (1, 8), (0, 10), (0, 8), (0, 6), (0, 6), (0, 8), (0, 9), (0, 49), (0, 49), ((-2147483648), 2147483647), ((-2147483648), 2147483647), (0, 5), (0, 16), (0, 7), (0, 23), (0, 1), (0, 255), (0, 1099511627776), (1, 4294967296), (0, 256), (0, 49), (0, 49), ((-2147483648), 2147483647)]), [some (.inr (.inl 0)), some (.inl (some 14, 0)), some (.inl (some 15, 0)), some (.inl (some 16, 0)), some (.inl (some 17, 0)), some (.inl (some 18, 0)), some (.inr (.inr (some (some 19, 0)))), none, some (.inr (.inr (some (some 20, 0)))), none, some (.inl (some 21, 0))], (hst (gX 14) [(5, .inr (.inr (.inr (0, [.inr (.inl 6), .inr (.inl 9), .inr (.inl 14), .inr (.inl 18), .inr (.inl 22), .inr (.inl 26), .inr (.inl 27), .inr (.inl 28), .inr (.inl 29), .inr (.inl 30), .inl (some 22, 0), .inl (some 23, 0), .inl (some 24, 0), .inl (none, 0), .inr (.inl 14)]))))]), (ansT 58 [(26, 58), (27, 59), (28, 60), (29, 61), (30, 62)]), 63, [(150, [(some 22, 0), (some 2, 0), (some 3, 0), (some 4, 0), (some 5, 0), (some 6, 0)], [58, 59, 7, 8, 10, 11, 12, 13, 15, 16, 19, 20, 21, 23, 24, 25]), (237, [(some 19, 0), (some 21, 0), (some 14, 0), (some 18, 0), (some 16, 0), (some 15, 0), (some 2, 0), (some 3, 0), (some 4, 0), (some 5, 0), (some 6, 0)], [7, 8, 10, 11, 12, 13, 15, 16, 19, 20, 21, 23, 24, 25]), (235, [(some 18, 0), (some 4, 0), (some 15, 0), (some 3, 0)], [16, 10]), (239, [(some 20, 0), (some 18, 0)], []), (2, [(some 15, 0), (some 2, 0)], [])], [(true, (none, 1)), (true, (some 21, 0))])]
def w_xo_word_0_0 : VC := ((bT ++ [((-2147483648), (-1)), ((-2147483648), 2147483647), ((-2147483648), 2147483647), ((-2147483648), 2147483647)]), [(0, [(none, 0), (none, 0)], []), (2, [(some 14, 0), (none, 0)], [])], (240, [(none, (-9223372036854775806)), (some 14, 0), (some 15, 0), (some 16, 0), (some 17, 0), (some 2, 0), (some 3, 0), (some 4, 0), (some 5, 0), (some 6, 0)], [7, 8, 10, 11, 12, 13, 15, 16, 19, 20, 21, 23, 24, 25]))
theorem pe240_20 {PT : PTy} (hp : HP20 PT) : PT 240 = P_wdX := hp.2.2.2.2.2.2.1
set_option maxRecDepth 20000 in
theorem v_xo_word_0_0 {PT : PTy} (hp : HP20 PT) : vcOk PT w_xo_word_0_0 := vc_iv [(2, 0, 8), (3, 0, 10), (4, 0, 8), (5, 0, 6), (6, 0, 6), (14, (-2147483648), (-1)), (15, (-2147483648), 2147483647), (16, (-2147483648), 2147483647), (17, (-2147483648), 2147483647)] [7, 8, 10, 11, 12, 13, 15, 16, 19, 20, 21, 23, 24, 25] (by decide +kernel) (fun ρ α => by
  intro r2 g2 b2 r3 g3 b3 r4 g4 b4 r5 g5 b5 r6 g6 b6 r14 g14 b14 r15 g15 b15 r16 g16 b16 r17 g17 b17 a7 h7 a8 h8 a10 h10 a11 h11 a12 h12 a13 h13 a15 h15 a16 h16 a19 h19 a20 h20 a21 h21 a23 h23 a24 h24 a25 h25 f0 f1 tt
  clear f0 f1
  have e240 : PT 240 = P_wdX := pe240_20 hp
  simp only [hFp_240, e240, P_wdX, den_s, den_c, Int.add_zero, List.map_cons, List.map_nil, g2.eq, g3.eq, g4.eq, g5.eq, g6.eq, g14.eq, g15.eq, g16.eq, g17.eq, h7, h8, h10, h11, h12, h13, h15, h16, h19, h20, h21, h23, h24, h25] at ⊢
  exact ⟨fun _ => (by first | rfl | trivial), fun h => by exfalso; omega⟩)
def w_xo_word_0_1 : VC := ((bT ++ [(17, 2147483647), ((-2147483648), 2147483647), ((-2147483648), 2147483647), ((-2147483648), 2147483647)]), [(0, [(none, 0), (none, 0)], []), (2, [(none, 16), (some 14, 0)], []), (3, [(some 14, 0), (none, 0)], [])], (240, [(none, (-9223372036854775806)), (some 14, 0), (some 15, 0), (some 16, 0), (some 17, 0), (some 2, 0), (some 3, 0), (some 4, 0), (some 5, 0), (some 6, 0)], [7, 8, 10, 11, 12, 13, 15, 16, 19, 20, 21, 23, 24, 25]))
set_option maxRecDepth 20000 in
theorem v_xo_word_0_1 {PT : PTy} (hp : HP20 PT) : vcOk PT w_xo_word_0_1 := vc_iv [(2, 0, 8), (3, 0, 10), (4, 0, 8), (5, 0, 6), (6, 0, 6), (14, 17, 2147483647), (15, (-2147483648), 2147483647), (16, (-2147483648), 2147483647), (17, (-2147483648), 2147483647)] [7, 8, 10, 11, 12, 13, 15, 16, 19, 20, 21, 23, 24, 25] (by decide +kernel) (fun ρ α => by
  intro r2 g2 b2 r3 g3 b3 r4 g4 b4 r5 g5 b5 r6 g6 b6 r14 g14 b14 r15 g15 b15 r16 g16 b16 r17 g17 b17 a7 h7 a8 h8 a10 h10 a11 h11 a12 h12 a13 h13 a15 h15 a16 h16 a19 h19 a20 h20 a21 h21 a23 h23 a24 h24 a25 h25 f0 f1 f2 tt
  clear f0 f1 f2
  have e240 : PT 240 = P_wdX := pe240_20 hp
  simp only [hFp_240, e240, P_wdX, den_s, den_c, Int.add_zero, List.map_cons, List.map_nil, g2.eq, g3.eq, g4.eq, g5.eq, g6.eq, g14.eq, g15.eq, g16.eq, g17.eq, h7, h8, h10, h11, h12, h13, h15, h16, h19, h20, h21, h23, h24, h25] at ⊢
  exact ⟨fun _ => (by first | rfl | trivial), fun h => by exfalso; omega⟩)
def w_xo_word_0_2 : VC := ((bT ++ [(0, 16), ((-2147483648), (-1)), ((-2147483648), 2147483647), ((-2147483648), 2147483647)]), [(0, [(none, 0), (none, 0)], []), (2, [(some 15, 0), (none, 0)], []), (1, [(none, 1), (none, 0)], []), (3, [(none, 16), (some 14, 0)], []), (3, [(some 14, 0), (none, 0)], [])], (240, [(none, (-9223372036854775806)), (some 14, 0), (some 15, 0), (some 16, 0), (some 17, 0), (some 2, 0), (some 3, 0), (some 4, 0), (some 5, 0), (some 6, 0)], [7, 8, 10, 11, 12, 13, 15, 16, 19, 20, 21, 23, 24, 25]))
set_option maxRecDepth 20000 in
theorem v_xo_word_0_2 {PT : PTy} (hp : HP20 PT) : vcOk PT w_xo_word_0_2 := vc_iv [(2, 0, 8), (3, 0, 10), (4, 0, 8), (5, 0, 6), (6, 0, 6), (14, 0, 16), (15, (-2147483648), (-1)), (16, (-2147483648), 2147483647), (17, (-2147483648), 2147483647)] [7, 8, 10, 11, 12, 13, 15, 16, 19, 20, 21, 23, 24, 25] (by decide +kernel) (fun ρ α => by
  intro r2 g2 b2 r3 g3 b3 r4 g4 b4 r5 g5 b5 r6 g6 b6 r14 g14 b14 r15 g15 b15 r16 g16 b16 r17 g17 b17 a7 h7 a8 h8 a10 h10 a11 h11 a12 h12 a13 h13 a15 h15 a16 h16 a19 h19 a20 h20 a21 h21 a23 h23 a24 h24 a25 h25 f0 f1 f2 f3 f4 tt
  clear f0 f1 f2 f3 f4
  have e240 : PT 240 = P_wdX := pe240_20 hp
  simp only [hFp_240, e240, P_wdX, den_s, den_c, Int.add_zero, List.map_cons, List.map_nil, g2.eq, g3.eq, g4.eq, g5.eq, g6.eq, g14.eq, g15.eq, g16.eq, g17.eq, h7, h8, h10, h11, h12, h13, h15, h16, h19, h20, h21, h23, h24, h25] at ⊢
  exact ⟨fun _ => (by first | rfl | trivial), fun h => by exfalso; omega⟩)
def w_xo_word_0_3 : VC := ((bT ++ [(0, 16), (0, 2147483647), ((-2147483648), 2147483647), ((-2147483648), 2147483647)]), [(0, [(none, 0), (none, 0)], []), (3, [(some 15, 0), (some 2, 0)], []), (3, [(some 15, 0), (none, 0)], []), (1, [(none, 1), (none, 0)], []), (3, [(none, 16), (some 14, 0)], []), (3, [(some 14, 0), (none, 0)], [])], (240, [(none, (-9223372036854775806)), (some 14, 0), (some 15, 0), (some 16, 0), (some 17, 0), (some 2, 0), (some 3, 0), (some 4, 0), (some 5, 0), (some 6, 0)], [7, 8, 10, 11, 12, 13, 15, 16, 19, 20, 21, 23, 24, 25]))
set_option maxRecDepth 20000 in
theorem v_xo_word_0_3 {PT : PTy} (hp : HP20 PT) : vcOk PT w_xo_word_0_3 := vc_iv [(2, 0, 8), (3, 0, 10), (4, 0, 8), (5, 0, 6), (6, 0, 6), (14, 0, 16), (15, 0, 2147483647), (16, (-2147483648), 2147483647), (17, (-2147483648), 2147483647)] [7, 8, 10, 11, 12, 13, 15, 16, 19, 20, 21, 23, 24, 25] (by decide +kernel) (fun ρ α => by
  intro r2 g2 b2 r3 g3 b3 r4 g4 b4 r5 g5 b5 r6 g6 b6 r14 g14 b14 r15 g15 b15 r16 g16 b16 r17 g17 b17 a7 h7 a8 h8 a10 h10 a11 h11 a12 h12 a13 h13 a15 h15 a16 h16 a19 h19 a20 h20 a21 h21 a23 h23 a24 h24 a25 h25 f0 f1 f2 f3 f4 f5 tt
  clear f0 f2 f3 f4 f5
  have e240 : PT 240 = P_wdX := pe240_20 hp
  simp only [hF3, hFp_240, e240, P_wdX, den_s, den_c, Int.add_zero, List.map_cons, List.map_nil, g2.eq, g3.eq, g4.eq, g5.eq, g6.eq, g14.eq, g15.eq, g16.eq, g17.eq, h7, h8, h10, h11, h12, h13, h15, h16, h19, h20, h21, h23, h24, h25] at f1 ⊢
  exact ⟨fun _ => (by first | rfl | trivial), fun h => by exfalso; omega⟩)
def w_xo_word_0_4 : VC := (([(0, 23), (0, 49), (1, 8), (0, 10), (0, 8), (0, 6), (0, 6), (0, 8), (0, 9), (0, 49), (0, 49), ((-2147483648), 2147483647), ((-2147483648), 2147483647), (0, 5), (0, 16), (0, 7), ((-2147483648), (-1)), ((-2147483648), 2147483647)]), [(0, [(none, 0), (none, 0)], []), (2, [(some 16, 0), (none, 0)], []), (1, [(none, 1), (none, 0)], []), (2, [(some 15, 0), (some 2, 0)], []), (3, [(some 15, 0), (none, 0)], []), (1, [(none, 1), (none, 0)], []), (3, [(none, 16), (some 14, 0)], []), (3, [(some 14, 0), (none, 0)], [])], (240, [(none, (-9223372036854775806)), (some 14, 0), (some 15, 0), (some 16, 0), (some 17, 0), (some 2, 0), (some 3, 0), (some 4, 0), (some 5, 0), (some 6, 0)], [7, 8, 10, 11, 12, 13, 15, 16, 19, 20, 21, 23, 24, 25]))
set_option maxRecDepth 20000 in
theorem v_xo_word_0_4 {PT : PTy} (hp : HP20 PT) : vcOk PT w_xo_word_0_4 := vc_iv [(2, 1, 8), (3, 0, 10), (4, 0, 8), (5, 0, 6), (6, 0, 6), (14, 0, 16), (15, 0, 7), (16, (-2147483648), (-1)), (17, (-2147483648), 2147483647)] [7, 8, 10, 11, 12, 13, 15, 16, 19, 20, 21, 23, 24, 25] (by decide +kernel) (fun ρ α => by
  intro r2 g2 b2 r3 g3 b3 r4 g4 b4 r5 g5 b5 r6 g6 b6 r14 g14 b14 r15 g15 b15 r16 g16 b16 r17 g17 b17 a7 h7 a8 h8 a10 h10 a11 h11 a12 h12 a13 h13 a15 h15 a16 h16 a19 h19 a20 h20 a21 h21 a23 h23 a24 h24 a25 h25 f0 f1 f2 f3 f4 f5 f6 f7 tt
  clear f0 f1 f2 f4 f5 f6 f7
  have e240 : PT 240 = P_wdX := pe240_20 hp
  simp only [hF2, hFp_240, e240, P_wdX, den_s, den_c, Int.add_zero, List.map_cons, List.map_nil, g2.eq, g3.eq, g4.eq, g5.eq, g6.eq, g14.eq, g15.eq, g16.eq, g17.eq, h7, h8, h10, h11, h12, h13, h15, h16, h19, h20, h21, h23, h24, h25] at f3 ⊢
  exact ⟨fun _ => (by first | rfl | trivial), fun h => by exfalso; omega⟩)
def w_xo_word_0_5 : VC := (([(0, 23), (0, 49), (1, 8), (0, 10), (0, 8), (0, 6), (0, 6), (0, 8), (0, 9), (0, 49), (0, 49), ((-2147483648), 2147483647), ((-2147483648), 2147483647), (0, 5), (0, 16), (0, 7), (24, 2147483647), ((-2147483648), 2147483647)]), [(0, [(none, 0), (none, 0)], []), (2, [(none, 23), (some 16, 0)], []), (3, [(some 16, 0), (none, 0)], []), (1, [(none, 1), (none, 0)], []), (2, [(some 15, 0), (some 2, 0)], []), (3, [(some 15, 0), (none, 0)], []), (1, [(none, 1), (none, 0)], []), (3, [(none, 16), (some 14, 0)], []), (3, [(some 14, 0), (none, 0)], [])], (240, [(none, (-9223372036854775806)), (some 14, 0), (some 15, 0), (some 16, 0), (some 17, 0), (some 2, 0), (some 3, 0), (some 4, 0), (some 5, 0), (some 6, 0)], [7, 8, 10, 11, 12, 13, 15, 16, 19, 20, 21, 23, 24, 25]))
set_option maxRecDepth 20000 in
theorem v_xo_word_0_5 {PT : PTy} (hp : HP20 PT) : vcOk PT w_xo_word_0_5 := vc_iv [(2, 1, 8), (3, 0, 10), (4, 0, 8), (5, 0, 6), (6, 0, 6), (14, 0, 16), (15, 0, 7), (16, 24, 2147483647), (17, (-2147483648), 2147483647)] [7, 8, 10, 11, 12, 13, 15, 16, 19, 20, 21, 23, 24, 25] (by decide +kernel) (fun ρ α => by
  intro r2 g2 b2 r3 g3 b3 r4 g4 b4 r5 g5 b5 r6 g6 b6 r14 g14 b14 r15 g15 b15 r16 g16 b16 r17 g17 b17 a7 h7 a8 h8 a10 h10 a11 h11 a12 h12 a13 h13 a15 h15 a16 h16 a19 h19 a20 h20 a21 h21 a23 h23 a24 h24 a25 h25 f0 f1 f2 f3 f4 f5 f6 f7 f8 tt
  clear f0 f1 f2 f3 f5 f6 f7 f8
  have e240 : PT 240 = P_wdX := pe240_20 hp
  simp only [hF2, hFp_240, e240, P_wdX, den_s, den_c, Int.add_zero, List.map_cons, List.map_nil, g2.eq, g3.eq, g4.eq, g5.eq, g6.eq, g14.eq, g15.eq, g16.eq, g17.eq, h7, h8, h10, h11, h12, h13, h15, h16, h19, h20, h21, h23, h24, h25] at f4 ⊢
  exact ⟨fun _ => (by first | rfl | trivial), fun h => by exfalso; omega⟩)
def w_xo_word_0_6 : VC := (([(0, 23), (0, 49), (1, 8), (0, 10), (0, 8), (0, 6), (0, 6), (0, 8), (0, 9), (0, 49), (0, 49), ((-2147483648), 2147483647), ((-2147483648), 2147483647), (0, 5), (0, 16), (0, 7), (0, 23), ((-2147483648), (-1))]), [(0, [(none, 0), (none, 0)], []), (2, [(some 17, 0), (none, 0)], []), (1, [(none, 1), (none, 0)], []), (3, [(none, 23), (some 16, 0)], []), (3, [(some 16, 0), (none, 0)], []), (1, [(none, 1), (none, 0)], []), (2, [(some 15, 0), (some 2, 0)], []), (3, [(some 15, 0), (none, 0)], []), (1, [(none, 1), (none, 0)], []), (3, [(none, 16), (some 14, 0)], []), (3, [(some 14, 0), (none, 0)], [])], (240, [(none, (-9223372036854775806)), (some 14, 0), (some 15, 0), (some 16, 0), (some 17, 0), (some 2, 0), (some 3, 0), (some 4, 0), (some 5, 0), (some 6, 0)], [7, 8, 10, 11, 12, 13, 15, 16, 19, 20, 21, 23, 24, 25]))
set_option maxRecDepth 20000 in
theorem v_xo_word_0_6 {PT : PTy} (hp : HP20 PT) : vcOk PT w_xo_word_0_6 := vc_iv [(2, 1, 8), (3, 0, 10), (4, 0, 8), (5, 0, 6), (6, 0, 6), (14, 0, 16), (15, 0, 7), (16, 0, 23), (17, (-2147483648), (-1))] [7, 8, 10, 11, 12, 13, 15, 16, 19, 20, 21, 23, 24, 25] (by decide +kernel) (fun ρ α => by
  intro r2 g2 b2 r3 g3 b3 r4 g4 b4 r5 g5 b5 r6 g6 b6 r14 g14 b14 r15 g15 b15 r16 g16 b16 r17 g17 b17 a7 h7 a8 h8 a10 h10 a11 h11 a12 h12 a13 h13 a15 h15 a16 h16 a19 h19 a20 h20 a21 h21 a23 h23 a24 h24 a25 h25 f0 f1 f2 f3 f4 f5 f6 f7 f8 f9 f10 tt
  clear f0 f1 f2 f3 f4 f5 f7 f8 f9 f10
  have e240 : PT 240 = P_wdX := pe240_20 hp
  simp only [hF2, hFp_240, e240, P_wdX, den_s, den_c, Int.add_zero, List.map_cons, List.map_nil, g2.eq, g3.eq, g4.eq, g5.eq, g6.eq, g14.eq, g15.eq, g16.eq, g17.eq, h7, h8, h10, h11, h12, h13, h15, h16, h19, h20, h21, h23, h24, h25] at f6 ⊢
  exact ⟨fun _ => (by first | rfl | trivial), fun h => by exfalso; omega⟩)
def w_xo_word_0_7 : VC := (([(0, 23), (0, 49), (1, 8), (0, 10), (0, 8), (0, 6), (0, 6), (0, 8), (0, 9), (0, 49), (0, 49), ((-2147483648), 2147483647), ((-2147483648), 2147483647), (0, 5), (0, 16), (0, 7), (0, 23), (2, 2147483647)]), [(0, [(none, 0), (none, 0)], []), (2, [(none, 1), (some 17, 0)], []), (3, [(some 17, 0), (none, 0)], []), (1, [(none, 1), (none, 0)], []), (3, [(none, 23), (some 16, 0)], []), (3, [(some 16, 0), (none, 0)], []), (1, [(none, 1), (none, 0)], []), (2, [(some 15, 0), (some 2, 0)], []), (3, [(some 15, 0), (none, 0)], []), (1, [(none, 1), (none, 0)], []), (3, [(none, 16), (some 14, 0)], []), (3, [(some 14, 0), (none, 0)], [])], (240, [(none, (-9223372036854775806)), (some 14, 0), (some 15, 0), (some 16, 0), (some 17, 0), (some 2, 0), (some 3, 0), (some 4, 0), (some 5, 0), (some 6, 0)], [7, 8, 10, 11, 12, 13, 15, 16, 19, 20, 21, 23, 24, 25]))
set_option maxRecDepth 20000 in
theorem v_xo_word_0_7 {PT : PTy} (hp : HP20 PT) : vcOk PT w_xo_word_0_7 := vc_iv [(2, 1, 8), (3, 0, 10), (4, 0, 8), (5, 0, 6), (6, 0, 6), (14, 0, 16), (15, 0, 7), (16, 0, 23), (17, 2, 2147483647)] [7, 8, 10, 11, 12, 13, 15, 16, 19, 20, 21, 23, 24, 25] (by decide +kernel) (fun ρ α => by
  intro r2 g2 b2 r3 g3 b3 r4 g4 b4 r5 g5 b5 r6 g6 b6 r14 g14 b14 r15 g15 b15 r16 g16 b16 r17 g17 b17 a7 h7 a8 h8 a10 h10 a11 h11 a12 h12 a13 h13 a15 h15 a16 h16 a19 h19 a20 h20 a21 h21 a23 h23 a24 h24 a25 h25 f0 f1 f2 f3 f4 f5 f6 f7 f8 f9 f10 f11 tt
  clear f0 f1 f2 f3 f4 f5 f6 f8 f9 f10 f11
  have e240 : PT 240 = P_wdX := pe240_20 hp
  simp only [hF2, hFp_240, e240, P_wdX, den_s, den_c, Int.add_zero, List.map_cons, List.map_nil, g2.eq, g3.eq, g4.eq, g5.eq, g6.eq, g14.eq, g15.eq, g16.eq, g17.eq, h7, h8, h10, h11, h12, h13, h15, h16, h19, h20, h21, h23, h24, h25] at f7 ⊢
  exact ⟨fun _ => (by first | rfl | trivial), fun h => by exfalso; omega⟩)
def w_xo_word_0_8 : VC := (([(0, 23), (0, 49), (1, 8), (0, 10), (0, 8), (0, 6), (0, 6), (0, 8), (0, 9), (0, 49), (0, 49), ((-2147483648), 2147483647), ((-2147483648), 2147483647), (0, 5), (0, 16), (0, 7), (0, 23), (0, 1), (0, 49), (0, 255), (0, 8), (0, 32), (1, 4294967296)]), [(30, [(some 22, 0), (some 21, 0)], []), (6, [(some 21, 0), (none, 4), (some 20, 0)], []), (160, [(some 20, 0), (some 19, 0)], []), (235, [(some 19, 0), (some 4, 0), (some 15, 0), (some 3, 0)], [16, 10]), (86, [(some 2, 0), (some 3, 0), (some 4, 0), (some 5, 0), (some 6, 0), (some 18, 0)], [58, 59, 10, 12, 13, 15, 16, 19, 20, 23, 24]), (1, [(none, 1), (none, 0)], []), (3, [(none, 1), (some 17, 0)], []), (3, [(some 17, 0), (none, 0)], []), (1, [(none, 1), (none, 0)], []), (3, [(none, 23), (some 16, 0)], []), (3, [(some 16, 0), (none, 0)], []), (1, [(none, 1), (none, 0)], []), (2, [(some 15, 0), (some 2, 0)], []), (3, [(some 15, 0), (none, 0)], []), (1, [(none, 1), (none, 0)], []), (3, [(none, 16), (some 14, 0)], []), (3, [(some 14, 0), (none, 0)], [])], (150, [(some 18, 0), (some 2, 0), (some 3, 0), (some 4, 0), (some 5, 0), (some 6, 0)], [58, 59, 7, 8, 10, 11, 12, 13, 15, 16, 19, 20, 21, 23, 24, 25]))
theorem pe86_20 {PT : PTy} (hp : HP20 PT) : PT 86 = P_arr := hp.1.1.1.1.1.1.1.1.1.1.1.1.1.1.1.1.1.2.2.2.2.2.2.2.1
theorem pe150_20 {PT : PTy} (hp : HP20 PT) : PT 150 = P_ar2 := hp.1.1.1.1.1.1.1.1.1.2.2.2.2.1
set_option maxRecDepth 20000 in
theorem v_xo_word_0_8 {PT : PTy} (hp : HP20 PT) : vcOk PT w_xo_word_0_8 := vc_iv [(2, 1, 8), (3, 0, 10), (4, 0, 8), (5, 0, 6), (6, 0, 6), (15, 0, 7), (18, 0, 49), (19, 0, 255), (20, 0, 8), (21, 0, 32), (22, 1, 4294967296)] [7, 8, 10, 11, 12, 13, 15, 16, 19, 20, 21, 23, 24, 25, 58, 59] (by decide +kernel) (fun ρ α => by
  intro r2 g2 b2 r3 g3 b3 r4 g4 b4 r5 g5 b5 r6 g6 b6 r15 g15 b15 r18 g18 b18 r19 g19 b19 r20 g20 b20 r21 g21 b21 r22 g22 b22 a7 h7 a8 h8 a10 h10 a11 h11 a12 h12 a13 h13 a15 h15 a16 h16 a19 h19 a20 h20 a21 h21 a23 h23 a24 h24 a25 h25 a58 h58 a59 h59 f0 f1 f2 f3 f4 f5 f6 f7 f8 f9 f10 f11 f12 f13 f14 f15 f16 tt
  clear f5 f6 f7 f8 f9 f10 f11 f13 f14 f15 f16
  have e86 : PT 86 = P_arr := pe86_20 hp
  have e150 : PT 150 = P_ar2 := pe150_20 hp
  have e160 : PT 160 = P_bc := pe160_20 hp
  have e235 : PT 235 = P_kpI := pe235_20 hp
  simp only [hF2, hF6, hF30, hFp_86, hFp_150, hFp_160, hFp_235, e86, e150, e160, e235, P_arr, P_ar2, P_bc, P_kpI, den_s, den_c, Int.add_zero, List.map_cons, List.map_nil, g2.eq, g3.eq, g4.eq, g5.eq, g6.eq, g15.eq, g18.eq, g19.eq, g20.eq, g21.eq, g22.eq, h7, h8, h10, h11, h12, h13, h15, h16, h19, h20, h21, h23, h24, h25, h58, h59] at f0 f1 f2 f3 f4 f12 ⊢
  subst f0
  subst f1
  exact f4)
def w_xo_word_0_9 : VC := (([(0, 23), (0, 49), (1, 8), (0, 10), (0, 8), (0, 6), (0, 6), (0, 8), (0, 9), (0, 49), (0, 49), ((-2147483648), 2147483647), ((-2147483648), 2147483647), (0, 5), (0, 16), (0, 7), (0, 23), (0, 1), (0, 49), (0, 255), (0, 8), (0, 32), (1, 4294967296)]), [(30, [(some 22, 0), (some 21, 0)], []), (6, [(some 21, 0), (none, 4), (some 20, 0)], []), (160, [(some 20, 0), (some 19, 0)], []), (235, [(some 19, 0), (some 4, 0), (some 15, 0), (some 3, 0)], [16, 10]), (86, [(some 2, 0), (some 3, 0), (some 4, 0), (some 5, 0), (some 6, 0), (some 18, 0)], [58, 59, 10, 12, 13, 15, 16, 19, 20, 23, 24]), (1, [(none, 1), (none, 0)], []), (3, [(none, 1), (some 17, 0)], []), (3, [(some 17, 0), (none, 0)], []), (1, [(none, 1), (none, 0)], []), (3, [(none, 23), (some 16, 0)], []), (3, [(some 16, 0), (none, 0)], []), (1, [(none, 1), (none, 0)], []), (2, [(some 15, 0), (some 2, 0)], []), (3, [(some 15, 0), (none, 0)], []), (1, [(none, 1), (none, 0)], []), (3, [(none, 16), (some 14, 0)], []), (3, [(some 14, 0), (none, 0)], [])], (237, [(none, 0), (none, 0), (some 14, 0), (some 19, 0), (some 16, 0), (some 15, 0), (some 2, 0), (some 3, 0), (some 4, 0), (some 5, 0), (some 6, 0)], [7, 8, 10, 11, 12, 13, 15, 16, 19, 20, 21, 23, 24, 25]))
theorem pe237_20 {PT : PTy} (hp : HP20 PT) : PT 237 = P_wcI := hp.2.2.2.1
set_option maxRecDepth 20000 in
theorem v_xo_word_0_9 {PT : PTy} (hp : HP20 PT) : vcOk PT w_xo_word_0_9 := vc_iv [(2, 1, 8), (3, 0, 10), (4, 0, 8), (5, 0, 6), (6, 0, 6), (14, 0, 16), (15, 0, 7), (16, 0, 23), (18, 0, 49), (19, 0, 255), (20, 0, 8), (21, 0, 32), (22, 1, 4294967296)] [7, 8, 10, 11, 12, 13, 15, 16, 19, 20, 21, 23, 24, 25, 58, 59] (by decide +kernel) (fun ρ α => by
  intro r2 g2 b2 r3 g3 b3 r4 g4 b4 r5 g5 b5 r6 g6 b6 r14 g14 b14 r15 g15 b15 r16 g16 b16 r18 g18 b18 r19 g19 b19 r20 g20 b20 r21 g21 b21 r22 g22 b22 a7 h7 a8 h8 a10 h10 a11 h11 a12 h12 a13 h13 a15 h15 a16 h16 a19 h19 a20 h20 a21 h21 a23 h23 a24 h24 a25 h25 a58 h58 a59 h59 f0 f1 f2 f3 f4 f5 f6 f7 f8 f9 f10 f11 f12 f13 f14 f15 f16 tt
  clear f5 f6 f7 f8 f9 f10 f11 f13 f14 f15 f16
  have e86 : PT 86 = P_arr := pe86_20 hp
  have e160 : PT 160 = P_bc := pe160_20 hp
  have e235 : PT 235 = P_kpI := pe235_20 hp
  have e237 : PT 237 = P_wcI := pe237_20 hp
  simp only [hF2, hF6, hF30, hFp_86, hFp_160, hFp_235, hFp_237, e86, e160, e235, e237, P_arr, P_bc, P_kpI, P_wcI, den_s, den_c, Int.add_zero, List.map_cons, List.map_nil, g2.eq, g3.eq, g4.eq, g5.eq, g6.eq, g14.eq, g15.eq, g16.eq, g18.eq, g19.eq, g20.eq, g21.eq, g22.eq, h7, h8, h10, h11, h12, h13, h15, h16, h19, h20, h21, h23, h24, h25, h58, h59] at f0 f1 f2 f3 f4 f12 ⊢
  subst f0
  subst f1
  exact ⟨fun _ => 0, fun i h1 h2 => by exfalso; omega, rfl⟩)
def w_xo_word_0_10 : VC := (([(0, 23), (0, 49), (1, 8), (0, 10), (0, 8), (0, 6), (0, 6), (0, 8), (0, 9), (0, 49), (0, 49), ((-2147483648), 2147483647), ((-2147483648), 2147483647), (0, 5), (0, 16), (0, 7), (0, 23), (0, 1), (0, 49), (0, 255), (0, 8), (0, 32), (1, 4294967296)]), [(30, [(some 22, 0), (some 21, 0)], []), (6, [(some 21, 0), (none, 4), (some 20, 0)], []), (160, [(some 20, 0), (some 19, 0)], []), (235, [(some 19, 0), (some 4, 0), (some 15, 0), (some 3, 0)], [16, 10]), (86, [(some 2, 0), (some 3, 0), (some 4, 0), (some 5, 0), (some 6, 0), (some 18, 0)], [58, 59, 10, 12, 13, 15, 16, 19, 20, 23, 24]), (1, [(none, 1), (none, 0)], []), (3, [(none, 1), (some 17, 0)], []), (3, [(some 17, 0), (none, 0)], []), (1, [(none, 1), (none, 0)], []), (3, [(none, 23), (some 16, 0)], []), (3, [(some 16, 0), (none, 0)], []), (1, [(none, 1), (none, 0)], []), (2, [(some 15, 0), (some 2, 0)], []), (3, [(some 15, 0), (none, 0)], []), (1, [(none, 1), (none, 0)], []), (3, [(none, 16), (some 14, 0)], []), (3, [(some 14, 0), (none, 0)], [])], (239, [(some 22, 0), (some 19, 0)], []))
theorem pe239_20 {PT : PTy} (hp : HP20 PT) : PT 239 = P_pwI := hp.2.2.2.2.2.1
set_option maxRecDepth 20000 in
theorem v_xo_word_0_10 {PT : PTy} (hp : HP20 PT) : vcOk PT w_xo_word_0_10 := vc_iv [(2, 1, 8), (3, 0, 10), (4, 0, 8), (5, 0, 6), (6, 0, 6), (15, 0, 7), (18, 0, 49), (19, 0, 255), (20, 0, 8), (21, 0, 32), (22, 1, 4294967296)] [10, 12, 13, 15, 16, 19, 20, 23, 24, 58, 59] (by decide +kernel) (fun ρ α => by
  intro r2 g2 b2 r3 g3 b3 r4 g4 b4 r5 g5 b5 r6 g6 b6 r15 g15 b15 r18 g18 b18 r19 g19 b19 r20 g20 b20 r21 g21 b21 r22 g22 b22 a10 h10 a12 h12 a13 h13 a15 h15 a16 h16 a19 h19 a20 h20 a23 h23 a24 h24 a58 h58 a59 h59 f0 f1 f2 f3 f4 f5 f6 f7 f8 f9 f10 f11 f12 f13 f14 f15 f16 tt
  clear f5 f6 f7 f8 f9 f10 f11 f13 f14 f15 f16
  have e86 : PT 86 = P_arr := pe86_20 hp
  have e160 : PT 160 = P_bc := pe160_20 hp
  have e235 : PT 235 = P_kpI := pe235_20 hp
  have e239 : PT 239 = P_pwI := pe239_20 hp
  simp only [hF2, hF6, hF30, hFp_86, hFp_160, hFp_235, hFp_239, e86, e160, e235, e239, P_arr, P_bc, P_kpI, P_pwI, den_s, den_c, Int.add_zero, List.map_cons, List.map_nil, g2.eq, g3.eq, g4.eq, g5.eq, g6.eq, g15.eq, g18.eq, g19.eq, g20.eq, g21.eq, g22.eq, h10, h12, h13, h15, h16, h19, h20, h23, h24, h58, h59] at f0 f1 f2 f3 f4 f12 ⊢
  subst f0
  subst f1
  have h := f2
  rw [← h])
def w_xo_word_1_0 : VC := (([(0, 23), (0, 49), (1, 8), (0, 10), (0, 8), (0, 6), (0, 6), (0, 8), (0, 9), (0, 49), (0, 49), ((-2147483648), 2147483647), ((-2147483648), 2147483647), (0, 5), (0, 16), (0, 7), (0, 23), (1, 1), (0, 255), (0, 1099511627776), (1, 4294967296), (32, 32), (0, 49), (0, 49), ((-2147483648), 2147483647)]), [(1, [(some 17, 0), (none, 0)], []), (3, [(some 21, 0), (none, 32)], []), (238, [(some 19, 0), (some 20, 0), (some 21, 0), (some 14, 0), (some 18, 0), (some 16, 0), (some 15, 0), (some 2, 0), (some 3, 0), (some 4, 0), (some 5, 0), (some 6, 0)], [7, 8, 10, 11, 12, 13, 15, 16, 19, 20, 21, 23, 24, 25]), (235, [(some 18, 0), (some 4, 0), (some 15, 0), (some 3, 0)], [16, 10]), (2, [(some 15, 0), (some 2, 0)], [])], (240, [(some 20, 0), (some 14, 0), (some 15, 0), (some 16, 0), (some 17, 0), (some 2, 0), (some 3, 0), (some 4, 0), (some 5, 0), (some 6, 0)], [7, 8, 10, 11, 12, 13, 15, 16, 19, 20, 21, 23, 24, 25]))
theorem pe238_20 {PT : PTy} (hp : HP20 PT) : PT 238 = P_hlI := hp.2.2.2.2.1
set_option maxRecDepth 20000 in
theorem v_xo_word_1_0 {PT : PTy} (hp : HP20 PT) : vcOk PT w_xo_word_1_0 := vc_iv [(2, 1, 8), (3, 0, 10), (4, 0, 8), (5, 0, 6), (6, 0, 6), (14, 0, 16), (15, 0, 7), (16, 0, 23), (17, 1, 1), (18, 0, 255), (19, 0, 1099511627776), (20, 1, 4294967296), (21, 32, 32)] [7, 8, 10, 11, 12, 13, 15, 16, 19, 20, 21, 23, 24, 25] (by decide +kernel) (fun ρ α => by
  intro r2 g2 b2 r3 g3 b3 r4 g4 b4 r5 g5 b5 r6 g6 b6 r14 g14 b14 r15 g15 b15 r16 g16 b16 r17 g17 b17 r18 g18 b18 r19 g19 b19 r20 g20 b20 r21 g21 b21 a7 h7 a8 h8 a10 h10 a11 h11 a12 h12 a13 h13 a15 h15 a16 h16 a19 h19 a20 h20 a21 h21 a23 h23 a24 h24 a25 h25 f0 f1 f2 f3 f4 tt
  clear f0 f1
  have e235 : PT 235 = P_kpI := pe235_20 hp
  have e238 : PT 238 = P_hlI := pe238_20 hp
  have e240 : PT 240 = P_wdX := pe240_20 hp
  simp only [hF2, hFp_235, hFp_238, hFp_240, e235, e238, e240, P_kpI, P_hlI, P_wdX, den_s, den_c, Int.add_zero, List.map_cons, List.map_nil, g2.eq, g3.eq, g4.eq, g5.eq, g6.eq, g14.eq, g15.eq, g16.eq, g17.eq, g18.eq, g19.eq, g20.eq, g21.eq, h7, h8, h10, h11, h12, h13, h15, h16, h19, h20, h21, h23, h24, h25] at f2 f3 f4 ⊢
  obtain ⟨G, hG, ha, hb⟩ := f2
  exact ⟨fun h => by exfalso; omega, fun _ => ⟨G, _, r19, r20, r21, f3, by omega, by omega, hG, ha, hb, by omega, by omega, by omega, fun q => by first | rfl | (exfalso; omega), fun q => by first | rfl | (exfalso; omega)⟩⟩)
def w_xo_word_1_1 : VC := (([(0, 23), (0, 49), (1, 8), (0, 10), (0, 8), (0, 6), (0, 6), (0, 8), (0, 9), (0, 49), (0, 49), ((-2147483648), 2147483647), ((-2147483648), 2147483647), (0, 5), (0, 16), (0, 7), (0, 23), (0, 0), (0, 255), (0, 1099511627776), (1, 4294967296), (32, 32), (0, 49), (0, 49), ((-2147483648), 2147483647)]), [(0, [(some 17, 0), (none, 0)], []), (3, [(some 21, 0), (none, 32)], []), (238, [(some 19, 0), (some 20, 0), (some 21, 0), (some 14, 0), (some 18, 0), (some 16, 0), (some 15, 0), (some 2, 0), (some 3, 0), (some 4, 0), (some 5, 0), (some 6, 0)], [7, 8, 10, 11, 12, 13, 15, 16, 19, 20, 21, 23, 24, 25]), (235, [(some 18, 0), (some 4, 0), (some 15, 0), (some 3, 0)], [16, 10]), (2, [(some 15, 0), (some 2, 0)], [])], (240, [(some 19, 0), (some 14, 0), (some 15, 0), (some 16, 0), (some 17, 0), (some 2, 0), (some 3, 0), (some 4, 0), (some 5, 0), (some 6, 0)], [7, 8, 10, 11, 12, 13, 15, 16, 19, 20, 21, 23, 24, 25]))
set_option maxRecDepth 20000 in
theorem v_xo_word_1_1 {PT : PTy} (hp : HP20 PT) : vcOk PT w_xo_word_1_1 := vc_iv [(2, 1, 8), (3, 0, 10), (4, 0, 8), (5, 0, 6), (6, 0, 6), (14, 0, 16), (15, 0, 7), (16, 0, 23), (17, 0, 0), (18, 0, 255), (19, 0, 1099511627776), (20, 1, 4294967296), (21, 32, 32)] [7, 8, 10, 11, 12, 13, 15, 16, 19, 20, 21, 23, 24, 25] (by decide +kernel) (fun ρ α => by
  intro r2 g2 b2 r3 g3 b3 r4 g4 b4 r5 g5 b5 r6 g6 b6 r14 g14 b14 r15 g15 b15 r16 g16 b16 r17 g17 b17 r18 g18 b18 r19 g19 b19 r20 g20 b20 r21 g21 b21 a7 h7 a8 h8 a10 h10 a11 h11 a12 h12 a13 h13 a15 h15 a16 h16 a19 h19 a20 h20 a21 h21 a23 h23 a24 h24 a25 h25 f0 f1 f2 f3 f4 tt
  clear f1
  have e235 : PT 235 = P_kpI := pe235_20 hp
  have e238 : PT 238 = P_hlI := pe238_20 hp
  have e240 : PT 240 = P_wdX := pe240_20 hp
  simp only [hF0, hF2, hFp_235, hFp_238, hFp_240, e235, e238, e240, P_kpI, P_hlI, P_wdX, den_s, den_c, Int.add_zero, List.map_cons, List.map_nil, g2.eq, g3.eq, g4.eq, g5.eq, g6.eq, g14.eq, g15.eq, g16.eq, g17.eq, g18.eq, g19.eq, g20.eq, g21.eq, h7, h8, h10, h11, h12, h13, h15, h16, h19, h20, h21, h23, h24, h25] at f0 f2 f3 f4 ⊢
  obtain ⟨G, hG, ha, hb⟩ := f2
  exact ⟨fun h => by exfalso; omega, fun _ => ⟨G, _, r19, r20, r21, f3, by omega, by omega, hG, ha, hb, by omega, by omega, by omega, fun q => by first | rfl | (exfalso; omega), fun q => by first | rfl | (exfalso; omega)⟩⟩)
def w_xo_word_1_2 : VC := (([(0, 23), (0, 49), (1, 8), (0, 10), (0, 8), (0, 6), (0, 6), (0, 8), (0, 9), (0, 49), (0, 49), ((-2147483648), 2147483647), ((-2147483648), 2147483647), (0, 5), (0, 16), (0, 7), (0, 23), (1, 1), (0, 255), (0, 1099511627776), (1, 4294967296), (0, 31), (0, 49), (0, 49), ((-2147483648), 2147483647), ((-1), 0)]), [(1, [(some 17, 0), (none, 0)], []), (3, [(none, 0), (some 25, 0)], []), (28, [(some 25, 0), (some 20, 0), (none, 1)], []), (2, [(some 21, 0), (none, 32)], []), (238, [(some 19, 0), (some 20, 0), (some 21, 0), (some 14, 0), (some 18, 0), (some 16, 0), (some 15, 0), (some 2, 0), (some 3, 0), (some 4, 0), (some 5, 0), (some 6, 0)], [7, 8, 10, 11, 12, 13, 15, 16, 19, 20, 21, 23, 24, 25]), (235, [(some 18, 0), (some 4, 0), (some 15, 0), (some 3, 0)], [16, 10]), (2, [(some 15, 0), (some 2, 0)], [])], (240, [(some 20, 0), (some 14, 0), (some 15, 0), (some 16, 0), (some 17, 0), (some 2, 0), (some 3, 0), (some 4, 0), (some 5, 0), (some 6, 0)], [7, 8, 10, 11, 12, 13, 15, 16, 19, 20, 21, 23, 24, 25]))
set_option maxRecDepth 20000 in
theorem v_xo_word_1_2 {PT : PTy} (hp : HP20 PT) : vcOk PT w_xo_word_1_2 := vc_iv [(2, 1, 8), (3, 0, 10), (4, 0, 8), (5, 0, 6), (6, 0, 6), (14, 0, 16), (15, 0, 7), (16, 0, 23), (17, 1, 1), (18, 0, 255), (19, 0, 1099511627776), (20, 1, 4294967296), (21, 0, 31), (25, (-1), 0)] [7, 8, 10, 11, 12, 13, 15, 16, 19, 20, 21, 23, 24, 25] (by decide +kernel) (fun ρ α => by
  intro r2 g2 b2 r3 g3 b3 r4 g4 b4 r5 g5 b5 r6 g6 b6 r14 g14 b14 r15 g15 b15 r16 g16 b16 r17 g17 b17 r18 g18 b18 r19 g19 b19 r20 g20 b20 r21 g21 b21 r25 g25 b25 a7 h7 a8 h8 a10 h10 a11 h11 a12 h12 a13 h13 a15 h15 a16 h16 a19 h19 a20 h20 a21 h21 a23 h23 a24 h24 a25 h25 f0 f1 f2 f3 f4 f5 f6 tt
  clear f0 f1 f3
  have e235 : PT 235 = P_kpI := pe235_20 hp
  have e238 : PT 238 = P_hlI := pe238_20 hp
  have e240 : PT 240 = P_wdX := pe240_20 hp
  simp only [hF2, hF28, hFp_235, hFp_238, hFp_240, e235, e238, e240, P_kpI, P_hlI, P_wdX, den_s, den_c, Int.add_zero, List.map_cons, List.map_nil, g2.eq, g3.eq, g4.eq, g5.eq, g6.eq, g14.eq, g15.eq, g16.eq, g17.eq, g18.eq, g19.eq, g20.eq, g21.eq, g25.eq, h7, h8, h10, h11, h12, h13, h15, h16, h19, h20, h21, h23, h24, h25] at f2 f4 f5 f6 ⊢
  subst f2
  obtain ⟨G, hG, ha, hb⟩ := f4
  have cc2 := cmp_sp (r20) (1)
  exact ⟨fun h => by exfalso; omega, fun _ => ⟨G, _, r19, r20, r21, f5, by omega, by omega, hG, ha, hb, by omega, by omega, by omega, fun q => by first | rfl | (exfalso; omega), fun q => by first | rfl | (exfalso; omega)⟩⟩)
def w_xo_word_1_3 : VC := (([(0, 23), (0, 49), (1, 8), (0, 10), (0, 8), (0, 6), (0, 6), (0, 8), (0, 9), (0, 49), (0, 49), ((-2147483648), 2147483647), ((-2147483648), 2147483647), (0, 5), (0, 16), (0, 7), (0, 23), (0, 0), (0, 255), (0, 1099511627776), (1, 4294967296), (0, 31), (0, 49), (0, 49), ((-2147483648), 2147483647), ((-1), 0)]), [(0, [(some 17, 0), (none, 0)], []), (3, [(none, 0), (some 25, 0)], []), (28, [(some 25, 0), (some 20, 0), (none, 1)], []), (2, [(some 21, 0), (none, 32)], []), (238, [(some 19, 0), (some 20, 0), (some 21, 0), (some 14, 0), (some 18, 0), (some 16, 0), (some 15, 0), (some 2, 0), (some 3, 0), (some 4, 0), (some 5, 0), (some 6, 0)], [7, 8, 10, 11, 12, 13, 15, 16, 19, 20, 21, 23, 24, 25]), (235, [(some 18, 0), (some 4, 0), (some 15, 0), (some 3, 0)], [16, 10]), (2, [(some 15, 0), (some 2, 0)], [])], (240, [(some 19, 0), (some 14, 0), (some 15, 0), (some 16, 0), (some 17, 0), (some 2, 0), (some 3, 0), (some 4, 0), (some 5, 0), (some 6, 0)], [7, 8, 10, 11, 12, 13, 15, 16, 19, 20, 21, 23, 24, 25]))
set_option maxRecDepth 20000 in
theorem v_xo_word_1_3 {PT : PTy} (hp : HP20 PT) : vcOk PT w_xo_word_1_3 := vc_iv [(2, 1, 8), (3, 0, 10), (4, 0, 8), (5, 0, 6), (6, 0, 6), (14, 0, 16), (15, 0, 7), (16, 0, 23), (17, 0, 0), (18, 0, 255), (19, 0, 1099511627776), (20, 1, 4294967296), (21, 0, 31), (25, (-1), 0)] [7, 8, 10, 11, 12, 13, 15, 16, 19, 20, 21, 23, 24, 25] (by decide +kernel) (fun ρ α => by
  intro r2 g2 b2 r3 g3 b3 r4 g4 b4 r5 g5 b5 r6 g6 b6 r14 g14 b14 r15 g15 b15 r16 g16 b16 r17 g17 b17 r18 g18 b18 r19 g19 b19 r20 g20 b20 r21 g21 b21 r25 g25 b25 a7 h7 a8 h8 a10 h10 a11 h11 a12 h12 a13 h13 a15 h15 a16 h16 a19 h19 a20 h20 a21 h21 a23 h23 a24 h24 a25 h25 f0 f1 f2 f3 f4 f5 f6 tt
  clear f1 f3
  have e235 : PT 235 = P_kpI := pe235_20 hp
  have e238 : PT 238 = P_hlI := pe238_20 hp
  have e240 : PT 240 = P_wdX := pe240_20 hp
  simp only [hF0, hF2, hF28, hFp_235, hFp_238, hFp_240, e235, e238, e240, P_kpI, P_hlI, P_wdX, den_s, den_c, Int.add_zero, List.map_cons, List.map_nil, g2.eq, g3.eq, g4.eq, g5.eq, g6.eq, g14.eq, g15.eq, g16.eq, g17.eq, g18.eq, g19.eq, g20.eq, g21.eq, g25.eq, h7, h8, h10, h11, h12, h13, h15, h16, h19, h20, h21, h23, h24, h25] at f0 f2 f4 f5 f6 ⊢
  subst f2
  obtain ⟨G, hG, ha, hb⟩ := f4
  have cc2 := cmp_sp (r20) (1)
  exact ⟨fun h => by exfalso; omega, fun _ => ⟨G, _, r19, r20, r21, f5, by omega, by omega, hG, ha, hb, by omega, by omega, by omega, fun q => by first | rfl | (exfalso; omega), fun q => by first | rfl | (exfalso; omega)⟩⟩)
def w_xo_word_1_4 : VC := (([(0, 23), (0, 49), (1, 8), (0, 10), (0, 8), (0, 6), (0, 6), (0, 8), (0, 9), (0, 49), (0, 49), ((-2147483648), 2147483647), ((-2147483648), 2147483647), (0, 5), (0, 16), (0, 7), (0, 23), (1, 1), (0, 255), (0, 1099511627776), (1, 4294967296), (0, 31), (0, 49), (0, 49), ((-2147483648), 2147483647), (1, 1), (0, 1), ((-1), 1)]), [(1, [(some 17, 0), (none, 0)], []), (1, [(some 27, 0), (none, 0)], []), (28, [(some 27, 0), (some 26, 0), (none, 0)], []), (8, [(some 26, 0), (some 19, 0), (none, 2)], []), (2, [(none, 0), (some 25, 0)], []), (28, [(some 25, 0), (some 20, 0), (none, 1)], []), (2, [(some 21, 0), (none, 32)], []), (238, [(some 19, 0), (some 20, 0), (some 21, 0), (some 14, 0), (some 18, 0), (some 16, 0), (some 15, 0), (some 2, 0), (some 3, 0), (some 4, 0), (some 5, 0), (some 6, 0)], [7, 8, 10, 11, 12, 13, 15, 16, 19, 20, 21, 23, 24, 25]), (235, [(some 18, 0), (some 4, 0), (some 15, 0), (some 3, 0)], [16, 10]), (2, [(some 15, 0), (some 2, 0)], [])], (240, [(some 20, 0), (some 14, 0), (some 15, 0), (some 16, 0), (some 17, 0), (some 2, 0), (some 3, 0), (some 4, 0), (some 5, 0), (some 6, 0)], [7, 8, 10, 11, 12, 13, 15, 16, 19, 20, 21, 23, 24, 25]))
set_option maxRecDepth 20000 in
theorem v_xo_word_1_4 {PT : PTy} (hp : HP20 PT) : vcOk PT w_xo_word_1_4 := vc_iv [(2, 1, 8), (3, 0, 10), (4, 0, 8), (5, 0, 6), (6, 0, 6), (14, 0, 16), (15, 0, 7), (16, 0, 23), (17, 1, 1), (18, 0, 255), (19, 0, 1099511627776), (20, 1, 4294967296), (21, 0, 31), (25, 1, 1), (26, 0, 1), (27, (-1), 1)] [7, 8, 10, 11, 12, 13, 15, 16, 19, 20, 21, 23, 24, 25] (by decide +kernel) (fun ρ α => by
  intro r2 g2 b2 r3 g3 b3 r4 g4 b4 r5 g5 b5 r6 g6 b6 r14 g14 b14 r15 g15 b15 r16 g16 b16 r17 g17 b17 r18 g18 b18 r19 g19 b19 r20 g20 b20 r21 g21 b21 r25 g25 b25 r26 g26 b26 r27 g27 b27 a7 h7 a8 h8 a10 h10 a11 h11 a12 h12 a13 h13 a15 h15 a16 h16 a19 h19 a20 h20 a21 h21 a23 h23 a24 h24 a25 h25 f0 f1 f2 f3 f4 f5 f6 f7 f8 f9 tt
  clear f0 f4 f6
  have e235 : PT 235 = P_kpI := pe235_20 hp
  have e238 : PT 238 = P_hlI := pe238_20 hp
  have e240 : PT 240 = P_wdX := pe240_20 hp
  simp only [hF1, hF2, hF8, hF28, hFp_235, hFp_238, hFp_240, e235, e238, e240, P_kpI, P_hlI, P_wdX, den_s, den_c, Int.add_zero, List.map_cons, List.map_nil, g2.eq, g3.eq, g4.eq, g5.eq, g6.eq, g14.eq, g15.eq, g16.eq, g17.eq, g18.eq, g19.eq, g20.eq, g21.eq, g25.eq, g26.eq, g27.eq, h7, h8, h10, h11, h12, h13, h15, h16, h19, h20, h21, h23, h24, h25] at f1 f2 f3 f5 f7 f8 f9 ⊢
  subst f2
  subst f3
  subst f5
  obtain ⟨G, hG, ha, hb⟩ := f7
  have cc2 := cmp_sp ((r19) % (2)) (0)
  have cc5 := cmp_sp (r20) (1)
  exact ⟨fun h => by exfalso; omega, fun _ => ⟨G, _, r19, r20, r21, f8, by omega, by omega, hG, ha, hb, by omega, by omega, by omega, fun q => by first | rfl | (exfalso; omega), fun q => by first | rfl | (exfalso; omega)⟩⟩)
def w_xo_word_1_5 : VC := (([(0, 23), (0, 49), (1, 8), (0, 10), (0, 8), (0, 6), (0, 6), (0, 8), (0, 9), (0, 49), (0, 49), ((-2147483648), 2147483647), ((-2147483648), 2147483647), (0, 5), (0, 16), (0, 7), (0, 23), (0, 0), (0, 255), (0, 1099511627776), (1, 4294967296), (0, 31), (0, 49), (0, 49), ((-2147483648), 2147483647), (1, 1), (0, 1), ((-1), 1)]), [(0, [(some 17, 0), (none, 0)], []), (1, [(some 27, 0), (none, 0)], []), (28, [(some 27, 0), (some 26, 0), (none, 0)], []), (8, [(some 26, 0), (some 19, 0), (none, 2)], []), (2, [(none, 0), (some 25, 0)], []), (28, [(some 25, 0), (some 20, 0), (none, 1)], []), (2, [(some 21, 0), (none, 32)], []), (238, [(some 19, 0), (some 20, 0), (some 21, 0), (some 14, 0), (some 18, 0), (some 16, 0), (some 15, 0), (some 2, 0), (some 3, 0), (some 4, 0), (some 5, 0), (some 6, 0)], [7, 8, 10, 11, 12, 13, 15, 16, 19, 20, 21, 23, 24, 25]), (235, [(some 18, 0), (some 4, 0), (some 15, 0), (some 3, 0)], [16, 10]), (2, [(some 15, 0), (some 2, 0)], [])], (240, [(some 19, 0), (some 14, 0), (some 15, 0), (some 16, 0), (some 17, 0), (some 2, 0), (some 3, 0), (some 4, 0), (some 5, 0), (some 6, 0)], [7, 8, 10, 11, 12, 13, 15, 16, 19, 20, 21, 23, 24, 25]))
set_option maxRecDepth 20000 in
theorem v_xo_word_1_5 {PT : PTy} (hp : HP20 PT) : vcOk PT w_xo_word_1_5 := vc_iv [(2, 1, 8), (3, 0, 10), (4, 0, 8), (5, 0, 6), (6, 0, 6), (14, 0, 16), (15, 0, 7), (16, 0, 23), (17, 0, 0), (18, 0, 255), (19, 0, 1099511627776), (20, 1, 4294967296), (21, 0, 31), (25, 1, 1), (26, 0, 1), (27, (-1), 1)] [7, 8, 10, 11, 12, 13, 15, 16, 19, 20, 21, 23, 24, 25] (by decide +kernel) (fun ρ α => by
  intro r2 g2 b2 r3 g3 b3 r4 g4 b4 r5 g5 b5 r6 g6 b6 r14 g14 b14 r15 g15 b15 r16 g16 b16 r17 g17 b17 r18 g18 b18 r19 g19 b19 r20 g20 b20 r21 g21 b21 r25 g25 b25 r26 g26 b26 r27 g27 b27 a7 h7 a8 h8 a10 h10 a11 h11 a12 h12 a13 h13 a15 h15 a16 h16 a19 h19 a20 h20 a21 h21 a23 h23 a24 h24 a25 h25 f0 f1 f2 f3 f4 f5 f6 f7 f8 f9 tt
  clear f4 f6
  have e235 : PT 235 = P_kpI := pe235_20 hp
  have e238 : PT 238 = P_hlI := pe238_20 hp
  have e240 : PT 240 = P_wdX := pe240_20 hp
  simp only [hF0, hF1, hF2, hF8, hF28, hFp_235, hFp_238, hFp_240, e235, e238, e240, P_kpI, P_hlI, P_wdX, den_s, den_c, Int.add_zero, List.map_cons, List.map_nil, g2.eq, g3.eq, g4.eq, g5.eq, g6.eq, g14.eq, g15.eq, g16.eq, g17.eq, g18.eq, g19.eq, g20.eq, g21.eq, g25.eq, g26.eq, g27.eq, h7, h8, h10, h11, h12, h13, h15, h16, h19, h20, h21, h23, h24, h25] at f0 f1 f2 f3 f5 f7 f8 f9 ⊢
  subst f2
  subst f3
  subst f5
  obtain ⟨G, hG, ha, hb⟩ := f7
  have cc2 := cmp_sp ((r19) % (2)) (0)
  have cc5 := cmp_sp (r20) (1)
  exact ⟨fun h => by exfalso; omega, fun _ => ⟨G, _, r19, r20, r21, f8, by omega, by omega, hG, ha, hb, by omega, by omega, by omega, fun q => by first | rfl | (exfalso; omega), fun q => by first | rfl | (exfalso; omega)⟩⟩)
def w_xo_word_1_6 : VC := (([(0, 23), (0, 49), (1, 8), (0, 10), (0, 8), (0, 6), (0, 6), (0, 8), (0, 9), (0, 49), (0, 49), ((-2147483648), 2147483647), ((-2147483648), 2147483647), (0, 5), (0, 16), (0, 7), (0, 23), (0, 1), (0, 255), (0, 1099511627776), (1, 4294967296), (0, 31), (0, 49), (0, 49), ((-2147483648), 2147483647), (1, 1), (0, 1), (0, 0), (0, 549755813888), (0, 2147483648)]), [(7, [(some 29, 0), (some 20, 0), (none, 2)], []), (7, [(some 28, 0), (some 19, 0), (none, 2)], []), (0, [(some 27, 0), (none, 0)], []), (28, [(some 27, 0), (some 26, 0), (none, 0)], []), (8, [(some 26, 0), (some 19, 0), (none, 2)], []), (2, [(none, 0), (some 25, 0)], []), (28, [(some 25, 0), (some 20, 0), (none, 1)], []), (2, [(some 21, 0), (none, 32)], []), (238, [(some 19, 0), (some 20, 0), (some 21, 0), (some 14, 0), (some 18, 0), (some 16, 0), (some 15, 0), (some 2, 0), (some 3, 0), (some 4, 0), (some 5, 0), (some 6, 0)], [7, 8, 10, 11, 12, 13, 15, 16, 19, 20, 21, 23, 24, 25]), (235, [(some 18, 0), (some 4, 0), (some 15, 0), (some 3, 0)], [16, 10]), (2, [(some 15, 0), (some 2, 0)], [])], (3, [(some 29, 0), (none, 1)], []))
set_option maxRecDepth 20000 in
theorem v_xo_word_1_6 {PT : PTy} (hp : HP20 PT) : vcOk PT w_xo_word_1_6 := vc_iv [(2, 1, 8), (3, 0, 10), (4, 0, 8), (5, 0, 6), (6, 0, 6), (14, 0, 16), (15, 0, 7), (16, 0, 23), (18, 0, 255), (19, 0, 1099511627776), (20, 1, 4294967296), (21, 0, 31), (25, 1, 1), (26, 0, 1), (27, 0, 0), (28, 0, 549755813888), (29, 0, 2147483648)] [7, 8, 10, 11, 12, 13, 15, 16, 19, 20, 21, 23, 24, 25] (by decide +kernel) (fun ρ α => by
  intro r2 g2 b2 r3 g3 b3 r4 g4 b4 r5 g5 b5 r6 g6 b6 r14 g14 b14 r15 g15 b15 r16 g16 b16 r18 g18 b18 r19 g19 b19 r20 g20 b20 r21 g21 b21 r25 g25 b25 r26 g26 b26 r27 g27 b27 r28 g28 b28 r29 g29 b29 a7 h7 a8 h8 a10 h10 a11 h11 a12 h12 a13 h13 a15 h15 a16 h16 a19 h19 a20 h20 a21 h21 a23 h23 a24 h24 a25 h25 f0 f1 f2 f3 f4 f5 f6 f7 f8 f9 f10 tt
  clear f5 f7
  have e235 : PT 235 = P_kpI := pe235_20 hp
  have e238 : PT 238 = P_hlI := pe238_20 hp
  simp only [hF0, hF2, hF3, hF7, hF8, hF28, hFp_235, hFp_238, e235, e238, P_kpI, P_hlI, den_s, den_c, Int.add_zero, List.map_cons, List.map_nil, g2.eq, g3.eq, g4.eq, g5.eq, g6.eq, g14.eq, g15.eq, g16.eq, g18.eq, g19.eq, g20.eq, g21.eq, g25.eq, g26.eq, g27.eq, g28.eq, g29.eq, h7, h8, h10, h11, h12, h13, h15, h16, h19, h20, h21, h23, h24, h25] at f0 f1 f2 f3 f4 f6 f8 f9 f10 ⊢
  subst f0
  subst f1
  subst f3
  subst f4
  subst f6
  have cc3 := cmp_sp ((r19) % (2)) (0)
  have cc6 := cmp_sp (r20) (1)
  omega)
def w_xo_word_1_7 : VC := (([(0, 23), (0, 49), (1, 8), (0, 10), (0, 8), (0, 6), (0, 6), (0, 8), (0, 9), (0, 49), (0, 49), ((-2147483648), 2147483647), ((-2147483648), 2147483647), (0, 5), (0, 16), (0, 7), (0, 23), (0, 1), (0, 255), (0, 1099511627776), (1, 4294967296), (0, 31), (0, 49), (0, 49), ((-2147483648), 2147483647), (1, 1), (0, 1), (0, 0), (0, 549755813888), (0, 2147483648)]), [(7, [(some 29, 0), (some 20, 0), (none, 2)], []), (7, [(some 28, 0), (some 19, 0), (none, 2)], []), (0, [(some 27, 0), (none, 0)], []), (28, [(some 27, 0), (some 26, 0), (none, 0)], []), (8, [(some 26, 0), (some 19, 0), (none, 2)], []), (2, [(none, 0), (some 25, 0)], []), (28, [(some 25, 0), (some 20, 0), (none, 1)], []), (2, [(some 21, 0), (none, 32)], []), (238, [(some 19, 0), (some 20, 0), (some 21, 0), (some 14, 0), (some 18, 0), (some 16, 0), (some 15, 0), (some 2, 0), (some 3, 0), (some 4, 0), (some 5, 0), (some 6, 0)], [7, 8, 10, 11, 12, 13, 15, 16, 19, 20, 21, 23, 24, 25]), (235, [(some 18, 0), (some 4, 0), (some 15, 0), (some 3, 0)], [16, 10]), (2, [(some 15, 0), (some 2, 0)], [])], (3, [(none, 4294967296), (some 29, 0)], []))
set_option maxRecDepth 20000 in
theorem v_xo_word_1_7 {PT : PTy} (hp : HP20 PT) : vcOk PT w_xo_word_1_7 := vc_iv [(2, 1, 8), (3, 0, 10), (4, 0, 8), (5, 0, 6), (6, 0, 6), (14, 0, 16), (15, 0, 7), (16, 0, 23), (18, 0, 255), (19, 0, 1099511627776), (20, 1, 4294967296), (21, 0, 31), (25, 1, 1), (26, 0, 1), (27, 0, 0), (28, 0, 549755813888), (29, 0, 2147483648)] [7, 8, 10, 11, 12, 13, 15, 16, 19, 20, 21, 23, 24, 25] (by decide +kernel) (fun ρ α => by
  intro r2 g2 b2 r3 g3 b3 r4 g4 b4 r5 g5 b5 r6 g6 b6 r14 g14 b14 r15 g15 b15 r16 g16 b16 r18 g18 b18 r19 g19 b19 r20 g20 b20 r21 g21 b21 r25 g25 b25 r26 g26 b26 r27 g27 b27 r28 g28 b28 r29 g29 b29 a7 h7 a8 h8 a10 h10 a11 h11 a12 h12 a13 h13 a15 h15 a16 h16 a19 h19 a20 h20 a21 h21 a23 h23 a24 h24 a25 h25 f0 f1 f2 f3 f4 f5 f6 f7 f8 f9 f10 tt
  clear f5 f7
  have e235 : PT 235 = P_kpI := pe235_20 hp
  have e238 : PT 238 = P_hlI := pe238_20 hp
  simp only [hF0, hF2, hF3, hF7, hF8, hF28, hFp_235, hFp_238, e235, e238, P_kpI, P_hlI, den_s, den_c, Int.add_zero, List.map_cons, List.map_nil, g2.eq, g3.eq, g4.eq, g5.eq, g6.eq, g14.eq, g15.eq, g16.eq, g18.eq, g19.eq, g20.eq, g21.eq, g25.eq, g26.eq, g27.eq, g28.eq, g29.eq, h7, h8, h10, h11, h12, h13, h15, h16, h19, h20, h21, h23, h24, h25] at f0 f1 f2 f3 f4 f6 f8 f9 f10 ⊢
  subst f0
  subst f1
  subst f3
  subst f4
  subst f6
  have cc3 := cmp_sp ((r19) % (2)) (0)
  have cc6 := cmp_sp (r20) (1)
  omega)
def w_xo_word_1_8 : VC := (([(0, 23), (0, 49), (1, 8), (0, 10), (0, 8), (0, 6), (0, 6), (0, 8), (0, 9), (0, 49), (0, 49), ((-2147483648), 2147483647), ((-2147483648), 2147483647), (0, 5), (0, 16), (0, 7), (0, 23), (0, 1), (0, 255), (0, 1099511627776), (1, 4294967296), (0, 31), (0, 49), (0, 49), ((-2147483648), 2147483647), (1, 1), (0, 1), (0, 0), (0, 549755813888), (0, 2147483648)]), [(7, [(some 29, 0), (some 20, 0), (none, 2)], []), (7, [(some 28, 0), (some 19, 0), (none, 2)], []), (0, [(some 27, 0), (none, 0)], []), (28, [(some 27, 0), (some 26, 0), (none, 0)], []), (8, [(some 26, 0), (some 19, 0), (none, 2)], []), (2, [(none, 0), (some 25, 0)], []), (28, [(some 25, 0), (some 20, 0), (none, 1)], []), (2, [(some 21, 0), (none, 32)], []), (238, [(some 19, 0), (some 20, 0), (some 21, 0), (some 14, 0), (some 18, 0), (some 16, 0), (some 15, 0), (some 2, 0), (some 3, 0), (some 4, 0), (some 5, 0), (some 6, 0)], [7, 8, 10, 11, 12, 13, 15, 16, 19, 20, 21, 23, 24, 25]), (235, [(some 18, 0), (some 4, 0), (some 15, 0), (some 3, 0)], [16, 10]), (2, [(some 15, 0), (some 2, 0)], [])], (238, [(some 28, 0), (some 29, 0), (some 21, 1), (some 14, 0), (some 18, 0), (some 16, 0), (some 15, 0), (some 2, 0), (some 3, 0), (some 4, 0), (some 5, 0), (some 6, 0)], [7, 8, 10, 11, 12, 13, 15, 16, 19, 20, 21, 23, 24, 25]))
set_option maxRecDepth 20000 in
theorem v_xo_word_1_8 {PT : PTy} (hp : HP20 PT) : vcOk PT w_xo_word_1_8 := vc_iv [(2, 1, 8), (3, 0, 10), (4, 0, 8), (5, 0, 6), (6, 0, 6), (14, 0, 16), (15, 0, 7), (16, 0, 23), (18, 0, 255), (19, 0, 1099511627776), (20, 1, 4294967296), (21, 0, 31), (25, 1, 1), (26, 0, 1), (27, 0, 0), (28, 0, 549755813888), (29, 0, 2147483648)] [7, 8, 10, 11, 12, 13, 15, 16, 19, 20, 21, 23, 24, 25] (by decide +kernel) (fun ρ α => by
  intro r2 g2 b2 r3 g3 b3 r4 g4 b4 r5 g5 b5 r6 g6 b6 r14 g14 b14 r15 g15 b15 r16 g16 b16 r18 g18 b18 r19 g19 b19 r20 g20 b20 r21 g21 b21 r25 g25 b25 r26 g26 b26 r27 g27 b27 r28 g28 b28 r29 g29 b29 a7 h7 a8 h8 a10 h10 a11 h11 a12 h12 a13 h13 a15 h15 a16 h16 a19 h19 a20 h20 a21 h21 a23 h23 a24 h24 a25 h25 f0 f1 f2 f3 f4 f5 f6 f7 f8 f9 f10 tt
  clear f5 f7
  have e235 : PT 235 = P_kpI := pe235_20 hp
  have e238 : PT 238 = P_hlI := pe238_20 hp
  simp only [hF0, hF2, hF7, hF8, hF28, hFp_235, hFp_238, e235, e238, P_kpI, P_hlI, den_s, den_c, Int.add_zero, List.map_cons, List.map_nil, g2.eq, g3.eq, g4.eq, g5.eq, g6.eq, g14.eq, g15.eq, g16.eq, g18.eq, g19.eq, g20.eq, g21.eq, g25.eq, g26.eq, g27.eq, g28.eq, g29.eq, h7, h8, h10, h11, h12, h13, h15, h16, h19, h20, h21, h23, h24, h25] at f0 f1 f2 f3 f4 f6 f8 f9 f10 ⊢
  subst f0
  subst f1
  subst f3
  subst f4
  subst f6
  obtain ⟨G, hG, ha, hb⟩ := f8
  have cc3 := cmp_sp ((r19) % (2)) (0)
  have cc6 := cmp_sp (r20) (1)
  have e : (2 : Int) ^ (r21 + 1).toNat = 2 * 2 ^ (r21).toNat := by
    rw [show (r21 + 1).toNat = (r21).toNat + 1 by omega, Int.pow_succ, Int.mul_comm]
  have hP := hb
  refine ⟨G, hG, ?_, ?_⟩
  · rw [e, ← Int.mul_assoc, show r19 / 2 * 2 = r19 by omega]; exact ha
  · rw [e, ← Int.mul_assoc, show r20 / 2 * 2 = r20 from even_of hb (by omega) (by omega)]; exact hb)
def w_xo_word_2_0 : VC := (([(0, 23), (0, 49), (1, 8), (0, 10), (0, 8), (0, 6), (0, 6), (0, 8), (0, 9), (0, 49), (0, 49), ((-2147483648), 2147483647), ((-2147483648), 2147483647), (0, 5), (0, 16), (0, 7), (0, 23), (0, 1), (0, 255), (0, 1099511627776), (1, 4294967296), (256, 256), (0, 49), (0, 49), ((-2147483648), 2147483647)]), [(3, [(some 21, 0), (none, 256)], []), (150, [(some 22, 0), (some 2, 0), (some 3, 0), (some 4, 0), (some 5, 0), (some 6, 0)], [58, 59, 7, 8, 10, 11, 12, 13, 15, 16, 19, 20, 21, 23, 24, 25]), (237, [(some 19, 0), (some 21, 0), (some 14, 0), (some 18, 0), (some 16, 0), (some 15, 0), (some 2, 0), (some 3, 0), (some 4, 0), (some 5, 0), (some 6, 0)], [7, 8, 10, 11, 12, 13, 15, 16, 19, 20, 21, 23, 24, 25]), (235, [(some 18, 0), (some 4, 0), (some 15, 0), (some 3, 0)], [16, 10]), (239, [(some 20, 0), (some 18, 0)], []), (2, [(some 15, 0), (some 2, 0)], [])], (238, [(some 19, 0), (some 20, 0), (none, 0), (some 14, 0), (some 18, 0), (some 16, 0), (some 15, 0), (some 2, 0), (some 3, 0), (some 4, 0), (some 5, 0), (some 6, 0)], [7, 8, 10, 11, 12, 13, 15, 16, 19, 20, 21, 23, 24, 25]))
set_option maxRecDepth 20000 in
theorem v_xo_word_2_0 {PT : PTy} (hp : HP20 PT) : vcOk PT w_xo_word_2_0 := vc_iv [(2, 1, 8), (3, 0, 10), (4, 0, 8), (5, 0, 6), (6, 0, 6), (14, 0, 16), (15, 0, 7), (16, 0, 23), (18, 0, 255), (19, 0, 1099511627776), (20, 1, 4294967296), (21, 256, 256), (22, 0, 49)] [7, 8, 10, 11, 12, 13, 15, 16, 19, 20, 21, 23, 24, 25, 58, 59] (by decide +kernel) (fun ρ α => by
  intro r2 g2 b2 r3 g3 b3 r4 g4 b4 r5 g5 b5 r6 g6 b6 r14 g14 b14 r15 g15 b15 r16 g16 b16 r18 g18 b18 r19 g19 b19 r20 g20 b20 r21 g21 b21 r22 g22 b22 a7 h7 a8 h8 a10 h10 a11 h11 a12 h12 a13 h13 a15 h15 a16 h16 a19 h19 a20 h20 a21 h21 a23 h23 a24 h24 a25 h25 a58 h58 a59 h59 f0 f1 f2 f3 f4 f5 tt
  clear f0
  have e150 : PT 150 = P_ar2 := pe150_20 hp
  have e235 : PT 235 = P_kpI := pe235_20 hp
  have e237 : PT 237 = P_wcI := pe237_20 hp
  have e238 : PT 238 = P_hlI := pe238_20 hp
  have e239 : PT 239 = P_pwI := pe239_20 hp
  simp only [hF2, hFp_150, hFp_235, hFp_237, hFp_238, hFp_239, e150, e235, e237, e238, e239, P_ar2, P_kpI, P_wcI, P_hlI, P_pwI, den_s, den_c, Int.add_zero, List.map_cons, List.map_nil, g2.eq, g3.eq, g4.eq, g5.eq, g6.eq, g14.eq, g15.eq, g16.eq, g18.eq, g19.eq, g20.eq, g21.eq, g22.eq, h7, h8, h10, h11, h12, h13, h15, h16, h19, h20, h21, h23, h24, h25, h58, h59] at f1 f2 f3 f4 f5 ⊢
  obtain ⟨G, hG, hs⟩ := f2
  have hp2 := f4
  rw [show r21 = 256 by omega] at hs hG
  exact ⟨G, hG, by rw [show (2 : Int) ^ (0 : Int).toNat = 1 from rfl, Int.mul_one]; exact hs, by rw [show (2 : Int) ^ (0 : Int).toNat = 1 from rfl, Int.mul_one]; exact hp2⟩)
def w_xo_word_2_1 : VC := (([(0, 23), (0, 49), (1, 8), (0, 10), (0, 8), (0, 6), (0, 6), (0, 8), (0, 9), (0, 49), (0, 49), ((-2147483648), 2147483647), ((-2147483648), 2147483647), (0, 5), (0, 16), (0, 7), (0, 23), (0, 1), (0, 255), (0, 1099511627776), (1, 4294967296), (0, 255), (0, 49), (0, 49), ((-2147483648), 2147483647), ((-2147483648), 2147483647), ((-2147483648), 2147483647)]), [(1, [(some 26, 0), (none, 0)], []), (10, [(some 26, 0), (some 21, 0), (some 25, 0)], []), (12, [(some 25, 0), (some 18, 0), (none, (-1))], []), (2, [(some 21, 0), (none, 256)], []), (150, [(some 22, 0), (some 2, 0), (some 3, 0), (some 4, 0), (some 5, 0), (some 6, 0)], [58, 59, 7, 8, 10, 11, 12, 13, 15, 16, 19, 20, 21, 23, 24, 25]), (237, [(some 19, 0), (some 21, 0), (some 14, 0), (some 18, 0), (some 16, 0), (some 15, 0), (some 2, 0), (some 3, 0), (some 4, 0), (some 5, 0), (some 6, 0)], [7, 8, 10, 11, 12, 13, 15, 16, 19, 20, 21, 23, 24, 25]), (235, [(some 18, 0), (some 4, 0), (some 15, 0), (some 3, 0)], [16, 10]), (239, [(some 20, 0), (some 18, 0)], []), (2, [(some 15, 0), (some 2, 0)], [])], (237, [(some 19, 0), (some 21, 1), (some 14, 0), (some 18, 0), (some 16, 0), (some 15, 0), (some 2, 0), (some 3, 0), (some 4, 0), (some 5, 0), (some 6, 0)], [7, 8, 10, 11, 12, 13, 15, 16, 19, 20, 21, 23, 24, 25]))
set_option maxRecDepth 20000 in
theorem v_xo_word_2_1 {PT : PTy} (hp : HP20 PT) : vcOk PT w_xo_word_2_1 := vc_iv [(2, 1, 8), (3, 0, 10), (4, 0, 8), (5, 0, 6), (6, 0, 6), (14, 0, 16), (15, 0, 7), (16, 0, 23), (18, 0, 255), (19, 0, 1099511627776), (20, 1, 4294967296), (21, 0, 255), (22, 0, 49), (25, (-2147483648), 2147483647), (26, (-2147483648), 2147483647)] [7, 8, 10, 11, 12, 13, 15, 16, 19, 20, 21, 23, 24, 25, 58, 59] (by decide +kernel) (fun ρ α => by
  intro r2 g2 b2 r3 g3 b3 r4 g4 b4 r5 g5 b5 r6 g6 b6 r14 g14 b14 r15 g15 b15 r16 g16 b16 r18 g18 b18 r19 g19 b19 r20 g20 b20 r21 g21 b21 r22 g22 b22 r25 g25 b25 r26 g26 b26 a7 h7 a8 h8 a10 h10 a11 h11 a12 h12 a13 h13 a15 h15 a16 h16 a19 h19 a20 h20 a21 h21 a23 h23 a24 h24 a25 h25 a58 h58 a59 h59 f0 f1 f2 f3 f4 f5 f6 f7 f8 tt
  clear f3
  have e150 : PT 150 = P_ar2 := pe150_20 hp
  have e235 : PT 235 = P_kpI := pe235_20 hp
  have e237 : PT 237 = P_wcI := pe237_20 hp
  have e239 : PT 239 = P_pwI := pe239_20 hp
  simp only [hF1, hF2, hF10, hF12, hFp_150, hFp_235, hFp_237, hFp_239, e150, e235, e237, e239, P_ar2, P_kpI, P_wcI, P_pwI, den_s, den_c, Int.add_zero, List.map_cons, List.map_nil, g2.eq, g3.eq, g4.eq, g5.eq, g6.eq, g14.eq, g15.eq, g16.eq, g18.eq, g19.eq, g20.eq, g21.eq, g22.eq, g25.eq, g26.eq, h7, h8, h10, h11, h12, h13, h15, h16, h19, h20, h21, h23, h24, h25, h58, h59] at f0 f1 f2 f4 f5 f6 f7 f8 ⊢
  subst f1
  subst f2
  obtain ⟨G, hG, hs⟩ := f5
  refine ⟨G, fun i h1 h2 h3 => ?_, ?_⟩
  · by_cases q : i = r21
    · subst q; exact absurd h3 f0
    · exact hG i h1 (by omega) h3
  · rw [smC_s (by omega), if_neg (fun w => f0 w.1)]
    exact hs)
def w_xo_word_2_2 : VC := (([(0, 23), (0, 49), (1, 8), (0, 10), (0, 8), (0, 6), (0, 6), (0, 8), (0, 9), (0, 49), (0, 49), ((-2147483648), 2147483647), ((-2147483648), 2147483647), (0, 5), (0, 16), (0, 7), (0, 23), (0, 1), (0, 255), (0, 1099511627776), (1, 4294967296), (0, 255), (0, 49), (0, 49), ((-2147483648), 2147483647), ((-2147483648), 2147483647), (0, 0)]), [(89, [], [8, 63, 64, 65]), (0, [(some 26, 0), (none, 0)], []), (10, [(some 26, 0), (some 21, 0), (some 25, 0)], []), (12, [(some 25, 0), (some 18, 0), (none, (-1))], []), (2, [(some 21, 0), (none, 256)], []), (150, [(some 22, 0), (some 2, 0), (some 3, 0), (some 4, 0), (some 5, 0), (some 6, 0)], [58, 59, 7, 8, 10, 11, 12, 13, 15, 16, 19, 20, 21, 23, 24, 25]), (237, [(some 19, 0), (some 21, 0), (some 14, 0), (some 18, 0), (some 16, 0), (some 15, 0), (some 2, 0), (some 3, 0), (some 4, 0), (some 5, 0), (some 6, 0)], [7, 8, 10, 11, 12, 13, 15, 16, 19, 20, 21, 23, 24, 25]), (235, [(some 18, 0), (some 4, 0), (some 15, 0), (some 3, 0)], [16, 10]), (239, [(some 20, 0), (some 18, 0)], []), (2, [(some 15, 0), (some 2, 0)], [])], (87, [(some 22, 0)], [58, 59]))
theorem pe87_20 {PT : PTy} (hp : HP20 PT) : PT 87 = P_pr := hp.1.1.1.1.1.1.1.1.1.1.1.1.1.1.1.1.1.2.2.2.2.2.2.2.2.1
theorem pe89_20 {PT : PTy} (hp : HP20 PT) : PT 89 = P_bg := hp.1.1.1.1.1.1.1.1.1.1.1.1.1.1.1.1.1.2.2.2.2.2.2.2.2.2.2.1
set_option maxRecDepth 20000 in
theorem v_xo_word_2_2 {PT : PTy} (hp : HP20 PT) : vcOk PT w_xo_word_2_2 := vc_iv [(2, 1, 8), (3, 0, 10), (4, 0, 8), (5, 0, 6), (6, 0, 6), (14, 0, 16), (15, 0, 7), (16, 0, 23), (18, 0, 255), (19, 0, 1099511627776), (20, 1, 4294967296), (21, 0, 255), (22, 0, 49), (25, (-2147483648), 2147483647), (26, 0, 0)] [7, 8, 10, 11, 12, 13, 15, 16, 19, 20, 21, 23, 24, 25, 58, 59, 63, 64, 65] (by decide +kernel) (fun ρ α => by
  intro r2 g2 b2 r3 g3 b3 r4 g4 b4 r5 g5 b5 r6 g6 b6 r14 g14 b14 r15 g15 b15 r16 g16 b16 r18 g18 b18 r19 g19 b19 r20 g20 b20 r21 g21 b21 r22 g22 b22 r25 g25 b25 r26 g26 b26 a7 h7 a8 h8 a10 h10 a11 h11 a12 h12 a13 h13 a15 h15 a16 h16 a19 h19 a20 h20 a21 h21 a23 h23 a24 h24 a25 h25 a58 h58 a59 h59 a63 h63 a64 h64 a65 h65 f0 f1 f2 f3 f4 f5 f6 f7 f8 f9 tt
  clear f4
  have e87 : PT 87 = P_pr := pe87_20 hp
  have e89 : PT 89 = P_bg := pe89_20 hp
  have e150 : PT 150 = P_ar2 := pe150_20 hp
  have e235 : PT 235 = P_kpI := pe235_20 hp
  have e237 : PT 237 = P_wcI := pe237_20 hp
  have e239 : PT 239 = P_pwI := pe239_20 hp
  simp only [hF0, hF2, hF10, hF12, hFp_87, hFp_89, hFp_150, hFp_235, hFp_237, hFp_239, e87, e89, e150, e235, e237, e239, P_pr, P_bg, P_ar2, P_kpI, P_wcI, P_pwI, den_s, den_c, Int.add_zero, List.map_cons, List.map_nil, g2.eq, g3.eq, g4.eq, g5.eq, g6.eq, g14.eq, g15.eq, g16.eq, g18.eq, g19.eq, g20.eq, g21.eq, g22.eq, g25.eq, g26.eq, h7, h8, h10, h11, h12, h13, h15, h16, h19, h20, h21, h23, h24, h25, h58, h59, h63, h64, h65] at f0 f1 f2 f3 f5 f6 f7 f8 f9 ⊢
  subst f2
  subst f3
  exact (f5).1)
def w_xo_word_2_3 : VC := (([(0, 23), (0, 49), (1, 8), (0, 10), (0, 8), (0, 6), (0, 6), (0, 8), (0, 9), (0, 49), (0, 49), ((-2147483648), 2147483647), ((-2147483648), 2147483647), (0, 5), (0, 16), (0, 7), (0, 23), (0, 1), (0, 255), (0, 1099511627776), (1, 4294967296), (0, 255), (0, 49), (0, 49), ((-2147483648), 2147483647), ((-2147483648), 2147483647), (0, 0), (0, 49), (0, 99), (0, 9), (0, 0), (0, 4294967296), (0, 1103806595072)]), [(4, [(some 32, 0), (some 19, 0), (some 31, 0)], []), (236, [(some 31, 0), (none, 8), (some 14, 0), (some 18, 0), (some 21, 0)], []), (1, [(none, 1), (none, 0)], []), (0, [(some 30, 0), (none, 0)], []), (5, [(some 30, 0), (some 28, 0), (some 29, 0)], []), (20, [(some 29, 0), (some 15, 0)], [8]), (20, [(some 28, 0), (some 15, 0)], [66]), (91, [(none, 0), (some 27, 0), (some 22, 0), (some 16, 0), (some 21, 0), (none, 0)], [58, 59, 7, 8, 10, 11, 16, 20, 21, 24, 25, 63, 64, 65, 66, 67, 68]), (89, [], [8, 63, 64, 65]), (0, [(some 26, 0), (none, 0)], []), (10, [(some 26, 0), (some 21, 0), (some 25, 0)], []), (12, [(some 25, 0), (some 18, 0), (none, (-1))], []), (2, [(some 21, 0), (none, 256)], []), (150, [(some 22, 0), (some 2, 0), (some 3, 0), (some 4, 0), (some 5, 0), (some 6, 0)], [58, 59, 7, 8, 10, 11, 12, 13, 15, 16, 19, 20, 21, 23, 24, 25]), (237, [(some 19, 0), (some 21, 0), (some 14, 0), (some 18, 0), (some 16, 0), (some 15, 0), (some 2, 0), (some 3, 0), (some 4, 0), (some 5, 0), (some 6, 0)], [7, 8, 10, 11, 12, 13, 15, 16, 19, 20, 21, 23, 24, 25]), (235, [(some 18, 0), (some 4, 0), (some 15, 0), (some 3, 0)], [16, 10]), (239, [(some 20, 0), (some 18, 0)], []), (2, [(some 15, 0), (some 2, 0)], [])], (3, [(some 32, 0), (none, 0)], []))
theorem pe91_20 {PT : PTy} (hp : HP20 PT) : PT 91 = P_adE := hp.1.1.1.1.1.1.1.1.1.1.1.1.1.1.1.1.1.2.2.2.2.2.2.2.2.2.2.2.2.1
set_option maxRecDepth 20000 in
theorem v_xo_word_2_3 {PT : PTy} (hp : HP20 PT) : vcOk PT w_xo_word_2_3 := vc_iv [(2, 1, 8), (3, 0, 10), (4, 0, 8), (5, 0, 6), (6, 0, 6), (14, 0, 16), (15, 0, 7), (16, 0, 23), (18, 0, 255), (19, 0, 1099511627776), (20, 1, 4294967296), (21, 0, 255), (22, 0, 49), (25, (-2147483648), 2147483647), (26, 0, 0), (27, 0, 49), (28, 0, 99), (29, 0, 9), (30, 0, 0), (31, 0, 4294967296), (32, 0, 1103806595072)] [7, 8, 10, 11, 12, 13, 15, 16, 19, 20, 21, 23, 24, 25, 58, 59, 63, 64, 65, 66, 67, 68] (by decide +kernel) (fun ρ α => by
  intro r2 g2 b2 r3 g3 b3 r4 g4 b4 r5 g5 b5 r6 g6 b6 r14 g14 b14 r15 g15 b15 r16 g16 b16 r18 g18 b18 r19 g19 b19 r20 g20 b20 r21 g21 b21 r22 g22 b22 r25 g25 b25 r26 g26 b26 r27 g27 b27 r28 g28 b28 r29 g29 b29 r30 g30 b30 r31 g31 b31 r32 g32 b32 a7 h7 a8 h8 a10 h10 a11 h11 a12 h12 a13 h13 a15 h15 a16 h16 a19 h19 a20 h20 a21 h21 a23 h23 a24 h24 a25 h25 a58 h58 a59 h59 a63 h63 a64 h64 a65 h65 a66 h66 a67 h67 a68 h68 f0 f1 f2 f3 f4 f5 f6 f7 f8 f9 f10 f11 f12 f13 f14 f15 f16 f17 tt
  clear f2 f12
  have e89 : PT 89 = P_bg := pe89_20 hp
  have e91 : PT 91 = P_adE := pe91_20 hp
  have e150 : PT 150 = P_ar2 := pe150_20 hp
  have e235 : PT 235 = P_kpI := pe235_20 hp
  have e236 : PT 236 = P_wtI := pe236_20 hp
  have e237 : PT 237 = P_wcI := pe237_20 hp
  have e239 : PT 239 = P_pwI := pe239_20 hp
  simp only [hF0, hF2, hF3, hF4, hF5, hF10, hF12, hF20, hFp_89, hFp_91, hFp_150, hFp_235, hFp_236, hFp_237, hFp_239, e89, e91, e150, e235, e236, e237, e239, P_bg, P_adE, P_ar2, P_kpI, P_wtI, P_wcI, P_pwI, den_s, den_c, Int.add_zero, List.map_cons, List.map_nil, g2.eq, g3.eq, g4.eq, g5.eq, g6.eq, g14.eq, g15.eq, g16.eq, g18.eq, g19.eq, g20.eq, g21.eq, g22.eq, g25.eq, g26.eq, g27.eq, g28.eq, g29.eq, g30.eq, g31.eq, g32.eq, h7, h8, h10, h11, h12, h13, h15, h16, h19, h20, h21, h23, h24, h25, h58, h59, h63, h64, h65, h66, h67, h68] at f0 f1 f3 f4 f5 f6 f7 f8 f9 f10 f11 f13 f14 f15 f16 f17 ⊢
  subst f0
  subst f4
  subst f5
  subst f6
  subst f10
  subst f11
  obtain ⟨G, hG, hs⟩ := f14
  have b := smC_b (c := r14) (t := r18) (G := G) (by omega) (r21).toNat
  omega)
def w_xo_word_2_4 : VC := (([(0, 23), (0, 49), (1, 8), (0, 10), (0, 8), (0, 6), (0, 6), (0, 8), (0, 9), (0, 49), (0, 49), ((-2147483648), 2147483647), ((-2147483648), 2147483647), (0, 5), (0, 16), (0, 7), (0, 23), (0, 1), (0, 255), (0, 1099511627776), (1, 4294967296), (0, 255), (0, 49), (0, 49), ((-2147483648), 2147483647), ((-2147483648), 2147483647), (0, 0), (0, 49), (0, 99), (0, 9), (0, 0), (0, 4294967296), (0, 1103806595072)]), [(4, [(some 32, 0), (some 19, 0), (some 31, 0)], []), (236, [(some 31, 0), (none, 8), (some 14, 0), (some 18, 0), (some 21, 0)], []), (1, [(none, 1), (none, 0)], []), (0, [(some 30, 0), (none, 0)], []), (5, [(some 30, 0), (some 28, 0), (some 29, 0)], []), (20, [(some 29, 0), (some 15, 0)], [8]), (20, [(some 28, 0), (some 15, 0)], [66]), (91, [(none, 0), (some 27, 0), (some 22, 0), (some 16, 0), (some 21, 0), (none, 0)], [58, 59, 7, 8, 10, 11, 16, 20, 21, 24, 25, 63, 64, 65, 66, 67, 68]), (89, [], [8, 63, 64, 65]), (0, [(some 26, 0), (none, 0)], []), (10, [(some 26, 0), (some 21, 0), (some 25, 0)], []), (12, [(some 25, 0), (some 18, 0), (none, (-1))], []), (2, [(some 21, 0), (none, 256)], []), (150, [(some 22, 0), (some 2, 0), (some 3, 0), (some 4, 0), (some 5, 0), (some 6, 0)], [58, 59, 7, 8, 10, 11, 12, 13, 15, 16, 19, 20, 21, 23, 24, 25]), (237, [(some 19, 0), (some 21, 0), (some 14, 0), (some 18, 0), (some 16, 0), (some 15, 0), (some 2, 0), (some 3, 0), (some 4, 0), (some 5, 0), (some 6, 0)], [7, 8, 10, 11, 12, 13, 15, 16, 19, 20, 21, 23, 24, 25]), (235, [(some 18, 0), (some 4, 0), (some 15, 0), (some 3, 0)], [16, 10]), (239, [(some 20, 0), (some 18, 0)], []), (2, [(some 15, 0), (some 2, 0)], [])], (3, [(none, 1099511627776), (some 32, 0)], []))
set_option maxRecDepth 20000 in
theorem v_xo_word_2_4 {PT : PTy} (hp : HP20 PT) : vcOk PT w_xo_word_2_4 := vc_iv [(2, 1, 8), (3, 0, 10), (4, 0, 8), (5, 0, 6), (6, 0, 6), (14, 0, 16), (15, 0, 7), (16, 0, 23), (18, 0, 255), (19, 0, 1099511627776), (20, 1, 4294967296), (21, 0, 255), (22, 0, 49), (25, (-2147483648), 2147483647), (26, 0, 0), (27, 0, 49), (28, 0, 99), (29, 0, 9), (30, 0, 0), (31, 0, 4294967296), (32, 0, 1103806595072)] [7, 8, 10, 11, 12, 13, 15, 16, 19, 20, 21, 23, 24, 25, 58, 59, 63, 64, 65, 66, 67, 68] (by decide +kernel) (fun ρ α => by
  intro r2 g2 b2 r3 g3 b3 r4 g4 b4 r5 g5 b5 r6 g6 b6 r14 g14 b14 r15 g15 b15 r16 g16 b16 r18 g18 b18 r19 g19 b19 r20 g20 b20 r21 g21 b21 r22 g22 b22 r25 g25 b25 r26 g26 b26 r27 g27 b27 r28 g28 b28 r29 g29 b29 r30 g30 b30 r31 g31 b31 r32 g32 b32 a7 h7 a8 h8 a10 h10 a11 h11 a12 h12 a13 h13 a15 h15 a16 h16 a19 h19 a20 h20 a21 h21 a23 h23 a24 h24 a25 h25 a58 h58 a59 h59 a63 h63 a64 h64 a65 h65 a66 h66 a67 h67 a68 h68 f0 f1 f2 f3 f4 f5 f6 f7 f8 f9 f10 f11 f12 f13 f14 f15 f16 f17 tt
  clear f2 f12
  have e89 : PT 89 = P_bg := pe89_20 hp
  have e91 : PT 91 = P_adE := pe91_20 hp
  have e150 : PT 150 = P_ar2 := pe150_20 hp
  have e235 : PT 235 = P_kpI := pe235_20 hp
  have e236 : PT 236 = P_wtI := pe236_20 hp
  have e237 : PT 237 = P_wcI := pe237_20 hp
  have e239 : PT 239 = P_pwI := pe239_20 hp
  simp only [hF0, hF2, hF3, hF4, hF5, hF10, hF12, hF20, hFp_89, hFp_91, hFp_150, hFp_235, hFp_236, hFp_237, hFp_239, e89, e91, e150, e235, e236, e237, e239, P_bg, P_adE, P_ar2, P_kpI, P_wtI, P_wcI, P_pwI, den_s, den_c, Int.add_zero, List.map_cons, List.map_nil, g2.eq, g3.eq, g4.eq, g5.eq, g6.eq, g14.eq, g15.eq, g16.eq, g18.eq, g19.eq, g20.eq, g21.eq, g22.eq, g25.eq, g26.eq, g27.eq, g28.eq, g29.eq, g30.eq, g31.eq, g32.eq, h7, h8, h10, h11, h12, h13, h15, h16, h19, h20, h21, h23, h24, h25, h58, h59, h63, h64, h65, h66, h67, h68] at f0 f1 f3 f4 f5 f6 f7 f8 f9 f10 f11 f13 f14 f15 f16 f17 ⊢
  subst f0
  subst f4
  subst f5
  subst f6
  subst f10
  subst f11
  obtain ⟨G, hG, hs⟩ := f14
  have b := smC_b (c := r14) (t := r18) (G := G) (by omega) (r21).toNat
  omega)
def w_xo_word_2_5 : VC := (([(0, 23), (0, 49), (1, 8), (0, 10), (0, 8), (0, 6), (0, 6), (0, 8), (0, 9), (0, 49), (0, 49), ((-2147483648), 2147483647), ((-2147483648), 2147483647), (0, 5), (0, 16), (0, 7), (0, 23), (0, 1), (0, 255), (0, 1099511627776), (1, 4294967296), (0, 255), (0, 49), (0, 49), ((-2147483648), 2147483647), ((-2147483648), 2147483647), (0, 0), (0, 49), (0, 99), (0, 9), (0, 0), (0, 4294967296), (0, 1103806595072)]), [(4, [(some 32, 0), (some 19, 0), (some 31, 0)], []), (236, [(some 31, 0), (none, 8), (some 14, 0), (some 18, 0), (some 21, 0)], []), (1, [(none, 1), (none, 0)], []), (0, [(some 30, 0), (none, 0)], []), (5, [(some 30, 0), (some 28, 0), (some 29, 0)], []), (20, [(some 29, 0), (some 15, 0)], [8]), (20, [(some 28, 0), (some 15, 0)], [66]), (91, [(none, 0), (some 27, 0), (some 22, 0), (some 16, 0), (some 21, 0), (none, 0)], [58, 59, 7, 8, 10, 11, 16, 20, 21, 24, 25, 63, 64, 65, 66, 67, 68]), (89, [], [8, 63, 64, 65]), (0, [(some 26, 0), (none, 0)], []), (10, [(some 26, 0), (some 21, 0), (some 25, 0)], []), (12, [(some 25, 0), (some 18, 0), (none, (-1))], []), (2, [(some 21, 0), (none, 256)], []), (150, [(some 22, 0), (some 2, 0), (some 3, 0), (some 4, 0), (some 5, 0), (some 6, 0)], [58, 59, 7, 8, 10, 11, 12, 13, 15, 16, 19, 20, 21, 23, 24, 25]), (237, [(some 19, 0), (some 21, 0), (some 14, 0), (some 18, 0), (some 16, 0), (some 15, 0), (some 2, 0), (some 3, 0), (some 4, 0), (some 5, 0), (some 6, 0)], [7, 8, 10, 11, 12, 13, 15, 16, 19, 20, 21, 23, 24, 25]), (235, [(some 18, 0), (some 4, 0), (some 15, 0), (some 3, 0)], [16, 10]), (239, [(some 20, 0), (some 18, 0)], []), (2, [(some 15, 0), (some 2, 0)], [])], (237, [(some 32, 0), (some 21, 1), (some 14, 0), (some 18, 0), (some 16, 0), (some 15, 0), (some 2, 0), (some 3, 0), (some 4, 0), (some 5, 0), (some 6, 0)], [7, 8, 10, 11, 12, 13, 15, 16, 19, 20, 21, 23, 24, 25]))
set_option maxRecDepth 20000 in
theorem v_xo_word_2_5 {PT : PTy} (hp : HP20 PT) : vcOk PT w_xo_word_2_5 := vc_iv [(2, 1, 8), (3, 0, 10), (4, 0, 8), (5, 0, 6), (6, 0, 6), (14, 0, 16), (15, 0, 7), (16, 0, 23), (18, 0, 255), (19, 0, 1099511627776), (20, 1, 4294967296), (21, 0, 255), (22, 0, 49), (25, (-2147483648), 2147483647), (26, 0, 0), (27, 0, 49), (28, 0, 99), (29, 0, 9), (30, 0, 0), (31, 0, 4294967296), (32, 0, 1103806595072)] [7, 8, 10, 11, 12, 13, 15, 16, 19, 20, 21, 23, 24, 25, 58, 59, 63, 64, 65, 66, 67, 68] (by decide +kernel) (fun ρ α => by
  intro r2 g2 b2 r3 g3 b3 r4 g4 b4 r5 g5 b5 r6 g6 b6 r14 g14 b14 r15 g15 b15 r16 g16 b16 r18 g18 b18 r19 g19 b19 r20 g20 b20 r21 g21 b21 r22 g22 b22 r25 g25 b25 r26 g26 b26 r27 g27 b27 r28 g28 b28 r29 g29 b29 r30 g30 b30 r31 g31 b31 r32 g32 b32 a7 h7 a8 h8 a10 h10 a11 h11 a12 h12 a13 h13 a15 h15 a16 h16 a19 h19 a20 h20 a21 h21 a23 h23 a24 h24 a25 h25 a58 h58 a59 h59 a63 h63 a64 h64 a65 h65 a66 h66 a67 h67 a68 h68 f0 f1 f2 f3 f4 f5 f6 f7 f8 f9 f10 f11 f12 f13 f14 f15 f16 f17 tt
  clear f2 f12
  have e89 : PT 89 = P_bg := pe89_20 hp
  have e91 : PT 91 = P_adE := pe91_20 hp
  have e150 : PT 150 = P_ar2 := pe150_20 hp
  have e235 : PT 235 = P_kpI := pe235_20 hp
  have e236 : PT 236 = P_wtI := pe236_20 hp
  have e237 : PT 237 = P_wcI := pe237_20 hp
  have e239 : PT 239 = P_pwI := pe239_20 hp
  simp only [hF0, hF2, hF4, hF5, hF10, hF12, hF20, hFp_89, hFp_91, hFp_150, hFp_235, hFp_236, hFp_237, hFp_239, e89, e91, e150, e235, e236, e237, e239, P_bg, P_adE, P_ar2, P_kpI, P_wtI, P_wcI, P_pwI, den_s, den_c, Int.add_zero, List.map_cons, List.map_nil, g2.eq, g3.eq, g4.eq, g5.eq, g6.eq, g14.eq, g15.eq, g16.eq, g18.eq, g19.eq, g20.eq, g21.eq, g22.eq, g25.eq, g26.eq, g27.eq, g28.eq, g29.eq, g30.eq, g31.eq, g32.eq, h7, h8, h10, h11, h12, h13, h15, h16, h19, h20, h21, h23, h24, h25, h58, h59, h63, h64, h65, h66, h67, h68] at f0 f1 f3 f4 f5 f6 f7 f8 f9 f10 f11 f13 f14 f15 f16 f17 ⊢
  subst f0
  subst f4
  subst f5
  subst f6
  subst f10
  subst f11
  obtain ⟨G, hG, hs⟩ := f14
  have hy := yX_by (f13).2 f8 f7
  have hw := f1
  rw [show Int.toNat 8 = 8 from rfl] at hw
  refine ⟨updI G r21 1, fun i h1 h2 h3 => ?_, ?_⟩
  · by_cases q : i = r21
    · subst q
      rw [updI_at]
      exact ⟨_, _, _, hy, Or.inl ⟨rfl, by unfold fitP; omega⟩⟩
    · rw [updI_ne q]; exact hG i h1 (by omega) h3
  · rw [smC_s (by omega), smC_up, updI_at, ← hs]
    rw [if_pos ⟨by first | exact f9 | omega, rfl⟩, ← hw])
def w_xo_word_2_6 : VC := (([(0, 23), (0, 49), (1, 8), (0, 10), (0, 8), (0, 6), (0, 6), (0, 8), (0, 9), (0, 49), (0, 49), ((-2147483648), 2147483647), ((-2147483648), 2147483647), (0, 5), (0, 16), (0, 7), (0, 23), (0, 1), (0, 255), (0, 1099511627776), (1, 4294967296), (0, 255), (0, 49), (0, 49), ((-2147483648), 2147483647), ((-2147483648), 2147483647), (0, 0), (0, 49), (0, 99), (0, 9), ((-9), 99)]), [(0, [(none, 0), (none, 0)], []), (1, [(some 30, 0), (none, 1)], []), (1, [(some 30, 0), (none, 0)], []), (5, [(some 30, 0), (some 28, 0), (some 29, 0)], []), (20, [(some 29, 0), (some 15, 0)], [8]), (20, [(some 28, 0), (some 15, 0)], [66]), (91, [(none, 0), (some 27, 0), (some 22, 0), (some 16, 0), (some 21, 0), (none, 0)], [58, 59, 7, 8, 10, 11, 16, 20, 21, 24, 25, 63, 64, 65, 66, 67, 68]), (89, [], [8, 63, 64, 65]), (0, [(some 26, 0), (none, 0)], []), (10, [(some 26, 0), (some 21, 0), (some 25, 0)], []), (12, [(some 25, 0), (some 18, 0), (none, (-1))], []), (2, [(some 21, 0), (none, 256)], []), (150, [(some 22, 0), (some 2, 0), (some 3, 0), (some 4, 0), (some 5, 0), (some 6, 0)], [58, 59, 7, 8, 10, 11, 12, 13, 15, 16, 19, 20, 21, 23, 24, 25]), (237, [(some 19, 0), (some 21, 0), (some 14, 0), (some 18, 0), (some 16, 0), (some 15, 0), (some 2, 0), (some 3, 0), (some 4, 0), (some 5, 0), (some 6, 0)], [7, 8, 10, 11, 12, 13, 15, 16, 19, 20, 21, 23, 24, 25]), (235, [(some 18, 0), (some 4, 0), (some 15, 0), (some 3, 0)], [16, 10]), (239, [(some 20, 0), (some 18, 0)], []), (2, [(some 15, 0), (some 2, 0)], [])], (237, [(some 19, 0), (some 21, 1), (some 14, 0), (some 18, 0), (some 16, 0), (some 15, 0), (some 2, 0), (some 3, 0), (some 4, 0), (some 5, 0), (some 6, 0)], [7, 8, 10, 11, 12, 13, 15, 16, 19, 20, 21, 23, 24, 25]))
set_option maxRecDepth 20000 in
theorem v_xo_word_2_6 {PT : PTy} (hp : HP20 PT) : vcOk PT w_xo_word_2_6 := vc_iv [(2, 1, 8), (3, 0, 10), (4, 0, 8), (5, 0, 6), (6, 0, 6), (14, 0, 16), (15, 0, 7), (16, 0, 23), (18, 0, 255), (19, 0, 1099511627776), (20, 1, 4294967296), (21, 0, 255), (22, 0, 49), (25, (-2147483648), 2147483647), (26, 0, 0), (27, 0, 49), (28, 0, 99), (29, 0, 9), (30, (-9), 99)] [7, 8, 10, 11, 12, 13, 15, 16, 19, 20, 21, 23, 24, 25, 58, 59, 63, 64, 65, 66, 67, 68] (by decide +kernel) (fun ρ α => by
  intro r2 g2 b2 r3 g3 b3 r4 g4 b4 r5 g5 b5 r6 g6 b6 r14 g14 b14 r15 g15 b15 r16 g16 b16 r18 g18 b18 r19 g19 b19 r20 g20 b20 r21 g21 b21 r22 g22 b22 r25 g25 b25 r26 g26 b26 r27 g27 b27 r28 g28 b28 r29 g29 b29 r30 g30 b30 a7 h7 a8 h8 a10 h10 a11 h11 a12 h12 a13 h13 a15 h15 a16 h16 a19 h19 a20 h20 a21 h21 a23 h23 a24 h24 a25 h25 a58 h58 a59 h59 a63 h63 a64 h64 a65 h65 a66 h66 a67 h67 a68 h68 f0 f1 f2 f3 f4 f5 f6 f7 f8 f9 f10 f11 f12 f13 f14 f15 f16 tt
  clear f0 f11
  have e89 : PT 89 = P_bg := pe89_20 hp
  have e91 : PT 91 = P_adE := pe91_20 hp
  have e150 : PT 150 = P_ar2 := pe150_20 hp
  have e235 : PT 235 = P_kpI := pe235_20 hp
  have e237 : PT 237 = P_wcI := pe237_20 hp
  have e239 : PT 239 = P_pwI := pe239_20 hp
  simp only [hF0, hF1, hF2, hF5, hF10, hF12, hF20, hFp_89, hFp_91, hFp_150, hFp_235, hFp_237, hFp_239, e89, e91, e150, e235, e237, e239, P_bg, P_adE, P_ar2, P_kpI, P_wcI, P_pwI, den_s, den_c, Int.add_zero, List.map_cons, List.map_nil, g2.eq, g3.eq, g4.eq, g5.eq, g6.eq, g14.eq, g15.eq, g16.eq, g18.eq, g19.eq, g20.eq, g21.eq, g22.eq, g25.eq, g26.eq, g27.eq, g28.eq, g29.eq, g30.eq, h7, h8, h10, h11, h12, h13, h15, h16, h19, h20, h21, h23, h24, h25, h58, h59, h63, h64, h65, h66, h67, h68] at f1 f2 f3 f4 f5 f6 f7 f8 f9 f10 f12 f13 f14 f15 f16 ⊢
  subst f3
  subst f4
  subst f5
  subst f9
  subst f10
  obtain ⟨G, hG, hs⟩ := f13
  have hy := yX_by (f12).2 f7 f6
  refine ⟨updI G r21 0, fun i h1 h2 h3 => ?_, ?_⟩
  · by_cases q : i = r21
    · subst q
      rw [updI_at]
      exact ⟨_, _, _, hy, Or.inr ⟨rfl, by unfold fitP; omega⟩⟩
    · rw [updI_ne q]; exact hG i h1 (by omega) h3
  · rw [smC_s (by omega), smC_up, updI_at, ← hs]
    rw [if_neg (fun w => absurd w.2 (by decide))])
def w_xo_word_2_7 : VC := (([(0, 23), (0, 49), (1, 8), (0, 10), (0, 8), (0, 6), (0, 6), (0, 8), (0, 9), (0, 49), (0, 49), ((-2147483648), 2147483647), ((-2147483648), 2147483647), (0, 5), (0, 16), (0, 7), (0, 23), (0, 1), (0, 255), (0, 1099511627776), (1, 4294967296), (0, 255), (0, 49), (0, 49), ((-2147483648), 2147483647), ((-2147483648), 2147483647), (0, 0), (0, 49), (0, 99), (0, 9), (1, 1), (0, 4294967296), (0, 1103806595072)]), [(4, [(some 32, 0), (some 19, 0), (some 31, 0)], []), (236, [(some 31, 0), (none, 8), (some 14, 0), (some 18, 0), (some 21, 0)], []), (1, [(none, 1), (none, 0)], []), (0, [(some 30, 0), (none, 1)], []), (1, [(some 30, 0), (none, 0)], []), (5, [(some 30, 0), (some 28, 0), (some 29, 0)], []), (20, [(some 29, 0), (some 15, 0)], [8]), (20, [(some 28, 0), (some 15, 0)], [66]), (91, [(none, 0), (some 27, 0), (some 22, 0), (some 16, 0), (some 21, 0), (none, 0)], [58, 59, 7, 8, 10, 11, 16, 20, 21, 24, 25, 63, 64, 65, 66, 67, 68]), (89, [], [8, 63, 64, 65]), (0, [(some 26, 0), (none, 0)], []), (10, [(some 26, 0), (some 21, 0), (some 25, 0)], []), (12, [(some 25, 0), (some 18, 0), (none, (-1))], []), (2, [(some 21, 0), (none, 256)], []), (150, [(some 22, 0), (some 2, 0), (some 3, 0), (some 4, 0), (some 5, 0), (some 6, 0)], [58, 59, 7, 8, 10, 11, 12, 13, 15, 16, 19, 20, 21, 23, 24, 25]), (237, [(some 19, 0), (some 21, 0), (some 14, 0), (some 18, 0), (some 16, 0), (some 15, 0), (some 2, 0), (some 3, 0), (some 4, 0), (some 5, 0), (some 6, 0)], [7, 8, 10, 11, 12, 13, 15, 16, 19, 20, 21, 23, 24, 25]), (235, [(some 18, 0), (some 4, 0), (some 15, 0), (some 3, 0)], [16, 10]), (239, [(some 20, 0), (some 18, 0)], []), (2, [(some 15, 0), (some 2, 0)], [])], (3, [(some 32, 0), (none, 0)], []))
set_option maxRecDepth 20000 in
theorem v_xo_word_2_7 {PT : PTy} (hp : HP20 PT) : vcOk PT w_xo_word_2_7 := vc_iv [(2, 1, 8), (3, 0, 10), (4, 0, 8), (5, 0, 6), (6, 0, 6), (14, 0, 16), (15, 0, 7), (16, 0, 23), (18, 0, 255), (19, 0, 1099511627776), (20, 1, 4294967296), (21, 0, 255), (22, 0, 49), (25, (-2147483648), 2147483647), (26, 0, 0), (27, 0, 49), (28, 0, 99), (29, 0, 9), (30, 1, 1), (31, 0, 4294967296), (32, 0, 1103806595072)] [7, 8, 10, 11, 12, 13, 15, 16, 19, 20, 21, 23, 24, 25, 58, 59, 63, 64, 65, 66, 67, 68] (by decide +kernel) (fun ρ α => by
  intro r2 g2 b2 r3 g3 b3 r4 g4 b4 r5 g5 b5 r6 g6 b6 r14 g14 b14 r15 g15 b15 r16 g16 b16 r18 g18 b18 r19 g19 b19 r20 g20 b20 r21 g21 b21 r22 g22 b22 r25 g25 b25 r26 g26 b26 r27 g27 b27 r28 g28 b28 r29 g29 b29 r30 g30 b30 r31 g31 b31 r32 g32 b32 a7 h7 a8 h8 a10 h10 a11 h11 a12 h12 a13 h13 a15 h15 a16 h16 a19 h19 a20 h20 a21 h21 a23 h23 a24 h24 a25 h25 a58 h58 a59 h59 a63 h63 a64 h64 a65 h65 a66 h66 a67 h67 a68 h68 f0 f1 f2 f3 f4 f5 f6 f7 f8 f9 f10 f11 f12 f13 f14 f15 f16 f17 f18 tt
  clear f2 f4 f13
  have e89 : PT 89 = P_bg := pe89_20 hp
  have e91 : PT 91 = P_adE := pe91_20 hp
  have e150 : PT 150 = P_ar2 := pe150_20 hp
  have e235 : PT 235 = P_kpI := pe235_20 hp
  have e236 : PT 236 = P_wtI := pe236_20 hp
  have e237 : PT 237 = P_wcI := pe237_20 hp
  have e239 : PT 239 = P_pwI := pe239_20 hp
  simp only [hF0, hF2, hF3, hF4, hF5, hF10, hF12, hF20, hFp_89, hFp_91, hFp_150, hFp_235, hFp_236, hFp_237, hFp_239, e89, e91, e150, e235, e236, e237, e239, P_bg, P_adE, P_ar2, P_kpI, P_wtI, P_wcI, P_pwI, den_s, den_c, Int.add_zero, List.map_cons, List.map_nil, g2.eq, g3.eq, g4.eq, g5.eq, g6.eq, g14.eq, g15.eq, g16.eq, g18.eq, g19.eq, g20.eq, g21.eq, g22.eq, g25.eq, g26.eq, g27.eq, g28.eq, g29.eq, g30.eq, g31.eq, g32.eq, h7, h8, h10, h11, h12, h13, h15, h16, h19, h20, h21, h23, h24, h25, h58, h59, h63, h64, h65, h66, h67, h68] at f0 f1 f3 f5 f6 f7 f8 f9 f10 f11 f12 f14 f15 f16 f17 f18 ⊢
  subst f0
  subst f5
  subst f6
  subst f7
  subst f11
  subst f12
  obtain ⟨G, hG, hs⟩ := f15
  have b := smC_b (c := r14) (t := r18) (G := G) (by omega) (r21).toNat
  omega)
def w_xo_word_2_8 : VC := (([(0, 23), (0, 49), (1, 8), (0, 10), (0, 8), (0, 6), (0, 6), (0, 8), (0, 9), (0, 49), (0, 49), ((-2147483648), 2147483647), ((-2147483648), 2147483647), (0, 5), (0, 16), (0, 7), (0, 23), (0, 1), (0, 255), (0, 1099511627776), (1, 4294967296), (0, 255), (0, 49), (0, 49), ((-2147483648), 2147483647), ((-2147483648), 2147483647), (0, 0), (0, 49), (0, 99), (0, 9), (1, 1), (0, 4294967296), (0, 1103806595072)]), [(4, [(some 32, 0), (some 19, 0), (some 31, 0)], []), (236, [(some 31, 0), (none, 8), (some 14, 0), (some 18, 0), (some 21, 0)], []), (1, [(none, 1), (none, 0)], []), (0, [(some 30, 0), (none, 1)], []), (1, [(some 30, 0), (none, 0)], []), (5, [(some 30, 0), (some 28, 0), (some 29, 0)], []), (20, [(some 29, 0), (some 15, 0)], [8]), (20, [(some 28, 0), (some 15, 0)], [66]), (91, [(none, 0), (some 27, 0), (some 22, 0), (some 16, 0), (some 21, 0), (none, 0)], [58, 59, 7, 8, 10, 11, 16, 20, 21, 24, 25, 63, 64, 65, 66, 67, 68]), (89, [], [8, 63, 64, 65]), (0, [(some 26, 0), (none, 0)], []), (10, [(some 26, 0), (some 21, 0), (some 25, 0)], []), (12, [(some 25, 0), (some 18, 0), (none, (-1))], []), (2, [(some 21, 0), (none, 256)], []), (150, [(some 22, 0), (some 2, 0), (some 3, 0), (some 4, 0), (some 5, 0), (some 6, 0)], [58, 59, 7, 8, 10, 11, 12, 13, 15, 16, 19, 20, 21, 23, 24, 25]), (237, [(some 19, 0), (some 21, 0), (some 14, 0), (some 18, 0), (some 16, 0), (some 15, 0), (some 2, 0), (some 3, 0), (some 4, 0), (some 5, 0), (some 6, 0)], [7, 8, 10, 11, 12, 13, 15, 16, 19, 20, 21, 23, 24, 25]), (235, [(some 18, 0), (some 4, 0), (some 15, 0), (some 3, 0)], [16, 10]), (239, [(some 20, 0), (some 18, 0)], []), (2, [(some 15, 0), (some 2, 0)], [])], (3, [(none, 1099511627776), (some 32, 0)], []))
set_option maxRecDepth 20000 in
theorem v_xo_word_2_8 {PT : PTy} (hp : HP20 PT) : vcOk PT w_xo_word_2_8 := vc_iv [(2, 1, 8), (3, 0, 10), (4, 0, 8), (5, 0, 6), (6, 0, 6), (14, 0, 16), (15, 0, 7), (16, 0, 23), (18, 0, 255), (19, 0, 1099511627776), (20, 1, 4294967296), (21, 0, 255), (22, 0, 49), (25, (-2147483648), 2147483647), (26, 0, 0), (27, 0, 49), (28, 0, 99), (29, 0, 9), (30, 1, 1), (31, 0, 4294967296), (32, 0, 1103806595072)] [7, 8, 10, 11, 12, 13, 15, 16, 19, 20, 21, 23, 24, 25, 58, 59, 63, 64, 65, 66, 67, 68] (by decide +kernel) (fun ρ α => by
  intro r2 g2 b2 r3 g3 b3 r4 g4 b4 r5 g5 b5 r6 g6 b6 r14 g14 b14 r15 g15 b15 r16 g16 b16 r18 g18 b18 r19 g19 b19 r20 g20 b20 r21 g21 b21 r22 g22 b22 r25 g25 b25 r26 g26 b26 r27 g27 b27 r28 g28 b28 r29 g29 b29 r30 g30 b30 r31 g31 b31 r32 g32 b32 a7 h7 a8 h8 a10 h10 a11 h11 a12 h12 a13 h13 a15 h15 a16 h16 a19 h19 a20 h20 a21 h21 a23 h23 a24 h24 a25 h25 a58 h58 a59 h59 a63 h63 a64 h64 a65 h65 a66 h66 a67 h67 a68 h68 f0 f1 f2 f3 f4 f5 f6 f7 f8 f9 f10 f11 f12 f13 f14 f15 f16 f17 f18 tt
  clear f2 f4 f13
  have e89 : PT 89 = P_bg := pe89_20 hp
  have e91 : PT 91 = P_adE := pe91_20 hp
  have e150 : PT 150 = P_ar2 := pe150_20 hp
  have e235 : PT 235 = P_kpI := pe235_20 hp
  have e236 : PT 236 = P_wtI := pe236_20 hp
  have e237 : PT 237 = P_wcI := pe237_20 hp
  have e239 : PT 239 = P_pwI := pe239_20 hp
  simp only [hF0, hF2, hF3, hF4, hF5, hF10, hF12, hF20, hFp_89, hFp_91, hFp_150, hFp_235, hFp_236, hFp_237, hFp_239, e89, e91, e150, e235, e236, e237, e239, P_bg, P_adE, P_ar2, P_kpI, P_wtI, P_wcI, P_pwI, den_s, den_c, Int.add_zero, List.map_cons, List.map_nil, g2.eq, g3.eq, g4.eq, g5.eq, g6.eq, g14.eq, g15.eq, g16.eq, g18.eq, g19.eq, g20.eq, g21.eq, g22.eq, g25.eq, g26.eq, g27.eq, g28.eq, g29.eq, g30.eq, g31.eq, g32.eq, h7, h8, h10, h11, h12, h13, h15, h16, h19, h20, h21, h23, h24, h25, h58, h59, h63, h64, h65, h66, h67, h68] at f0 f1 f3 f5 f6 f7 f8 f9 f10 f11 f12 f14 f15 f16 f17 f18 ⊢
  subst f0
  subst f5
  subst f6
  subst f7
  subst f11
  subst f12
  obtain ⟨G, hG, hs⟩ := f15
  have b := smC_b (c := r14) (t := r18) (G := G) (by omega) (r21).toNat
  omega)
def w_xo_word_2_9 : VC := (([(0, 23), (0, 49), (1, 8), (0, 10), (0, 8), (0, 6), (0, 6), (0, 8), (0, 9), (0, 49), (0, 49), ((-2147483648), 2147483647), ((-2147483648), 2147483647), (0, 5), (0, 16), (0, 7), (0, 23), (0, 1), (0, 255), (0, 1099511627776), (1, 4294967296), (0, 255), (0, 49), (0, 49), ((-2147483648), 2147483647), ((-2147483648), 2147483647), (0, 0), (0, 49), (0, 99), (0, 9), (1, 1), (0, 4294967296), (0, 1103806595072)]), [(4, [(some 32, 0), (some 19, 0), (some 31, 0)], []), (236, [(some 31, 0), (none, 8), (some 14, 0), (some 18, 0), (some 21, 0)], []), (1, [(none, 1), (none, 0)], []), (0, [(some 30, 0), (none, 1)], []), (1, [(some 30, 0), (none, 0)], []), (5, [(some 30, 0), (some 28, 0), (some 29, 0)], []), (20, [(some 29, 0), (some 15, 0)], [8]), (20, [(some 28, 0), (some 15, 0)], [66]), (91, [(none, 0), (some 27, 0), (some 22, 0), (some 16, 0), (some 21, 0), (none, 0)], [58, 59, 7, 8, 10, 11, 16, 20, 21, 24, 25, 63, 64, 65, 66, 67, 68]), (89, [], [8, 63, 64, 65]), (0, [(some 26, 0), (none, 0)], []), (10, [(some 26, 0), (some 21, 0), (some 25, 0)], []), (12, [(some 25, 0), (some 18, 0), (none, (-1))], []), (2, [(some 21, 0), (none, 256)], []), (150, [(some 22, 0), (some 2, 0), (some 3, 0), (some 4, 0), (some 5, 0), (some 6, 0)], [58, 59, 7, 8, 10, 11, 12, 13, 15, 16, 19, 20, 21, 23, 24, 25]), (237, [(some 19, 0), (some 21, 0), (some 14, 0), (some 18, 0), (some 16, 0), (some 15, 0), (some 2, 0), (some 3, 0), (some 4, 0), (some 5, 0), (some 6, 0)], [7, 8, 10, 11, 12, 13, 15, 16, 19, 20, 21, 23, 24, 25]), (235, [(some 18, 0), (some 4, 0), (some 15, 0), (some 3, 0)], [16, 10]), (239, [(some 20, 0), (some 18, 0)], []), (2, [(some 15, 0), (some 2, 0)], [])], (237, [(some 32, 0), (some 21, 1), (some 14, 0), (some 18, 0), (some 16, 0), (some 15, 0), (some 2, 0), (some 3, 0), (some 4, 0), (some 5, 0), (some 6, 0)], [7, 8, 10, 11, 12, 13, 15, 16, 19, 20, 21, 23, 24, 25]))
set_option maxRecDepth 20000 in
theorem v_xo_word_2_9 {PT : PTy} (hp : HP20 PT) : vcOk PT w_xo_word_2_9 := vc_iv [(2, 1, 8), (3, 0, 10), (4, 0, 8), (5, 0, 6), (6, 0, 6), (14, 0, 16), (15, 0, 7), (16, 0, 23), (18, 0, 255), (19, 0, 1099511627776), (20, 1, 4294967296), (21, 0, 255), (22, 0, 49), (25, (-2147483648), 2147483647), (26, 0, 0), (27, 0, 49), (28, 0, 99), (29, 0, 9), (30, 1, 1), (31, 0, 4294967296), (32, 0, 1103806595072)] [7, 8, 10, 11, 12, 13, 15, 16, 19, 20, 21, 23, 24, 25, 58, 59, 63, 64, 65, 66, 67, 68] (by decide +kernel) (fun ρ α => by
  intro r2 g2 b2 r3 g3 b3 r4 g4 b4 r5 g5 b5 r6 g6 b6 r14 g14 b14 r15 g15 b15 r16 g16 b16 r18 g18 b18 r19 g19 b19 r20 g20 b20 r21 g21 b21 r22 g22 b22 r25 g25 b25 r26 g26 b26 r27 g27 b27 r28 g28 b28 r29 g29 b29 r30 g30 b30 r31 g31 b31 r32 g32 b32 a7 h7 a8 h8 a10 h10 a11 h11 a12 h12 a13 h13 a15 h15 a16 h16 a19 h19 a20 h20 a21 h21 a23 h23 a24 h24 a25 h25 a58 h58 a59 h59 a63 h63 a64 h64 a65 h65 a66 h66 a67 h67 a68 h68 f0 f1 f2 f3 f4 f5 f6 f7 f8 f9 f10 f11 f12 f13 f14 f15 f16 f17 f18 tt
  clear f2 f4 f13
  have e89 : PT 89 = P_bg := pe89_20 hp
  have e91 : PT 91 = P_adE := pe91_20 hp
  have e150 : PT 150 = P_ar2 := pe150_20 hp
  have e235 : PT 235 = P_kpI := pe235_20 hp
  have e236 : PT 236 = P_wtI := pe236_20 hp
  have e237 : PT 237 = P_wcI := pe237_20 hp
  have e239 : PT 239 = P_pwI := pe239_20 hp
  simp only [hF0, hF2, hF4, hF5, hF10, hF12, hF20, hFp_89, hFp_91, hFp_150, hFp_235, hFp_236, hFp_237, hFp_239, e89, e91, e150, e235, e236, e237, e239, P_bg, P_adE, P_ar2, P_kpI, P_wtI, P_wcI, P_pwI, den_s, den_c, Int.add_zero, List.map_cons, List.map_nil, g2.eq, g3.eq, g4.eq, g5.eq, g6.eq, g14.eq, g15.eq, g16.eq, g18.eq, g19.eq, g20.eq, g21.eq, g22.eq, g25.eq, g26.eq, g27.eq, g28.eq, g29.eq, g30.eq, g31.eq, g32.eq, h7, h8, h10, h11, h12, h13, h15, h16, h19, h20, h21, h23, h24, h25, h58, h59, h63, h64, h65, h66, h67, h68] at f0 f1 f3 f5 f6 f7 f8 f9 f10 f11 f12 f14 f15 f16 f17 f18 ⊢
  subst f0
  subst f5
  subst f6
  subst f7
  subst f11
  subst f12
  obtain ⟨G, hG, hs⟩ := f15
  have hy := yX_by (f14).2 f9 f8
  have hw := f1
  rw [show Int.toNat 8 = 8 from rfl] at hw
  refine ⟨updI G r21 1, fun i h1 h2 h3 => ?_, ?_⟩
  · by_cases q : i = r21
    · subst q
      rw [updI_at]
      exact ⟨_, _, _, hy, Or.inl ⟨rfl, by unfold fitP; omega⟩⟩
    · rw [updI_ne q]; exact hG i h1 (by omega) h3
  · rw [smC_s (by omega), smC_up, updI_at, ← hs]
    rw [if_pos ⟨by first | exact f10 | omega, rfl⟩, ← hw])
set_option maxRecDepth 1000000 in
theorem k_xo_word {PT : PTy} (hp : HP20 PT) : wfX c_xo_word = true ∧ xcOk PT c_xo_word := xctr (xl (k_arrange14 hp.1.1.1.1.1.1.1.1.1.1.1.1.1.1.1.1.1) (xl (k_begin14 hp.1.1.1.1.1.1.1.1.1.1.1.1.1.1.1.1) (xl (k_advance14 hp.1.1.1.1.1.1.1.1.1.1.1.1.1.1.1.1) (xl (k_kpOf hp) (xl (k_wtOf hp) (xl (k_bc8 hp) (xl0))))))) c_xo_word 94 mX6_word rfl h_xo_word (by decide +kernel) (by decide +kernel) (by decide) (vcs_by [w_xo_word_0_0, w_xo_word_0_1, w_xo_word_0_2, w_xo_word_0_3, w_xo_word_0_4, w_xo_word_0_5, w_xo_word_0_6, w_xo_word_0_7, w_xo_word_0_8, w_xo_word_0_9, w_xo_word_0_10] (by decide +kernel) (vc (v_xo_word_0_0 hp) (vc (v_xo_word_0_1 hp) (vc (v_xo_word_0_2 hp) (vc (v_xo_word_0_3 hp) (vc (v_xo_word_0_4 hp) (vc (v_xo_word_0_5 hp) (vc (v_xo_word_0_6 hp) (vc (v_xo_word_0_7 hp) (vc (v_xo_word_0_8 hp) (vc (v_xo_word_0_9 hp) (vc (v_xo_word_0_10 hp) vn)))))))))))) (fmc (vcs_by [w_xo_word_1_0, w_xo_word_1_1, w_xo_word_1_2, w_xo_word_1_3, w_xo_word_1_4, w_xo_word_1_5, w_xo_word_1_6, w_xo_word_1_7, w_xo_word_1_8] (by decide +kernel) (vc (v_xo_word_1_0 hp) (vc (v_xo_word_1_1 hp) (vc (v_xo_word_1_2 hp) (vc (v_xo_word_1_3 hp) (vc (v_xo_word_1_4 hp) (vc (v_xo_word_1_5 hp) (vc (v_xo_word_1_6 hp) (vc (v_xo_word_1_7 hp) (vc (v_xo_word_1_8 hp) vn)))))))))) (fmc (vcs_by [w_xo_word_2_0, w_xo_word_2_1, w_xo_word_2_2, w_xo_word_2_3, w_xo_word_2_4, w_xo_word_2_5, w_xo_word_2_6, w_xo_word_2_7, w_xo_word_2_8, w_xo_word_2_9] (by decide +kernel) (vc (v_xo_word_2_0 hp) (vc (v_xo_word_2_1 hp) (vc (v_xo_word_2_2 hp) (vc (v_xo_word_2_3 hp) (vc (v_xo_word_2_4 hp) (vc (v_xo_word_2_5 hp) (vc (v_xo_word_2_6 hp) (vc (v_xo_word_2_7 hp) (vc (v_xo_word_2_8 hp) (vc (v_xo_word_2_9 hp) vn))))))))))) fmn))
def c_lowX : XC := (107, 0, bY ++ [(0, 1099511627776), (1, 4294967296), ((-2147483648), 2147483647)], [.inr (.inr (some (some 13, 0))), .inr (.inr (some (some 14, 0))), .inl (some 15, 0)], gY2, [], [(bY ++ [(0, 1099511627776), (1, 4294967296), ((-2147483648), 2147483647), (0, 1099511627776)], some (.inr (.inr (some (some 16, 0)))), gY2, List.range 35, 35, [(245, [(some 16, 0), (some 13, 0), (some 14, 0), (some 15, 0)], [])])])
set_option maxRecDepth 100000 in
theorem k_lowX {PT : PTy} (hp : HP20 PT) : wfX c_lowX = true ∧ xcOk PT c_lowX := by
  refine ⟨by decide +kernel, ?_⟩
  intro NM hN ρ α av h0 hB hS hH hA _
  have hNM : NM = mX7_lowest := (Option.some.inj (hN.symm.trans (show mtL[107]? = some mX7_lowest from rfl)))
  subst hNM
  obtain ⟨v0, t0, rfl, q0, hS1⟩ := rS_cons hS
  obtain ⟨v1, t1, rfl, q1, hS2⟩ := rS_cons hS1
  obtain ⟨v2, t2, rfl, q2, hS3⟩ := rS_cons hS2
  cases rS_nil hS3
  obtain ⟨a, rfl, ha'⟩ := rV_long q0
  obtain ⟨z, rfl, hz'⟩ := rV_long q1
  obtain ⟨w, rfl, hw⟩ := rV_int q2
  obtain ⟨-, ea⟩ := ha' (some 13, 0) rfl
  obtain ⟨-, ez⟩ := hz' (some 14, 0) rfl
  have ew := hw.2
  have b13 := hB 13 (0, 1099511627776) rfl
  have b14 := hB 14 (1, 4294967296) rfl
  simp only at b13 b14
  rw [den_s, Int.add_zero] at ea ez ew
  have hz0 : ¬ z = 0 := fun q => by
    rw [q] at ez
    have e0 : (0 : Int64).toInt = 0 := by decide
    omega
  have a0 : 0 ≤ a.toInt := by omega
  have z0 : 0 ≤ z.toInt := by omega
  refine Ct_of_J (mt_ok (k := 107) rfl).1 (fun ad => by rw [lg_len, cat_sum hS]; show 5 ≤ 11; omega) ?_
  refine T_s (k := 107) rfl rfl rfl ?_
  refine T_s (k := 107) rfl rfl rfl ?_
  refine T_s (k := 107) rfl rfl rfl ?_
  refine T_s (k := 107) rfl rfl rfl ?_
  refine low_loopX a0 z0 (fun v g0 g1 => ?_) _ a z none none (Nat.lt_succ_self _) (fun q => absurd q hz0) a0 z0 rfl
  have w0 : w = 0 ↔ ρ 15 = 0 := ⟨fun q => by rw [← ew, q]; decide, fun q => Int32.toInt_inj.mp (by rw [ew, q]; decide)⟩
  have hv : 0 ≤ v.toInt ∧ v.toInt ≤ 1099511627776 := by
    by_cases q : w = 0
    · rw [g0 q]
      exact ⟨Int.ediv_nonneg a0 (Int.natCast_nonneg _), Int.le_trans (Int.ediv_le_self _ a0) (by omega)⟩
    · rw [g1 q]
      exact ⟨Int.ediv_nonneg z0 (Int.natCast_nonneg _), Int.le_trans (Int.ediv_le_self _ z0) (by omega)⟩
  obtain ⟨ρ', k1, k2, k3⟩ := lnw_ok hB (o := some (0, 1099511627776)) (z := v) (fun b hb => by cases hb; exact hv)
  refine ⟨_, List.mem_cons_self, ρ', α, k1, k2, aext_rf, (fun c hc => k3 c (by rw [← hc]; rfl)), rH_ext k2 hH, hA, fun f hf => ?_⟩
  cases List.mem_singleton.mp hf
  have e16 := (k3 (some 16, 0) rfl).2
  rw [den_s, Int.add_zero] at e16
  have x13 : ρ' 13 = ρ 13 := k2.2 13 (by decide)
  have x14 : ρ' 14 = ρ 14 := k2.2 14 (by decide)
  have x15 : ρ' 15 = ρ 15 := k2.2 15 (by decide)
  have e : PT 245 = P_lwX := hp.2.2.2.2.2.2.2.2.2.2.2.1
  rw [hFp_245, e]
  simp only [P_lwX, List.map_cons, List.map_nil, den_s, Int.add_zero]
  rw [← e16, x13, x14, x15, ← ea, ← ez]
  exact ⟨fun q => g0 (w0.mpr q), fun q => g1 (fun r => q (w0.mp r))⟩
def c_wordOf : XC := (180, 6, (bY ++ [(0, 16), (0, 7), (0, 23), (0, 1)]), [.inr (.inl 0), .inl (some 13, 0), .inl (some 14, 0), .inl (some 15, 0), .inl (some 16, 0)], gY2, [(78, [], [1])], [((bY ++ [(0, 16), (0, 7), (0, 23), (0, 1), (0, 1099511627776), (0, 8), (0, 10), (0, 11), ((-2147483648), 2147483647), ((-2147483648), 2147483647)]), some (.inr (.inr (some (some 17, 0)))), (hst gY2 [(0, .inr (.inr (.inr (7, [.inr (.inl 1), .inr (.inl 2), .inl (some 18, 0), .inr (.inl 3), .inr (.inl 4), .inl (some 19, 0), .inr (.inl 5), .inr (.inl 6), .inr (.inl 7), .inr (.inl 8), .inl (some 4, 0), .inr (.inl 9), .inr (.inl 10), .inl (some 5, 0), .inr (.inl 11), .inr (.inl 12), .inr (.inl 13), .inl (some 6, 0), .inr (.inl 14), .inr (.inl 15), .inr (.inl 16), .inl (some 20, 0), .inl (some 4, 0), .inr (.inl 17), .inr (.inl 18), .inl (some 21, 0), .inl (some 22, 0), .inr (.inl 19), .inr (.inl 20), .inr (.inl 21), .inr (.inl 22), .inr (.inl 23), .inr (.inl 24), .inr (.inl 25), .inl (some 7, 0), .inr (.inl 26), .inr (.inl 27), .inr (.inl 28), .inr (.inl 29), .inr (.inl 30), .inr (.inl 31), .inr (.inl 32), .inr (.inl 33), .inr (.inl 34), .inl (some 12, 0)]))))]), [0, 1, 2, 35, 36, 37, 38, 39, 40, 9, 10, 11, 12, 13, 14, 15, 16, 41, 42, 43, 44, 45, 46, 47, 48, 25, 26, 27, 28, 29, 30, 31, 32, 33, 34], 49, [(246, [(some 17, 0), (some 13, 0), (some 15, 0), (some 14, 0), (some 16, 0), (some 18, 0), (some 19, 0), (some 4, 0), (some 5, 0), (some 6, 0)], [1, 2, 35, 36, 37, 38, 39, 40, 41, 42, 9, 10, 11, 12, 13, 14, 15, 16])])])
def h_wordOf : List XH := [(10, (bY ++ [(0, 16), (0, 7), (0, 23), (0, 1), (0, 1099511627776), (0, 256), (0, 8), (0, 10), (0, 11), ((-2147483648), 2147483647), ((-2147483648), 2147483647)]), [some (.inr (.inl 0)), some (.inl (some 13, 0)), some (.inl (some 14, 0)), some (.inl (some 15, 0)), some (.inl (some 16, 0)), some (.inr (.inr (some (some 17, 0)))), none, some (.inl (some 18, 0)), none, none, none], (hst gY2 [(0, .inr (.inr (.inr (7, [.inr (.inl 1), .inr (.inl 2), .inl (some 19, 0), .inr (.inl 3), .inr (.inl 4), .inl (some 20, 0), .inr (.inl 5), .inr (.inl 6), .inr (.inl 7), .inr (.inl 8), .inl (some 4, 0), .inr (.inl 9), .inr (.inl 10), .inl (some 5, 0), .inr (.inl 11), .inr (.inl 12), .inr (.inl 13), .inl (some 6, 0), .inr (.inl 14), .inr (.inl 15), .inr (.inl 16), .inl (some 21, 0), .inl (some 4, 0), .inr (.inl 17), .inr (.inl 18), .inl (some 22, 0), .inl (some 23, 0), .inr (.inl 19), .inr (.inl 20), .inr (.inl 21), .inr (.inl 22), .inr (.inl 23), .inr (.inl 24), .inr (.inl 25), .inl (some 7, 0), .inr (.inl 26), .inr (.inl 27), .inr (.inl 28), .inr (.inl 29), .inr (.inl 30), .inr (.inl 31), .inr (.inl 32), .inr (.inl 33), .inr (.inl 34), .inl (some 12, 0)]))))]), [0, 1, 2, 35, 36, 37, 38, 39, 40, 9, 10, 11, 12, 13, 14, 15, 16, 41, 42, 43, 44, 45, 46, 47, 48, 25, 26, 27, 28, 29, 30, 31, 32, 33, 34], 49, [(106, [(some 19, 0), (some 20, 0)], [1, 2, 35, 36, 37, 38, 39, 40]), (105, [(some 4, 0)], [9, 10, 41, 42]), (242, [(some 17, 0), (some 18, 0), (some 13, 0), (some 15, 0), (some 14, 0), (some 19, 0), (some 20, 0), (some 4, 0), (some 5, 0), (some 6, 0)], [35, 36, 37, 38, 39, 40, 41, 42, 11, 12, 13, 14, 15, 16]), (243, [(some 18, 0), (some 4, 0)], []), (0, [(some 21, 0), (some 20, 0)], []), (0, [(some 23, 0), (none, 0)], []), (0, [(some 4, 0), (some 4, 0)], [])], [(true, (none, 1)), (true, (some 18, 0)), (true, (none, 0)), (true, (none, 0))]),
  (27, (bY ++ [(0, 16), (0, 7), (0, 23), (0, 1), (0, 1099511627776), (0, 255), (0, 4294967296), (0, 8), (0, 8), (0, 10), (0, 11), ((-2147483648), 2147483647), ((-2147483648), 2147483647)]), [some (.inr (.inl 0)), some (.inl (some 13, 0)), some (.inl (some 14, 0)), some (.inl (some 15, 0)), some (.inl (some 16, 0)), some (.inr (.inr (some (some 17, 0)))), none, some (.inl (some 18, 0)), some (.inr (.inr (some (some 19, 0)))), none, some (.inl (some 20, 0))], (hst gY2 [(0, .inr (.inr (.inr (7, [.inr (.inl 1), .inr (.inl 2), .inl (some 21, 0), .inr (.inl 3), .inr (.inl 4), .inl (some 22, 0), .inr (.inl 5), .inr (.inl 6), .inr (.inl 7), .inr (.inl 8), .inl (some 4, 0), .inr (.inl 9), .inr (.inl 10), .inl (some 5, 0), .inr (.inl 11), .inr (.inl 12), .inr (.inl 13), .inl (some 6, 0), .inr (.inl 14), .inr (.inl 15), .inr (.inl 16), .inl (some 23, 0), .inl (some 4, 0), .inr (.inl 17), .inr (.inl 18), .inl (some 24, 0), .inl (some 25, 0), .inr (.inl 19), .inr (.inl 20), .inr (.inl 21), .inr (.inl 22), .inr (.inl 23), .inr (.inl 24), .inr (.inl 25), .inl (some 7, 0), .inr (.inl 26), .inr (.inl 27), .inr (.inl 28), .inr (.inl 29), .inr (.inl 30), .inr (.inl 31), .inr (.inl 32), .inr (.inl 33), .inr (.inl 34), .inl (some 12, 0)]))))]), [0, 1, 2, 35, 36, 37, 38, 39, 40, 9, 10, 11, 12, 13, 14, 15, 16, 41, 42, 43, 44, 45, 46, 47, 48, 25, 26, 27, 28, 29, 30, 31, 32, 33, 34], 49, [(106, [(some 21, 0), (some 22, 0)], [1, 2, 35, 36, 37, 38, 39, 40]), (105, [(some 4, 0)], [9, 10, 41, 42]), (242, [(some 17, 0), (some 18, 0), (some 13, 0), (some 15, 0), (some 14, 0), (some 21, 0), (some 22, 0), (some 4, 0), (some 5, 0), (some 6, 0)], [35, 36, 37, 38, 39, 40, 41, 42, 11, 12, 13, 14, 15, 16]), (244, [(some 18, 0), (some 4, 0)], []), (241, [(some 19, 0), (some 20, 0), (some 13, 0), (some 18, 0)], []), (3, [(some 4, 0), (some 20, 0)], []), (0, [(some 23, 0), (some 22, 0)], []), (0, [(some 25, 0), (none, 0)], []), (0, [(some 4, 0), (some 4, 0)], [])], [(true, (none, 1)), (true, (some 18, 0)), (true, (none, 1)), (true, (some 20, 0))])]
def w_wordOf_0_0 : VC := ((bY ++ [(0, 16), (0, 7), (0, 23), (0, 1), (0, 8), (0, 10), (0, 11), ((-2147483648), 2147483647), ((-2147483648), 2147483647)]), [(106, [(some 17, 0), (some 18, 0)], [1, 2, 35, 36, 37, 38, 39, 40]), (105, [(some 4, 0)], [9, 10, 41, 42]), (0, [(some 19, 0), (some 18, 0)], []), (0, [(some 4, 0), (some 4, 0)], []), (0, [(some 20, 0), (none, 0)], []), (0, [(some 21, 0), (none, 0)], []), (78, [], [1])], (242, [(none, 0), (none, 0), (some 13, 0), (some 15, 0), (some 14, 0), (some 17, 0), (some 18, 0), (some 4, 0), (some 5, 0), (some 6, 0)], [35, 36, 37, 38, 39, 40, 41, 42, 11, 12, 13, 14, 15, 16]))
theorem pe78_20 {PT : PTy} (hp : HP20 PT) : PT 78 = P_ly := hp.1.1.1.1.1.1.1.1.1.1.1.1.1.1.1.1.1.1.2.2.2.2.2.2.2.1
theorem pe105_20 {PT : PTy} (hp : HP20 PT) : PT 105 = P_cp2 := hp.1.1.1.1.1.1.1.1.1.1.1.1.1.1.1.2.2.2.2.2.2.2.2.2.2.2.1
theorem pe106_20 {PT : PTy} (hp : HP20 PT) : PT 106 = P_rd := hp.1.1.1.1.1.1.1.1.1.1.1.1.1.1.1.2.2.2.2.2.2.2.2.2.2.2.2.1
theorem pe242_20 {PT : PTy} (hp : HP20 PT) : PT 242 = P_wyI := hp.2.2.2.2.2.2.2.2.1
set_option maxRecDepth 20000 in
theorem v_wordOf_0_0 {PT : PTy} (hp : HP20 PT) : vcOk PT w_wordOf_0_0 := vc_iv [(4, 0, 8), (5, 0, 6), (6, 0, 6), (13, 0, 16), (14, 0, 7), (15, 0, 23), (17, 0, 8), (18, 0, 10), (19, 0, 11), (20, (-2147483648), 2147483647), (21, (-2147483648), 2147483647)] [1, 2, 9, 10, 11, 12, 13, 14, 15, 16, 35, 36, 37, 38, 39, 40, 41, 42] (by decide +kernel) (fun ρ α => by
  intro r4 g4 b4 r5 g5 b5 r6 g6 b6 r13 g13 b13 r14 g14 b14 r15 g15 b15 r17 g17 b17 r18 g18 b18 r19 g19 b19 r20 g20 b20 r21 g21 b21 a1 h1 a2 h2 a9 h9 a10 h10 a11 h11 a12 h12 a13 h13 a14 h14 a15 h15 a16 h16 a35 h35 a36 h36 a37 h37 a38 h38 a39 h39 a40 h40 a41 h41 a42 h42 f0 f1 f2 f3 f4 f5 f6 tt
  have e78 : PT 78 = P_ly := pe78_20 hp
  have e105 : PT 105 = P_cp2 := pe105_20 hp
  have e106 : PT 106 = P_rd := pe106_20 hp
  have e242 : PT 242 = P_wyI := pe242_20 hp
  simp only [hF0, hFp_78, hFp_105, hFp_106, hFp_242, e78, e105, e106, e242, P_ly, P_cp2, P_rd, P_wyI, den_s, den_c, Int.add_zero, List.map_cons, List.map_nil, g4.eq, g5.eq, g6.eq, g13.eq, g14.eq, g15.eq, g17.eq, g18.eq, g19.eq, g20.eq, g21.eq, h1, h2, h9, h10, h11, h12, h13, h14, h15, h16, h35, h36, h37, h38, h39, h40, h41, h42] at f0 f1 f2 f3 f4 f5 f6 ⊢
  exact ⟨fun _ => 0, fun i h1 h2 => by exfalso; omega, rfl⟩)
def w_wordOf_0_1 : VC := ((bY ++ [(0, 16), (0, 7), (0, 23), (0, 1), (0, 8), (0, 10), (0, 11), ((-2147483648), 2147483647), ((-2147483648), 2147483647)]), [(106, [(some 17, 0), (some 18, 0)], [1, 2, 35, 36, 37, 38, 39, 40]), (105, [(some 4, 0)], [9, 10, 41, 42]), (0, [(some 19, 0), (some 18, 0)], []), (0, [(some 4, 0), (some 4, 0)], []), (0, [(some 20, 0), (none, 0)], []), (0, [(some 21, 0), (none, 0)], []), (78, [], [1])], (243, [(none, 0), (some 4, 0)], []))
theorem pe243_20 {PT : PTy} (hp : HP20 PT) : PT 243 = P_slI := hp.2.2.2.2.2.2.2.2.2.1
set_option maxRecDepth 20000 in
theorem v_wordOf_0_1 {PT : PTy} (hp : HP20 PT) : vcOk PT w_wordOf_0_1 := vc_iv [(4, 0, 8), (17, 0, 8), (18, 0, 10), (19, 0, 11), (20, (-2147483648), 2147483647), (21, (-2147483648), 2147483647)] [1, 2, 9, 10, 35, 36, 37, 38, 39, 40, 41, 42] (by decide +kernel) (fun ρ α => by
  intro r4 g4 b4 r17 g17 b17 r18 g18 b18 r19 g19 b19 r20 g20 b20 r21 g21 b21 a1 h1 a2 h2 a9 h9 a10 h10 a35 h35 a36 h36 a37 h37 a38 h38 a39 h39 a40 h40 a41 h41 a42 h42 f0 f1 f2 f3 f4 f5 f6 tt
  have e78 : PT 78 = P_ly := pe78_20 hp
  have e105 : PT 105 = P_cp2 := pe105_20 hp
  have e106 : PT 106 = P_rd := pe106_20 hp
  have e243 : PT 243 = P_slI := pe243_20 hp
  simp only [hF0, hFp_78, hFp_105, hFp_106, hFp_243, e78, e105, e106, e243, P_ly, P_cp2, P_rd, P_slI, den_s, den_c, Int.add_zero, List.map_cons, List.map_nil, g4.eq, g17.eq, g18.eq, g19.eq, g20.eq, g21.eq, h1, h2, h9, h10, h35, h36, h37, h38, h39, h40, h41, h42] at f0 f1 f2 f3 f4 f5 f6 ⊢
  rw [shl_n (by omega)]
  exact Int.natCast_nonneg _)
def w_wordOf_1_0 : VC := ((bY ++ [(0, 16), (0, 7), (0, 23), (0, 1), (0, 1099511627776), (1, 256), (0, 8), (0, 10), (0, 11), ((-2147483648), 2147483647), ((-2147483648), 2147483647), (1, 256), (0, 32), (1, 4294967296), (0, 1099511627776)]), [(245, [(some 27, 0), (some 17, 0), (some 26, 0), (some 16, 0)], []), (30, [(some 26, 0), (some 25, 0)], []), (6, [(some 25, 0), (none, 4), (some 4, 0)], []), (3, [(some 18, 0), (some 24, 0)], []), (13, [(some 24, 0), (none, 1), (some 4, 0)], []), (106, [(some 19, 0), (some 20, 0)], [1, 2, 35, 36, 37, 38, 39, 40]), (105, [(some 4, 0)], [9, 10, 41, 42]), (242, [(some 17, 0), (some 18, 0), (some 13, 0), (some 15, 0), (some 14, 0), (some 19, 0), (some 20, 0), (some 4, 0), (some 5, 0), (some 6, 0)], [35, 36, 37, 38, 39, 40, 41, 42, 11, 12, 13, 14, 15, 16]), (243, [(some 18, 0), (some 4, 0)], []), (0, [(some 21, 0), (some 20, 0)], []), (0, [(some 23, 0), (none, 0)], []), (0, [(some 4, 0), (some 4, 0)], []), (78, [], [1])], (246, [(some 27, 0), (some 13, 0), (some 15, 0), (some 14, 0), (some 16, 0), (some 19, 0), (some 20, 0), (some 4, 0), (some 5, 0), (some 6, 0)], [1, 2, 35, 36, 37, 38, 39, 40, 41, 42, 9, 10, 11, 12, 13, 14, 15, 16]))
theorem pe245_20 {PT : PTy} (hp : HP20 PT) : PT 245 = P_lwX := hp.2.2.2.2.2.2.2.2.2.2.2.1
theorem pe246_20 {PT : PTy} (hp : HP20 PT) : PT 246 = P_wrP := hp.2.2.2.2.2.2.2.2.2.2.2.2.1
set_option maxRecDepth 20000 in
theorem v_wordOf_1_0 {PT : PTy} (hp : HP20 PT) : vcOk PT w_wordOf_1_0 := vc_iv [(4, 0, 8), (5, 0, 6), (6, 0, 6), (13, 0, 16), (14, 0, 7), (15, 0, 23), (16, 0, 1), (17, 0, 1099511627776), (18, 1, 256), (19, 0, 8), (20, 0, 10), (21, 0, 11), (23, (-2147483648), 2147483647), (24, 1, 256), (25, 0, 32), (26, 1, 4294967296), (27, 0, 1099511627776)] [1, 2, 9, 10, 11, 12, 13, 14, 15, 16, 35, 36, 37, 38, 39, 40, 41, 42] (by decide +kernel) (fun ρ α => by
  intro r4 g4 b4 r5 g5 b5 r6 g6 b6 r13 g13 b13 r14 g14 b14 r15 g15 b15 r16 g16 b16 r17 g17 b17 r18 g18 b18 r19 g19 b19 r20 g20 b20 r21 g21 b21 r23 g23 b23 r24 g24 b24 r25 g25 b25 r26 g26 b26 r27 g27 b27 a1 h1 a2 h2 a9 h9 a10 h10 a11 h11 a12 h12 a13 h13 a14 h14 a15 h15 a16 h16 a35 h35 a36 h36 a37 h37 a38 h38 a39 h39 a40 h40 a41 h41 a42 h42 f0 f1 f2 f3 f4 f5 f6 f7 f8 f9 f10 f11 f12 tt
  have e78 : PT 78 = P_ly := pe78_20 hp
  have e105 : PT 105 = P_cp2 := pe105_20 hp
  have e106 : PT 106 = P_rd := pe106_20 hp
  have e242 : PT 242 = P_wyI := pe242_20 hp
  have e243 : PT 243 = P_slI := pe243_20 hp
  have e245 : PT 245 = P_lwX := pe245_20 hp
  have e246 : PT 246 = P_wrP := pe246_20 hp
  simp only [hF0, hF3, hF6, hF13, hF30, hFp_78, hFp_105, hFp_106, hFp_242, hFp_243, hFp_245, hFp_246, e78, e105, e106, e242, e243, e245, e246, P_ly, P_cp2, P_rd, P_wyI, P_slI, P_lwX, P_wrP, den_s, den_c, Int.add_zero, List.map_cons, List.map_nil, g4.eq, g5.eq, g6.eq, g13.eq, g14.eq, g15.eq, g16.eq, g17.eq, g18.eq, g19.eq, g20.eq, g21.eq, g23.eq, g24.eq, g25.eq, g26.eq, g27.eq, h1, h2, h9, h10, h11, h12, h13, h14, h15, h16, h35, h36, h37, h38, h39, h40, h41, h42] at f0 f1 f2 f3 f4 f5 f6 f7 f8 f9 f10 f11 f12 ⊢
  subst f1
  subst f2
  subst f4
  obtain ⟨G, hG, hs⟩ := f7
  have hn := shl_n (n := r4) (by omega)
  have hl := f8
  have ej : r18 = ((2 ^ (r4).toNat : Nat) : Int) := by omega
  have et : (r18).toNat = 2 ^ (r4).toNat := by omega
  rw [ej] at hG
  rw [et] at hs
  obtain ⟨l0, l1⟩ := f0
  rw [hs] at l0 l1
  exact ⟨⟨f5, f6⟩, G, hG, l0, l1⟩)
def w_wordOf_1_1 : VC := ((bY ++ [(0, 16), (0, 7), (0, 23), (0, 1), (0, 1099511627776), (0, 255), (0, 8), (0, 10), (0, 11), ((-2147483648), 2147483647), ((-2147483648), 2147483647), (1, 256)]), [(2, [(some 18, 0), (some 24, 0)], []), (13, [(some 24, 0), (none, 1), (some 4, 0)], []), (106, [(some 19, 0), (some 20, 0)], [1, 2, 35, 36, 37, 38, 39, 40]), (105, [(some 4, 0)], [9, 10, 41, 42]), (242, [(some 17, 0), (some 18, 0), (some 13, 0), (some 15, 0), (some 14, 0), (some 19, 0), (some 20, 0), (some 4, 0), (some 5, 0), (some 6, 0)], [35, 36, 37, 38, 39, 40, 41, 42, 11, 12, 13, 14, 15, 16]), (243, [(some 18, 0), (some 4, 0)], []), (0, [(some 21, 0), (some 20, 0)], []), (0, [(some 23, 0), (none, 0)], []), (0, [(some 4, 0), (some 4, 0)], []), (78, [], [1])], (244, [(some 18, 0), (some 4, 0)], []))
theorem pe244_20 {PT : PTy} (hp : HP20 PT) : PT 244 = P_sjI := hp.2.2.2.2.2.2.2.2.2.2.1
set_option maxRecDepth 20000 in
theorem v_wordOf_1_1 {PT : PTy} (hp : HP20 PT) : vcOk PT w_wordOf_1_1 := vc_iv [(4, 0, 8), (5, 0, 6), (6, 0, 6), (13, 0, 16), (14, 0, 7), (15, 0, 23), (17, 0, 1099511627776), (18, 0, 255), (19, 0, 8), (20, 0, 10), (21, 0, 11), (23, (-2147483648), 2147483647), (24, 1, 256)] [1, 2, 9, 10, 11, 12, 13, 14, 15, 16, 35, 36, 37, 38, 39, 40, 41, 42] (by decide +kernel) (fun ρ α => by
  intro r4 g4 b4 r5 g5 b5 r6 g6 b6 r13 g13 b13 r14 g14 b14 r15 g15 b15 r17 g17 b17 r18 g18 b18 r19 g19 b19 r20 g20 b20 r21 g21 b21 r23 g23 b23 r24 g24 b24 a1 h1 a2 h2 a9 h9 a10 h10 a11 h11 a12 h12 a13 h13 a14 h14 a15 h15 a16 h16 a35 h35 a36 h36 a37 h37 a38 h38 a39 h39 a40 h40 a41 h41 a42 h42 f0 f1 f2 f3 f4 f5 f6 f7 f8 f9 tt
  have e78 : PT 78 = P_ly := pe78_20 hp
  have e105 : PT 105 = P_cp2 := pe105_20 hp
  have e106 : PT 106 = P_rd := pe106_20 hp
  have e242 : PT 242 = P_wyI := pe242_20 hp
  have e243 : PT 243 = P_slI := pe243_20 hp
  have e244 : PT 244 = P_sjI := pe244_20 hp
  simp only [hF0, hF2, hF13, hFp_78, hFp_105, hFp_106, hFp_242, hFp_243, hFp_244, e78, e105, e106, e242, e243, e244, P_ly, P_cp2, P_rd, P_wyI, P_slI, P_sjI, den_s, den_c, Int.add_zero, List.map_cons, List.map_nil, g4.eq, g5.eq, g6.eq, g13.eq, g14.eq, g15.eq, g17.eq, g18.eq, g19.eq, g20.eq, g21.eq, g23.eq, g24.eq, h1, h2, h9, h10, h11, h12, h13, h14, h15, h16, h35, h36, h37, h38, h39, h40, h41, h42] at f0 f1 f2 f3 f4 f5 f6 f7 f8 f9 ⊢
  subst f1
  omega)
def w_wordOf_1_2 : VC := ((bY ++ [(0, 16), (0, 7), (0, 23), (0, 1), (0, 1099511627776), (0, 255), (0, 8), (0, 10), (0, 11), ((-2147483648), 2147483647), ((-2147483648), 2147483647), (1, 256)]), [(2, [(some 18, 0), (some 24, 0)], []), (13, [(some 24, 0), (none, 1), (some 4, 0)], []), (106, [(some 19, 0), (some 20, 0)], [1, 2, 35, 36, 37, 38, 39, 40]), (105, [(some 4, 0)], [9, 10, 41, 42]), (242, [(some 17, 0), (some 18, 0), (some 13, 0), (some 15, 0), (some 14, 0), (some 19, 0), (some 20, 0), (some 4, 0), (some 5, 0), (some 6, 0)], [35, 36, 37, 38, 39, 40, 41, 42, 11, 12, 13, 14, 15, 16]), (243, [(some 18, 0), (some 4, 0)], []), (0, [(some 21, 0), (some 20, 0)], []), (0, [(some 23, 0), (none, 0)], []), (0, [(some 4, 0), (some 4, 0)], []), (78, [], [1])], (241, [(none, 1), (none, 0), (some 13, 0), (some 18, 0)], []))
theorem pe241_20 {PT : PTy} (hp : HP20 PT) : PT 241 = P_wrI := hp.2.2.2.2.2.2.2.1
set_option maxRecDepth 20000 in
theorem v_wordOf_1_2 {PT : PTy} (hp : HP20 PT) : vcOk PT w_wordOf_1_2 := vc_iv [(4, 0, 8), (5, 0, 6), (6, 0, 6), (13, 0, 16), (14, 0, 7), (15, 0, 23), (17, 0, 1099511627776), (18, 0, 255), (19, 0, 8), (20, 0, 10), (21, 0, 11), (23, (-2147483648), 2147483647), (24, 1, 256)] [1, 2, 9, 10, 11, 12, 13, 14, 15, 16, 35, 36, 37, 38, 39, 40, 41, 42] (by decide +kernel) (fun ρ α => by
  intro r4 g4 b4 r5 g5 b5 r6 g6 b6 r13 g13 b13 r14 g14 b14 r15 g15 b15 r17 g17 b17 r18 g18 b18 r19 g19 b19 r20 g20 b20 r21 g21 b21 r23 g23 b23 r24 g24 b24 a1 h1 a2 h2 a9 h9 a10 h10 a11 h11 a12 h12 a13 h13 a14 h14 a15 h15 a16 h16 a35 h35 a36 h36 a37 h37 a38 h38 a39 h39 a40 h40 a41 h41 a42 h42 f0 f1 f2 f3 f4 f5 f6 f7 f8 f9 tt
  have e78 : PT 78 = P_ly := pe78_20 hp
  have e105 : PT 105 = P_cp2 := pe105_20 hp
  have e106 : PT 106 = P_rd := pe106_20 hp
  have e241 : PT 241 = P_wrI := pe241_20 hp
  have e242 : PT 242 = P_wyI := pe242_20 hp
  have e243 : PT 243 = P_slI := pe243_20 hp
  simp only [hF0, hF2, hF13, hFp_78, hFp_105, hFp_106, hFp_241, hFp_242, hFp_243, e78, e105, e106, e241, e242, e243, P_ly, P_cp2, P_rd, P_wrI, P_wyI, P_slI, den_s, den_c, Int.add_zero, List.map_cons, List.map_nil, g4.eq, g5.eq, g6.eq, g13.eq, g14.eq, g15.eq, g17.eq, g18.eq, g19.eq, g20.eq, g21.eq, g23.eq, g24.eq, h1, h2, h9, h10, h11, h12, h13, h14, h15, h16, h35, h36, h37, h38, h39, h40, h41, h42] at f0 f1 f2 f3 f4 f5 f6 f7 f8 f9 ⊢
  subst f1
  rfl)
def w_wordOf_1_3 : VC := ((bY ++ [(0, 16), (0, 7), (0, 23), (0, 1), (0, 1099511627776), (0, 255), (0, 8), (0, 10), (0, 11), ((-2147483648), 2147483647), ((-2147483648), 2147483647), (1, 256)]), [(2, [(some 18, 0), (some 24, 0)], []), (13, [(some 24, 0), (none, 1), (some 4, 0)], []), (106, [(some 19, 0), (some 20, 0)], [1, 2, 35, 36, 37, 38, 39, 40]), (105, [(some 4, 0)], [9, 10, 41, 42]), (242, [(some 17, 0), (some 18, 0), (some 13, 0), (some 15, 0), (some 14, 0), (some 19, 0), (some 20, 0), (some 4, 0), (some 5, 0), (some 6, 0)], [35, 36, 37, 38, 39, 40, 41, 42, 11, 12, 13, 14, 15, 16]), (243, [(some 18, 0), (some 4, 0)], []), (0, [(some 21, 0), (some 20, 0)], []), (0, [(some 23, 0), (none, 0)], []), (0, [(some 4, 0), (some 4, 0)], []), (78, [], [1])], (3, [(some 4, 0), (none, 0)], []))
set_option maxRecDepth 20000 in
theorem v_wordOf_1_3 {PT : PTy} (hp : HP20 PT) : vcOk PT w_wordOf_1_3 := vc_iv [(4, 0, 8), (5, 0, 6), (6, 0, 6), (13, 0, 16), (14, 0, 7), (15, 0, 23), (17, 0, 1099511627776), (18, 0, 255), (19, 0, 8), (20, 0, 10), (21, 0, 11), (23, (-2147483648), 2147483647), (24, 1, 256)] [1, 2, 9, 10, 11, 12, 13, 14, 15, 16, 35, 36, 37, 38, 39, 40, 41, 42] (by decide +kernel) (fun ρ α => by
  intro r4 g4 b4 r5 g5 b5 r6 g6 b6 r13 g13 b13 r14 g14 b14 r15 g15 b15 r17 g17 b17 r18 g18 b18 r19 g19 b19 r20 g20 b20 r21 g21 b21 r23 g23 b23 r24 g24 b24 a1 h1 a2 h2 a9 h9 a10 h10 a11 h11 a12 h12 a13 h13 a14 h14 a15 h15 a16 h16 a35 h35 a36 h36 a37 h37 a38 h38 a39 h39 a40 h40 a41 h41 a42 h42 f0 f1 f2 f3 f4 f5 f6 f7 f8 f9 tt
  have e78 : PT 78 = P_ly := pe78_20 hp
  have e105 : PT 105 = P_cp2 := pe105_20 hp
  have e106 : PT 106 = P_rd := pe106_20 hp
  have e242 : PT 242 = P_wyI := pe242_20 hp
  have e243 : PT 243 = P_slI := pe243_20 hp
  simp only [hF0, hF2, hF3, hF13, hFp_78, hFp_105, hFp_106, hFp_242, hFp_243, e78, e105, e106, e242, e243, P_ly, P_cp2, P_rd, P_wyI, P_slI, den_s, den_c, Int.add_zero, List.map_cons, List.map_nil, g4.eq, g5.eq, g6.eq, g13.eq, g14.eq, g15.eq, g17.eq, g18.eq, g19.eq, g20.eq, g21.eq, g23.eq, g24.eq, h1, h2, h9, h10, h11, h12, h13, h14, h15, h16, h35, h36, h37, h38, h39, h40, h41, h42] at f0 f1 f2 f3 f4 f5 f6 f7 f8 f9 ⊢
  subst f1
  omega)
def w_wordOf_2_0 : VC := ((bY ++ [(0, 16), (0, 7), (0, 23), (0, 1), (0, 1099511627776), (0, 255), (0, 4294967296), (0, 8), (0, 8), (0, 10), (0, 11), ((-2147483648), 2147483647), ((-2147483648), 2147483647), ((-1), 0)]), [(3, [(none, 0), (some 26, 0)], []), (28, [(some 26, 0), (some 19, 0), (none, 0)], []), (3, [(some 20, 0), (some 4, 0)], []), (106, [(some 21, 0), (some 22, 0)], [1, 2, 35, 36, 37, 38, 39, 40]), (105, [(some 4, 0)], [9, 10, 41, 42]), (242, [(some 17, 0), (some 18, 0), (some 13, 0), (some 15, 0), (some 14, 0), (some 21, 0), (some 22, 0), (some 4, 0), (some 5, 0), (some 6, 0)], [35, 36, 37, 38, 39, 40, 41, 42, 11, 12, 13, 14, 15, 16]), (244, [(some 18, 0), (some 4, 0)], []), (241, [(some 19, 0), (some 20, 0), (some 13, 0), (some 18, 0)], []), (3, [(some 4, 0), (some 20, 0)], []), (0, [(some 23, 0), (some 22, 0)], []), (0, [(some 25, 0), (none, 0)], []), (0, [(some 4, 0), (some 4, 0)], []), (78, [], [1])], (242, [(some 17, 0), (some 18, 1), (some 13, 0), (some 15, 0), (some 14, 0), (some 21, 0), (some 22, 0), (some 4, 0), (some 5, 0), (some 6, 0)], [35, 36, 37, 38, 39, 40, 41, 42, 11, 12, 13, 14, 15, 16]))
set_option maxRecDepth 20000 in
theorem v_wordOf_2_0 {PT : PTy} (hp : HP20 PT) : vcOk PT w_wordOf_2_0 := vc_iv [(4, 0, 8), (5, 0, 6), (6, 0, 6), (13, 0, 16), (14, 0, 7), (15, 0, 23), (17, 0, 1099511627776), (18, 0, 255), (19, 0, 4294967296), (20, 0, 8), (21, 0, 8), (22, 0, 10), (23, 0, 11), (25, (-2147483648), 2147483647), (26, (-1), 0)] [1, 2, 9, 10, 11, 12, 13, 14, 15, 16, 35, 36, 37, 38, 39, 40, 41, 42] (by decide +kernel) (fun ρ α => by
  intro r4 g4 b4 r5 g5 b5 r6 g6 b6 r13 g13 b13 r14 g14 b14 r15 g15 b15 r17 g17 b17 r18 g18 b18 r19 g19 b19 r20 g20 b20 r21 g21 b21 r22 g22 b22 r23 g23 b23 r25 g25 b25 r26 g26 b26 a1 h1 a2 h2 a9 h9 a10 h10 a11 h11 a12 h12 a13 h13 a14 h14 a15 h15 a16 h16 a35 h35 a36 h36 a37 h37 a38 h38 a39 h39 a40 h40 a41 h41 a42 h42 f0 f1 f2 f3 f4 f5 f6 f7 f8 f9 f10 f11 f12 tt
  have e78 : PT 78 = P_ly := pe78_20 hp
  have e105 : PT 105 = P_cp2 := pe105_20 hp
  have e106 : PT 106 = P_rd := pe106_20 hp
  have e241 : PT 241 = P_wrI := pe241_20 hp
  have e242 : PT 242 = P_wyI := pe242_20 hp
  have e244 : PT 244 = P_sjI := pe244_20 hp
  simp only [hF0, hF3, hF28, hFp_78, hFp_105, hFp_106, hFp_241, hFp_242, hFp_244, e78, e105, e106, e241, e242, e244, P_ly, P_cp2, P_rd, P_wrI, P_wyI, P_sjI, den_s, den_c, Int.add_zero, List.map_cons, List.map_nil, g4.eq, g5.eq, g6.eq, g13.eq, g14.eq, g15.eq, g17.eq, g18.eq, g19.eq, g20.eq, g21.eq, g22.eq, g23.eq, g25.eq, g26.eq, h1, h2, h9, h10, h11, h12, h13, h14, h15, h16, h35, h36, h37, h38, h39, h40, h41, h42] at f0 f1 f2 f3 f4 f5 f6 f7 f8 f9 f10 f11 f12 ⊢
  subst f1
  obtain ⟨G, hG, hs⟩ := f5
  have hw := f7
  rw [show r20 = r4 by omega] at hw
  have z : wrF r13 r18 (r4).toNat = 0 := by
    rw [← hw]
    have q := cmp_le f0
    omega
  refine ⟨G, fun i h1 h2 => ?_, ?_⟩
  · by_cases q : i = r18
    · subst q; exact Or.inr z
    · exact hG i h1 (by omega)
  · rw [smY_s (by omega), z]
    split
    · rw [Int.add_zero]; exact hs
    · exact hs)
def w_wordOf_2_1 : VC := ((bY ++ [(0, 16), (0, 7), (0, 23), (0, 1), (0, 1099511627776), (0, 255), (0, 4294967296), (0, 8), (0, 8), (0, 10), (0, 11), ((-2147483648), 2147483647), ((-2147483648), 2147483647), ((-1), 0)]), [(3, [(none, 0), (some 26, 0)], []), (28, [(some 26, 0), (some 19, 0), (none, 0)], []), (3, [(some 20, 0), (some 4, 0)], []), (106, [(some 21, 0), (some 22, 0)], [1, 2, 35, 36, 37, 38, 39, 40]), (105, [(some 4, 0)], [9, 10, 41, 42]), (242, [(some 17, 0), (some 18, 0), (some 13, 0), (some 15, 0), (some 14, 0), (some 21, 0), (some 22, 0), (some 4, 0), (some 5, 0), (some 6, 0)], [35, 36, 37, 38, 39, 40, 41, 42, 11, 12, 13, 14, 15, 16]), (244, [(some 18, 0), (some 4, 0)], []), (241, [(some 19, 0), (some 20, 0), (some 13, 0), (some 18, 0)], []), (3, [(some 4, 0), (some 20, 0)], []), (0, [(some 23, 0), (some 22, 0)], []), (0, [(some 25, 0), (none, 0)], []), (0, [(some 4, 0), (some 4, 0)], []), (78, [], [1])], (243, [(some 18, 1), (some 4, 0)], []))
set_option maxRecDepth 20000 in
theorem v_wordOf_2_1 {PT : PTy} (hp : HP20 PT) : vcOk PT w_wordOf_2_1 := vc_iv [(4, 0, 8), (5, 0, 6), (6, 0, 6), (13, 0, 16), (14, 0, 7), (15, 0, 23), (17, 0, 1099511627776), (18, 0, 255), (19, 0, 4294967296), (20, 0, 8), (21, 0, 8), (22, 0, 10), (23, 0, 11), (25, (-2147483648), 2147483647), (26, (-1), 0)] [1, 2, 9, 10, 11, 12, 13, 14, 15, 16, 35, 36, 37, 38, 39, 40, 41, 42] (by decide +kernel) (fun ρ α => by
  intro r4 g4 b4 r5 g5 b5 r6 g6 b6 r13 g13 b13 r14 g14 b14 r15 g15 b15 r17 g17 b17 r18 g18 b18 r19 g19 b19 r20 g20 b20 r21 g21 b21 r22 g22 b22 r23 g23 b23 r25 g25 b25 r26 g26 b26 a1 h1 a2 h2 a9 h9 a10 h10 a11 h11 a12 h12 a13 h13 a14 h14 a15 h15 a16 h16 a35 h35 a36 h36 a37 h37 a38 h38 a39 h39 a40 h40 a41 h41 a42 h42 f0 f1 f2 f3 f4 f5 f6 f7 f8 f9 f10 f11 f12 tt
  clear f0
  have e78 : PT 78 = P_ly := pe78_20 hp
  have e105 : PT 105 = P_cp2 := pe105_20 hp
  have e106 : PT 106 = P_rd := pe106_20 hp
  have e241 : PT 241 = P_wrI := pe241_20 hp
  have e242 : PT 242 = P_wyI := pe242_20 hp
  have e243 : PT 243 = P_slI := pe243_20 hp
  have e244 : PT 244 = P_sjI := pe244_20 hp
  simp only [hF0, hF3, hF28, hFp_78, hFp_105, hFp_106, hFp_241, hFp_242, hFp_243, hFp_244, e78, e105, e106, e241, e242, e243, e244, P_ly, P_cp2, P_rd, P_wrI, P_wyI, P_slI, P_sjI, den_s, den_c, Int.add_zero, List.map_cons, List.map_nil, g4.eq, g5.eq, g6.eq, g13.eq, g14.eq, g15.eq, g17.eq, g18.eq, g19.eq, g20.eq, g21.eq, g22.eq, g23.eq, g25.eq, g26.eq, h1, h2, h9, h10, h11, h12, h13, h14, h15, h16, h35, h36, h37, h38, h39, h40, h41, h42] at f1 f2 f3 f4 f5 f6 f7 f8 f9 f10 f11 f12 ⊢
  subst f1
  have h := f6
  omega)
def w_wordOf_2_2 : VC := ((bY ++ [(0, 16), (0, 7), (0, 23), (0, 1), (0, 1099511627776), (0, 255), (0, 4294967296), (0, 8), (0, 8), (0, 10), (0, 11), ((-2147483648), 2147483647), ((-2147483648), 2147483647), (1, 1), (0, 184), (0, 191), (0, 99), (0, 9), ((-9), (-1)), (0, 1099511627776)]), [(4, [(some 32, 0), (some 17, 0), (none, 0)], []), (0, [(none, 0), (none, 0)], []), (2, [(some 31, 0), (none, 0)], []), (5, [(some 31, 0), (some 29, 0), (some 30, 0)], []), (20, [(some 30, 0), (some 14, 0)], [36]), (20, [(some 29, 0), (some 28, 0)], [52]), (4, [(some 28, 0), (some 27, 0), (some 14, 0)], []), (6, [(some 27, 0), (none, 8), (some 15, 0)], []), (104, [(none, 24), (some 21, 0), (some 23, 0), (some 22, 0), (some 4, 0), (some 5, 0), (some 6, 0), (some 18, 0), (some 25, 0)], [35, 36, 37, 38, 39, 40, 41, 42, 11, 12, 13, 14, 15, 16, 43, 44, 45, 49, 50, 51, 52, 53, 54]), (2, [(none, 0), (some 26, 0)], []), (28, [(some 26, 0), (some 19, 0), (none, 0)], []), (3, [(some 20, 0), (some 4, 0)], []), (106, [(some 21, 0), (some 22, 0)], [1, 2, 35, 36, 37, 38, 39, 40]), (105, [(some 4, 0)], [9, 10, 41, 42]), (242, [(some 17, 0), (some 18, 0), (some 13, 0), (some 15, 0), (some 14, 0), (some 21, 0), (some 22, 0), (some 4, 0), (some 5, 0), (some 6, 0)], [35, 36, 37, 38, 39, 40, 41, 42, 11, 12, 13, 14, 15, 16]), (244, [(some 18, 0), (some 4, 0)], []), (241, [(some 19, 0), (some 20, 0), (some 13, 0), (some 18, 0)], []), (3, [(some 4, 0), (some 20, 0)], []), (0, [(some 23, 0), (some 22, 0)], []), (0, [(some 25, 0), (none, 0)], []), (0, [(some 4, 0), (some 4, 0)], []), (78, [], [1])], (242, [(some 32, 0), (some 18, 1), (some 13, 0), (some 15, 0), (some 14, 0), (some 21, 0), (some 22, 0), (some 4, 0), (some 5, 0), (some 6, 0)], [35, 36, 37, 38, 39, 40, 41, 42, 11, 12, 13, 14, 15, 16]))
theorem pe104_20 {PT : PTy} (hp : HP20 PT) : PT 104 = P_ru := hp.1.1.1.1.1.1.1.1.1.1.1.1.1.1.1.2.2.2.2.2.2.2.2.2.2.1
set_option maxRecDepth 20000 in
theorem v_wordOf_2_2 {PT : PTy} (hp : HP20 PT) : vcOk PT w_wordOf_2_2 := vc_iv [(4, 0, 8), (5, 0, 6), (6, 0, 6), (13, 0, 16), (14, 0, 7), (15, 0, 23), (17, 0, 1099511627776), (18, 0, 255), (19, 0, 4294967296), (20, 0, 8), (21, 0, 8), (22, 0, 10), (23, 0, 11), (25, (-2147483648), 2147483647), (26, 1, 1), (27, 0, 184), (28, 0, 191), (29, 0, 99), (30, 0, 9), (31, (-9), (-1)), (32, 0, 1099511627776)] [1, 2, 9, 10, 11, 12, 13, 14, 15, 16, 35, 36, 37, 38, 39, 40, 41, 42, 43, 44, 45, 49, 50, 51, 52, 53, 54] (by decide +kernel) (fun ρ α => by
  intro r4 g4 b4 r5 g5 b5 r6 g6 b6 r13 g13 b13 r14 g14 b14 r15 g15 b15 r17 g17 b17 r18 g18 b18 r19 g19 b19 r20 g20 b20 r21 g21 b21 r22 g22 b22 r23 g23 b23 r25 g25 b25 r26 g26 b26 r27 g27 b27 r28 g28 b28 r29 g29 b29 r30 g30 b30 r31 g31 b31 r32 g32 b32 a1 h1 a2 h2 a9 h9 a10 h10 a11 h11 a12 h12 a13 h13 a14 h14 a15 h15 a16 h16 a35 h35 a36 h36 a37 h37 a38 h38 a39 h39 a40 h40 a41 h41 a42 h42 a43 h43 a44 h44 a45 h45 a49 h49 a50 h50 a51 h51 a52 h52 a53 h53 a54 h54 f0 f1 f2 f3 f4 f5 f6 f7 f8 f9 f10 f11 f12 f13 f14 f15 f16 f17 f18 f19 f20 f21 tt
  clear f1 f2 f9
  have e78 : PT 78 = P_ly := pe78_20 hp
  have e104 : PT 104 = P_ru := pe104_20 hp
  have e105 : PT 105 = P_cp2 := pe105_20 hp
  have e106 : PT 106 = P_rd := pe106_20 hp
  have e241 : PT 241 = P_wrI := pe241_20 hp
  have e242 : PT 242 = P_wyI := pe242_20 hp
  have e244 : PT 244 = P_sjI := pe244_20 hp
  simp only [hF0, hF3, hF4, hF5, hF6, hF20, hF28, hFp_78, hFp_104, hFp_105, hFp_106, hFp_241, hFp_242, hFp_244, e78, e104, e105, e106, e241, e242, e244, P_ly, P_ru, P_cp2, P_rd, P_wrI, P_wyI, P_sjI, den_s, den_c, Int.add_zero, List.map_cons, List.map_nil, g4.eq, g5.eq, g6.eq, g13.eq, g14.eq, g15.eq, g17.eq, g18.eq, g19.eq, g20.eq, g21.eq, g22.eq, g23.eq, g25.eq, g26.eq, g27.eq, g28.eq, g29.eq, g30.eq, g31.eq, g32.eq, h1, h2, h9, h10, h11, h12, h13, h14, h15, h16, h35, h36, h37, h38, h39, h40, h41, h42, h43, h44, h45, h49, h50, h51, h52, h53, h54] at f0 f3 f4 f5 f6 f7 f8 f10 f11 f12 f13 f14 f15 f16 f17 f18 f19 f20 f21 ⊢
  subst f0
  subst f3
  subst f4
  subst f5
  subst f6
  subst f7
  subst f10
  obtain ⟨G, hG, hs⟩ := f14
  have hw := f16
  rw [show r20 = r4 by omega] at hw
  obtain ⟨g1, g2⟩ := f8
  have e1 : r22 = r23 := by omega
  subst e1
  have e2 : r25 = 0 := by omega
  subst e2
  refine ⟨updI G r18 0, fun i h1 h2 => ?_, ?_⟩
  · by_cases q : i = r18
    · subst q
      rw [updI_at]
      exact Or.inl ⟨_, _, _, _, _, _, ⟨_, _, _, g1, g2⟩, Or.inr ⟨rfl, by unfold fitP atD; omega⟩⟩
    · rw [updI_ne q]; exact hG i h1 (by omega)
  · rw [smY_s (by omega), smY_up, updI_at, ← hs]
    rw [if_neg (by decide)]
    try omega)
def w_wordOf_2_3 : VC := ((bY ++ [(0, 16), (0, 7), (0, 23), (0, 1), (0, 1099511627776), (0, 255), (0, 4294967296), (0, 8), (0, 8), (0, 10), (0, 11), ((-2147483648), 2147483647), ((-2147483648), 2147483647), (1, 1), (0, 184), (0, 191), (0, 99), (0, 9), ((-9), (-1)), (0, 1099511627776)]), [(4, [(some 32, 0), (some 17, 0), (none, 0)], []), (0, [(none, 0), (none, 0)], []), (2, [(some 31, 0), (none, 0)], []), (5, [(some 31, 0), (some 29, 0), (some 30, 0)], []), (20, [(some 30, 0), (some 14, 0)], [36]), (20, [(some 29, 0), (some 28, 0)], [52]), (4, [(some 28, 0), (some 27, 0), (some 14, 0)], []), (6, [(some 27, 0), (none, 8), (some 15, 0)], []), (104, [(none, 24), (some 21, 0), (some 23, 0), (some 22, 0), (some 4, 0), (some 5, 0), (some 6, 0), (some 18, 0), (some 25, 0)], [35, 36, 37, 38, 39, 40, 41, 42, 11, 12, 13, 14, 15, 16, 43, 44, 45, 49, 50, 51, 52, 53, 54]), (2, [(none, 0), (some 26, 0)], []), (28, [(some 26, 0), (some 19, 0), (none, 0)], []), (3, [(some 20, 0), (some 4, 0)], []), (106, [(some 21, 0), (some 22, 0)], [1, 2, 35, 36, 37, 38, 39, 40]), (105, [(some 4, 0)], [9, 10, 41, 42]), (242, [(some 17, 0), (some 18, 0), (some 13, 0), (some 15, 0), (some 14, 0), (some 21, 0), (some 22, 0), (some 4, 0), (some 5, 0), (some 6, 0)], [35, 36, 37, 38, 39, 40, 41, 42, 11, 12, 13, 14, 15, 16]), (244, [(some 18, 0), (some 4, 0)], []), (241, [(some 19, 0), (some 20, 0), (some 13, 0), (some 18, 0)], []), (3, [(some 4, 0), (some 20, 0)], []), (0, [(some 23, 0), (some 22, 0)], []), (0, [(some 25, 0), (none, 0)], []), (0, [(some 4, 0), (some 4, 0)], []), (78, [], [1])], (243, [(some 18, 1), (some 4, 0)], []))
set_option maxRecDepth 20000 in
theorem v_wordOf_2_3 {PT : PTy} (hp : HP20 PT) : vcOk PT w_wordOf_2_3 := vc_iv [(4, 0, 8), (5, 0, 6), (6, 0, 6), (13, 0, 16), (14, 0, 7), (15, 0, 23), (17, 0, 1099511627776), (18, 0, 255), (19, 0, 4294967296), (20, 0, 8), (21, 0, 8), (22, 0, 10), (23, 0, 11), (25, (-2147483648), 2147483647), (26, 1, 1), (27, 0, 184), (28, 0, 191), (29, 0, 99), (30, 0, 9), (31, (-9), (-1)), (32, 0, 1099511627776)] [1, 2, 9, 10, 11, 12, 13, 14, 15, 16, 35, 36, 37, 38, 39, 40, 41, 42, 43, 44, 45, 49, 50, 51, 52, 53, 54] (by decide +kernel) (fun ρ α => by
  intro r4 g4 b4 r5 g5 b5 r6 g6 b6 r13 g13 b13 r14 g14 b14 r15 g15 b15 r17 g17 b17 r18 g18 b18 r19 g19 b19 r20 g20 b20 r21 g21 b21 r22 g22 b22 r23 g23 b23 r25 g25 b25 r26 g26 b26 r27 g27 b27 r28 g28 b28 r29 g29 b29 r30 g30 b30 r31 g31 b31 r32 g32 b32 a1 h1 a2 h2 a9 h9 a10 h10 a11 h11 a12 h12 a13 h13 a14 h14 a15 h15 a16 h16 a35 h35 a36 h36 a37 h37 a38 h38 a39 h39 a40 h40 a41 h41 a42 h42 a43 h43 a44 h44 a45 h45 a49 h49 a50 h50 a51 h51 a52 h52 a53 h53 a54 h54 f0 f1 f2 f3 f4 f5 f6 f7 f8 f9 f10 f11 f12 f13 f14 f15 f16 f17 f18 f19 f20 f21 tt
  clear f1 f2 f9
  have e78 : PT 78 = P_ly := pe78_20 hp
  have e104 : PT 104 = P_ru := pe104_20 hp
  have e105 : PT 105 = P_cp2 := pe105_20 hp
  have e106 : PT 106 = P_rd := pe106_20 hp
  have e241 : PT 241 = P_wrI := pe241_20 hp
  have e242 : PT 242 = P_wyI := pe242_20 hp
  have e243 : PT 243 = P_slI := pe243_20 hp
  have e244 : PT 244 = P_sjI := pe244_20 hp
  simp only [hF0, hF3, hF4, hF5, hF6, hF20, hF28, hFp_78, hFp_104, hFp_105, hFp_106, hFp_241, hFp_242, hFp_243, hFp_244, e78, e104, e105, e106, e241, e242, e243, e244, P_ly, P_ru, P_cp2, P_rd, P_wrI, P_wyI, P_slI, P_sjI, den_s, den_c, Int.add_zero, List.map_cons, List.map_nil, g4.eq, g5.eq, g6.eq, g13.eq, g14.eq, g15.eq, g17.eq, g18.eq, g19.eq, g20.eq, g21.eq, g22.eq, g23.eq, g25.eq, g26.eq, g27.eq, g28.eq, g29.eq, g30.eq, g31.eq, g32.eq, h1, h2, h9, h10, h11, h12, h13, h14, h15, h16, h35, h36, h37, h38, h39, h40, h41, h42, h43, h44, h45, h49, h50, h51, h52, h53, h54] at f0 f3 f4 f5 f6 f7 f8 f10 f11 f12 f13 f14 f15 f16 f17 f18 f19 f20 f21 ⊢
  subst f0
  subst f3
  subst f4
  subst f5
  subst f6
  subst f7
  subst f10
  have h := f15
  omega)
def w_wordOf_2_4 : VC := ((bY ++ [(0, 16), (0, 7), (0, 23), (0, 1), (0, 1099511627776), (0, 255), (0, 4294967296), (0, 8), (0, 8), (0, 10), (0, 11), ((-2147483648), 2147483647), ((-2147483648), 2147483647), (1, 1), (0, 184), (0, 191), (0, 99), (0, 9), (2, 99), (0, 1099511627776)]), [(4, [(some 32, 0), (some 17, 0), (none, 0)], []), (0, [(none, 0), (none, 0)], []), (2, [(none, 1), (some 31, 0)], []), (3, [(some 31, 0), (none, 0)], []), (5, [(some 31, 0), (some 29, 0), (some 30, 0)], []), (20, [(some 30, 0), (some 14, 0)], [36]), (20, [(some 29, 0), (some 28, 0)], [52]), (4, [(some 28, 0), (some 27, 0), (some 14, 0)], []), (6, [(some 27, 0), (none, 8), (some 15, 0)], []), (104, [(none, 24), (some 21, 0), (some 23, 0), (some 22, 0), (some 4, 0), (some 5, 0), (some 6, 0), (some 18, 0), (some 25, 0)], [35, 36, 37, 38, 39, 40, 41, 42, 11, 12, 13, 14, 15, 16, 43, 44, 45, 49, 50, 51, 52, 53, 54]), (2, [(none, 0), (some 26, 0)], []), (28, [(some 26, 0), (some 19, 0), (none, 0)], []), (3, [(some 20, 0), (some 4, 0)], []), (106, [(some 21, 0), (some 22, 0)], [1, 2, 35, 36, 37, 38, 39, 40]), (105, [(some 4, 0)], [9, 10, 41, 42]), (242, [(some 17, 0), (some 18, 0), (some 13, 0), (some 15, 0), (some 14, 0), (some 21, 0), (some 22, 0), (some 4, 0), (some 5, 0), (some 6, 0)], [35, 36, 37, 38, 39, 40, 41, 42, 11, 12, 13, 14, 15, 16]), (244, [(some 18, 0), (some 4, 0)], []), (241, [(some 19, 0), (some 20, 0), (some 13, 0), (some 18, 0)], []), (3, [(some 4, 0), (some 20, 0)], []), (0, [(some 23, 0), (some 22, 0)], []), (0, [(some 25, 0), (none, 0)], []), (0, [(some 4, 0), (some 4, 0)], []), (78, [], [1])], (242, [(some 32, 0), (some 18, 1), (some 13, 0), (some 15, 0), (some 14, 0), (some 21, 0), (some 22, 0), (some 4, 0), (some 5, 0), (some 6, 0)], [35, 36, 37, 38, 39, 40, 41, 42, 11, 12, 13, 14, 15, 16]))
set_option maxRecDepth 20000 in
theorem v_wordOf_2_4 {PT : PTy} (hp : HP20 PT) : vcOk PT w_wordOf_2_4 := vc_iv [(4, 0, 8), (5, 0, 6), (6, 0, 6), (13, 0, 16), (14, 0, 7), (15, 0, 23), (17, 0, 1099511627776), (18, 0, 255), (19, 0, 4294967296), (20, 0, 8), (21, 0, 8), (22, 0, 10), (23, 0, 11), (25, (-2147483648), 2147483647), (26, 1, 1), (27, 0, 184), (28, 0, 191), (29, 0, 99), (30, 0, 9), (31, 2, 99), (32, 0, 1099511627776)] [1, 2, 9, 10, 11, 12, 13, 14, 15, 16, 35, 36, 37, 38, 39, 40, 41, 42, 43, 44, 45, 49, 50, 51, 52, 53, 54] (by decide +kernel) (fun ρ α => by
  intro r4 g4 b4 r5 g5 b5 r6 g6 b6 r13 g13 b13 r14 g14 b14 r15 g15 b15 r17 g17 b17 r18 g18 b18 r19 g19 b19 r20 g20 b20 r21 g21 b21 r22 g22 b22 r23 g23 b23 r25 g25 b25 r26 g26 b26 r27 g27 b27 r28 g28 b28 r29 g29 b29 r30 g30 b30 r31 g31 b31 r32 g32 b32 a1 h1 a2 h2 a9 h9 a10 h10 a11 h11 a12 h12 a13 h13 a14 h14 a15 h15 a16 h16 a35 h35 a36 h36 a37 h37 a38 h38 a39 h39 a40 h40 a41 h41 a42 h42 a43 h43 a44 h44 a45 h45 a49 h49 a50 h50 a51 h51 a52 h52 a53 h53 a54 h54 f0 f1 f2 f3 f4 f5 f6 f7 f8 f9 f10 f11 f12 f13 f14 f15 f16 f17 f18 f19 f20 f21 f22 tt
  clear f1 f2 f3 f10
  have e78 : PT 78 = P_ly := pe78_20 hp
  have e104 : PT 104 = P_ru := pe104_20 hp
  have e105 : PT 105 = P_cp2 := pe105_20 hp
  have e106 : PT 106 = P_rd := pe106_20 hp
  have e241 : PT 241 = P_wrI := pe241_20 hp
  have e242 : PT 242 = P_wyI := pe242_20 hp
  have e244 : PT 244 = P_sjI := pe244_20 hp
  simp only [hF0, hF3, hF4, hF5, hF6, hF20, hF28, hFp_78, hFp_104, hFp_105, hFp_106, hFp_241, hFp_242, hFp_244, e78, e104, e105, e106, e241, e242, e244, P_ly, P_ru, P_cp2, P_rd, P_wrI, P_wyI, P_sjI, den_s, den_c, Int.add_zero, List.map_cons, List.map_nil, g4.eq, g5.eq, g6.eq, g13.eq, g14.eq, g15.eq, g17.eq, g18.eq, g19.eq, g20.eq, g21.eq, g22.eq, g23.eq, g25.eq, g26.eq, g27.eq, g28.eq, g29.eq, g30.eq, g31.eq, g32.eq, h1, h2, h9, h10, h11, h12, h13, h14, h15, h16, h35, h36, h37, h38, h39, h40, h41, h42, h43, h44, h45, h49, h50, h51, h52, h53, h54] at f0 f4 f5 f6 f7 f8 f9 f11 f12 f13 f14 f15 f16 f17 f18 f19 f20 f21 f22 ⊢
  subst f0
  subst f4
  subst f5
  subst f6
  subst f7
  subst f8
  subst f11
  obtain ⟨G, hG, hs⟩ := f15
  have hw := f17
  rw [show r20 = r4 by omega] at hw
  obtain ⟨g1, g2⟩ := f9
  have e1 : r22 = r23 := by omega
  subst e1
  have e2 : r25 = 0 := by omega
  subst e2
  refine ⟨updI G r18 0, fun i h1 h2 => ?_, ?_⟩
  · by_cases q : i = r18
    · subst q
      rw [updI_at]
      exact Or.inl ⟨_, _, _, _, _, _, ⟨_, _, _, g1, g2⟩, Or.inr ⟨rfl, by unfold fitP atD; omega⟩⟩
    · rw [updI_ne q]; exact hG i h1 (by omega)
  · rw [smY_s (by omega), smY_up, updI_at, ← hs]
    rw [if_neg (by decide)]
    try omega)
def w_wordOf_2_5 : VC := ((bY ++ [(0, 16), (0, 7), (0, 23), (0, 1), (0, 1099511627776), (0, 255), (0, 4294967296), (0, 8), (0, 8), (0, 10), (0, 11), ((-2147483648), 2147483647), ((-2147483648), 2147483647), (1, 1), (0, 184), (0, 191), (0, 99), (0, 9), (2, 99), (0, 1099511627776)]), [(4, [(some 32, 0), (some 17, 0), (none, 0)], []), (0, [(none, 0), (none, 0)], []), (2, [(none, 1), (some 31, 0)], []), (3, [(some 31, 0), (none, 0)], []), (5, [(some 31, 0), (some 29, 0), (some 30, 0)], []), (20, [(some 30, 0), (some 14, 0)], [36]), (20, [(some 29, 0), (some 28, 0)], [52]), (4, [(some 28, 0), (some 27, 0), (some 14, 0)], []), (6, [(some 27, 0), (none, 8), (some 15, 0)], []), (104, [(none, 24), (some 21, 0), (some 23, 0), (some 22, 0), (some 4, 0), (some 5, 0), (some 6, 0), (some 18, 0), (some 25, 0)], [35, 36, 37, 38, 39, 40, 41, 42, 11, 12, 13, 14, 15, 16, 43, 44, 45, 49, 50, 51, 52, 53, 54]), (2, [(none, 0), (some 26, 0)], []), (28, [(some 26, 0), (some 19, 0), (none, 0)], []), (3, [(some 20, 0), (some 4, 0)], []), (106, [(some 21, 0), (some 22, 0)], [1, 2, 35, 36, 37, 38, 39, 40]), (105, [(some 4, 0)], [9, 10, 41, 42]), (242, [(some 17, 0), (some 18, 0), (some 13, 0), (some 15, 0), (some 14, 0), (some 21, 0), (some 22, 0), (some 4, 0), (some 5, 0), (some 6, 0)], [35, 36, 37, 38, 39, 40, 41, 42, 11, 12, 13, 14, 15, 16]), (244, [(some 18, 0), (some 4, 0)], []), (241, [(some 19, 0), (some 20, 0), (some 13, 0), (some 18, 0)], []), (3, [(some 4, 0), (some 20, 0)], []), (0, [(some 23, 0), (some 22, 0)], []), (0, [(some 25, 0), (none, 0)], []), (0, [(some 4, 0), (some 4, 0)], []), (78, [], [1])], (243, [(some 18, 1), (some 4, 0)], []))
set_option maxRecDepth 20000 in
theorem v_wordOf_2_5 {PT : PTy} (hp : HP20 PT) : vcOk PT w_wordOf_2_5 := vc_iv [(4, 0, 8), (5, 0, 6), (6, 0, 6), (13, 0, 16), (14, 0, 7), (15, 0, 23), (17, 0, 1099511627776), (18, 0, 255), (19, 0, 4294967296), (20, 0, 8), (21, 0, 8), (22, 0, 10), (23, 0, 11), (25, (-2147483648), 2147483647), (26, 1, 1), (27, 0, 184), (28, 0, 191), (29, 0, 99), (30, 0, 9), (31, 2, 99), (32, 0, 1099511627776)] [1, 2, 9, 10, 11, 12, 13, 14, 15, 16, 35, 36, 37, 38, 39, 40, 41, 42, 43, 44, 45, 49, 50, 51, 52, 53, 54] (by decide +kernel) (fun ρ α => by
  intro r4 g4 b4 r5 g5 b5 r6 g6 b6 r13 g13 b13 r14 g14 b14 r15 g15 b15 r17 g17 b17 r18 g18 b18 r19 g19 b19 r20 g20 b20 r21 g21 b21 r22 g22 b22 r23 g23 b23 r25 g25 b25 r26 g26 b26 r27 g27 b27 r28 g28 b28 r29 g29 b29 r30 g30 b30 r31 g31 b31 r32 g32 b32 a1 h1 a2 h2 a9 h9 a10 h10 a11 h11 a12 h12 a13 h13 a14 h14 a15 h15 a16 h16 a35 h35 a36 h36 a37 h37 a38 h38 a39 h39 a40 h40 a41 h41 a42 h42 a43 h43 a44 h44 a45 h45 a49 h49 a50 h50 a51 h51 a52 h52 a53 h53 a54 h54 f0 f1 f2 f3 f4 f5 f6 f7 f8 f9 f10 f11 f12 f13 f14 f15 f16 f17 f18 f19 f20 f21 f22 tt
  clear f1 f2 f3 f10
  have e78 : PT 78 = P_ly := pe78_20 hp
  have e104 : PT 104 = P_ru := pe104_20 hp
  have e105 : PT 105 = P_cp2 := pe105_20 hp
  have e106 : PT 106 = P_rd := pe106_20 hp
  have e241 : PT 241 = P_wrI := pe241_20 hp
  have e242 : PT 242 = P_wyI := pe242_20 hp
  have e243 : PT 243 = P_slI := pe243_20 hp
  have e244 : PT 244 = P_sjI := pe244_20 hp
  simp only [hF0, hF3, hF4, hF5, hF6, hF20, hF28, hFp_78, hFp_104, hFp_105, hFp_106, hFp_241, hFp_242, hFp_243, hFp_244, e78, e104, e105, e106, e241, e242, e243, e244, P_ly, P_ru, P_cp2, P_rd, P_wrI, P_wyI, P_slI, P_sjI, den_s, den_c, Int.add_zero, List.map_cons, List.map_nil, g4.eq, g5.eq, g6.eq, g13.eq, g14.eq, g15.eq, g17.eq, g18.eq, g19.eq, g20.eq, g21.eq, g22.eq, g23.eq, g25.eq, g26.eq, g27.eq, g28.eq, g29.eq, g30.eq, g31.eq, g32.eq, h1, h2, h9, h10, h11, h12, h13, h14, h15, h16, h35, h36, h37, h38, h39, h40, h41, h42, h43, h44, h45, h49, h50, h51, h52, h53, h54] at f0 f4 f5 f6 f7 f8 f9 f11 f12 f13 f14 f15 f16 f17 f18 f19 f20 f21 f22 ⊢
  subst f0
  subst f4
  subst f5
  subst f6
  subst f7
  subst f8
  subst f11
  have h := f16
  omega)
def w_wordOf_2_6 : VC := ((bY ++ [(0, 16), (0, 7), (0, 23), (0, 1), (0, 1099511627776), (0, 255), (0, 4294967296), (0, 8), (0, 8), (0, 10), (0, 11), ((-2147483648), 2147483647), ((-2147483648), 2147483647), (1, 1), (0, 184), (0, 191), (0, 99), (0, 9), (0, 1), (0, 1103806595072)]), [(4, [(some 32, 0), (some 17, 0), (some 19, 0)], []), (1, [(none, 1), (none, 0)], []), (3, [(none, 1), (some 31, 0)], []), (3, [(some 31, 0), (none, 0)], []), (5, [(some 31, 0), (some 29, 0), (some 30, 0)], []), (20, [(some 30, 0), (some 14, 0)], [36]), (20, [(some 29, 0), (some 28, 0)], [52]), (4, [(some 28, 0), (some 27, 0), (some 14, 0)], []), (6, [(some 27, 0), (none, 8), (some 15, 0)], []), (104, [(none, 24), (some 21, 0), (some 23, 0), (some 22, 0), (some 4, 0), (some 5, 0), (some 6, 0), (some 18, 0), (some 25, 0)], [35, 36, 37, 38, 39, 40, 41, 42, 11, 12, 13, 14, 15, 16, 43, 44, 45, 49, 50, 51, 52, 53, 54]), (2, [(none, 0), (some 26, 0)], []), (28, [(some 26, 0), (some 19, 0), (none, 0)], []), (3, [(some 20, 0), (some 4, 0)], []), (106, [(some 21, 0), (some 22, 0)], [1, 2, 35, 36, 37, 38, 39, 40]), (105, [(some 4, 0)], [9, 10, 41, 42]), (242, [(some 17, 0), (some 18, 0), (some 13, 0), (some 15, 0), (some 14, 0), (some 21, 0), (some 22, 0), (some 4, 0), (some 5, 0), (some 6, 0)], [35, 36, 37, 38, 39, 40, 41, 42, 11, 12, 13, 14, 15, 16]), (244, [(some 18, 0), (some 4, 0)], []), (241, [(some 19, 0), (some 20, 0), (some 13, 0), (some 18, 0)], []), (3, [(some 4, 0), (some 20, 0)], []), (0, [(some 23, 0), (some 22, 0)], []), (0, [(some 25, 0), (none, 0)], []), (0, [(some 4, 0), (some 4, 0)], []), (78, [], [1])], (3, [(some 32, 0), (none, 0)], []))
set_option maxRecDepth 20000 in
theorem v_wordOf_2_6 {PT : PTy} (hp : HP20 PT) : vcOk PT w_wordOf_2_6 := vc_iv [(4, 0, 8), (5, 0, 6), (6, 0, 6), (13, 0, 16), (14, 0, 7), (15, 0, 23), (17, 0, 1099511627776), (18, 0, 255), (19, 0, 4294967296), (20, 0, 8), (21, 0, 8), (22, 0, 10), (23, 0, 11), (25, (-2147483648), 2147483647), (26, 1, 1), (27, 0, 184), (28, 0, 191), (29, 0, 99), (30, 0, 9), (31, 0, 1), (32, 0, 1103806595072)] [1, 2, 9, 10, 11, 12, 13, 14, 15, 16, 35, 36, 37, 38, 39, 40, 41, 42, 43, 44, 45, 49, 50, 51, 52, 53, 54] (by decide +kernel) (fun ρ α => by
  intro r4 g4 b4 r5 g5 b5 r6 g6 b6 r13 g13 b13 r14 g14 b14 r15 g15 b15 r17 g17 b17 r18 g18 b18 r19 g19 b19 r20 g20 b20 r21 g21 b21 r22 g22 b22 r23 g23 b23 r25 g25 b25 r26 g26 b26 r27 g27 b27 r28 g28 b28 r29 g29 b29 r30 g30 b30 r31 g31 b31 r32 g32 b32 a1 h1 a2 h2 a9 h9 a10 h10 a11 h11 a12 h12 a13 h13 a14 h14 a15 h15 a16 h16 a35 h35 a36 h36 a37 h37 a38 h38 a39 h39 a40 h40 a41 h41 a42 h42 a43 h43 a44 h44 a45 h45 a49 h49 a50 h50 a51 h51 a52 h52 a53 h53 a54 h54 f0 f1 f2 f3 f4 f5 f6 f7 f8 f9 f10 f11 f12 f13 f14 f15 f16 f17 f18 f19 f20 f21 f22 tt
  clear f1 f2 f3 f10
  have e78 : PT 78 = P_ly := pe78_20 hp
  have e104 : PT 104 = P_ru := pe104_20 hp
  have e105 : PT 105 = P_cp2 := pe105_20 hp
  have e106 : PT 106 = P_rd := pe106_20 hp
  have e241 : PT 241 = P_wrI := pe241_20 hp
  have e242 : PT 242 = P_wyI := pe242_20 hp
  have e244 : PT 244 = P_sjI := pe244_20 hp
  simp only [hF0, hF3, hF4, hF5, hF6, hF20, hF28, hFp_78, hFp_104, hFp_105, hFp_106, hFp_241, hFp_242, hFp_244, e78, e104, e105, e106, e241, e242, e244, P_ly, P_ru, P_cp2, P_rd, P_wrI, P_wyI, P_sjI, den_s, den_c, Int.add_zero, List.map_cons, List.map_nil, g4.eq, g5.eq, g6.eq, g13.eq, g14.eq, g15.eq, g17.eq, g18.eq, g19.eq, g20.eq, g21.eq, g22.eq, g23.eq, g25.eq, g26.eq, g27.eq, g28.eq, g29.eq, g30.eq, g31.eq, g32.eq, h1, h2, h9, h10, h11, h12, h13, h14, h15, h16, h35, h36, h37, h38, h39, h40, h41, h42, h43, h44, h45, h49, h50, h51, h52, h53, h54] at f0 f4 f5 f6 f7 f8 f9 f11 f12 f13 f14 f15 f16 f17 f18 f19 f20 f21 f22 ⊢
  subst f0
  subst f4
  subst f5
  subst f6
  subst f7
  subst f8
  subst f11
  obtain ⟨G, hG, hs⟩ := f15
  have b := smY_b (c := r13) (nk := (r4).toNat) (G := G) (by omega) (by omega) (r18).toNat
  omega)
def w_wordOf_2_7 : VC := ((bY ++ [(0, 16), (0, 7), (0, 23), (0, 1), (0, 1099511627776), (0, 255), (0, 4294967296), (0, 8), (0, 8), (0, 10), (0, 11), ((-2147483648), 2147483647), ((-2147483648), 2147483647), (1, 1), (0, 184), (0, 191), (0, 99), (0, 9), (0, 1), (0, 1103806595072)]), [(4, [(some 32, 0), (some 17, 0), (some 19, 0)], []), (1, [(none, 1), (none, 0)], []), (3, [(none, 1), (some 31, 0)], []), (3, [(some 31, 0), (none, 0)], []), (5, [(some 31, 0), (some 29, 0), (some 30, 0)], []), (20, [(some 30, 0), (some 14, 0)], [36]), (20, [(some 29, 0), (some 28, 0)], [52]), (4, [(some 28, 0), (some 27, 0), (some 14, 0)], []), (6, [(some 27, 0), (none, 8), (some 15, 0)], []), (104, [(none, 24), (some 21, 0), (some 23, 0), (some 22, 0), (some 4, 0), (some 5, 0), (some 6, 0), (some 18, 0), (some 25, 0)], [35, 36, 37, 38, 39, 40, 41, 42, 11, 12, 13, 14, 15, 16, 43, 44, 45, 49, 50, 51, 52, 53, 54]), (2, [(none, 0), (some 26, 0)], []), (28, [(some 26, 0), (some 19, 0), (none, 0)], []), (3, [(some 20, 0), (some 4, 0)], []), (106, [(some 21, 0), (some 22, 0)], [1, 2, 35, 36, 37, 38, 39, 40]), (105, [(some 4, 0)], [9, 10, 41, 42]), (242, [(some 17, 0), (some 18, 0), (some 13, 0), (some 15, 0), (some 14, 0), (some 21, 0), (some 22, 0), (some 4, 0), (some 5, 0), (some 6, 0)], [35, 36, 37, 38, 39, 40, 41, 42, 11, 12, 13, 14, 15, 16]), (244, [(some 18, 0), (some 4, 0)], []), (241, [(some 19, 0), (some 20, 0), (some 13, 0), (some 18, 0)], []), (3, [(some 4, 0), (some 20, 0)], []), (0, [(some 23, 0), (some 22, 0)], []), (0, [(some 25, 0), (none, 0)], []), (0, [(some 4, 0), (some 4, 0)], []), (78, [], [1])], (3, [(none, 1099511627776), (some 32, 0)], []))
set_option maxRecDepth 20000 in
theorem v_wordOf_2_7 {PT : PTy} (hp : HP20 PT) : vcOk PT w_wordOf_2_7 := vc_iv [(4, 0, 8), (5, 0, 6), (6, 0, 6), (13, 0, 16), (14, 0, 7), (15, 0, 23), (17, 0, 1099511627776), (18, 0, 255), (19, 0, 4294967296), (20, 0, 8), (21, 0, 8), (22, 0, 10), (23, 0, 11), (25, (-2147483648), 2147483647), (26, 1, 1), (27, 0, 184), (28, 0, 191), (29, 0, 99), (30, 0, 9), (31, 0, 1), (32, 0, 1103806595072)] [1, 2, 9, 10, 11, 12, 13, 14, 15, 16, 35, 36, 37, 38, 39, 40, 41, 42, 43, 44, 45, 49, 50, 51, 52, 53, 54] (by decide +kernel) (fun ρ α => by
  intro r4 g4 b4 r5 g5 b5 r6 g6 b6 r13 g13 b13 r14 g14 b14 r15 g15 b15 r17 g17 b17 r18 g18 b18 r19 g19 b19 r20 g20 b20 r21 g21 b21 r22 g22 b22 r23 g23 b23 r25 g25 b25 r26 g26 b26 r27 g27 b27 r28 g28 b28 r29 g29 b29 r30 g30 b30 r31 g31 b31 r32 g32 b32 a1 h1 a2 h2 a9 h9 a10 h10 a11 h11 a12 h12 a13 h13 a14 h14 a15 h15 a16 h16 a35 h35 a36 h36 a37 h37 a38 h38 a39 h39 a40 h40 a41 h41 a42 h42 a43 h43 a44 h44 a45 h45 a49 h49 a50 h50 a51 h51 a52 h52 a53 h53 a54 h54 f0 f1 f2 f3 f4 f5 f6 f7 f8 f9 f10 f11 f12 f13 f14 f15 f16 f17 f18 f19 f20 f21 f22 tt
  clear f1 f2 f3 f10
  have e78 : PT 78 = P_ly := pe78_20 hp
  have e104 : PT 104 = P_ru := pe104_20 hp
  have e105 : PT 105 = P_cp2 := pe105_20 hp
  have e106 : PT 106 = P_rd := pe106_20 hp
  have e241 : PT 241 = P_wrI := pe241_20 hp
  have e242 : PT 242 = P_wyI := pe242_20 hp
  have e244 : PT 244 = P_sjI := pe244_20 hp
  simp only [hF0, hF3, hF4, hF5, hF6, hF20, hF28, hFp_78, hFp_104, hFp_105, hFp_106, hFp_241, hFp_242, hFp_244, e78, e104, e105, e106, e241, e242, e244, P_ly, P_ru, P_cp2, P_rd, P_wrI, P_wyI, P_sjI, den_s, den_c, Int.add_zero, List.map_cons, List.map_nil, g4.eq, g5.eq, g6.eq, g13.eq, g14.eq, g15.eq, g17.eq, g18.eq, g19.eq, g20.eq, g21.eq, g22.eq, g23.eq, g25.eq, g26.eq, g27.eq, g28.eq, g29.eq, g30.eq, g31.eq, g32.eq, h1, h2, h9, h10, h11, h12, h13, h14, h15, h16, h35, h36, h37, h38, h39, h40, h41, h42, h43, h44, h45, h49, h50, h51, h52, h53, h54] at f0 f4 f5 f6 f7 f8 f9 f11 f12 f13 f14 f15 f16 f17 f18 f19 f20 f21 f22 ⊢
  subst f0
  subst f4
  subst f5
  subst f6
  subst f7
  subst f8
  subst f11
  obtain ⟨G, hG, hs⟩ := f15
  have b := smY_b (c := r13) (nk := (r4).toNat) (G := G) (by omega) (by omega) (r18).toNat
  omega)
def w_wordOf_2_8 : VC := ((bY ++ [(0, 16), (0, 7), (0, 23), (0, 1), (0, 1099511627776), (0, 255), (0, 4294967296), (0, 8), (0, 8), (0, 10), (0, 11), ((-2147483648), 2147483647), ((-2147483648), 2147483647), (1, 1), (0, 184), (0, 191), (0, 99), (0, 9), (0, 1), (0, 1103806595072)]), [(4, [(some 32, 0), (some 17, 0), (some 19, 0)], []), (1, [(none, 1), (none, 0)], []), (3, [(none, 1), (some 31, 0)], []), (3, [(some 31, 0), (none, 0)], []), (5, [(some 31, 0), (some 29, 0), (some 30, 0)], []), (20, [(some 30, 0), (some 14, 0)], [36]), (20, [(some 29, 0), (some 28, 0)], [52]), (4, [(some 28, 0), (some 27, 0), (some 14, 0)], []), (6, [(some 27, 0), (none, 8), (some 15, 0)], []), (104, [(none, 24), (some 21, 0), (some 23, 0), (some 22, 0), (some 4, 0), (some 5, 0), (some 6, 0), (some 18, 0), (some 25, 0)], [35, 36, 37, 38, 39, 40, 41, 42, 11, 12, 13, 14, 15, 16, 43, 44, 45, 49, 50, 51, 52, 53, 54]), (2, [(none, 0), (some 26, 0)], []), (28, [(some 26, 0), (some 19, 0), (none, 0)], []), (3, [(some 20, 0), (some 4, 0)], []), (106, [(some 21, 0), (some 22, 0)], [1, 2, 35, 36, 37, 38, 39, 40]), (105, [(some 4, 0)], [9, 10, 41, 42]), (242, [(some 17, 0), (some 18, 0), (some 13, 0), (some 15, 0), (some 14, 0), (some 21, 0), (some 22, 0), (some 4, 0), (some 5, 0), (some 6, 0)], [35, 36, 37, 38, 39, 40, 41, 42, 11, 12, 13, 14, 15, 16]), (244, [(some 18, 0), (some 4, 0)], []), (241, [(some 19, 0), (some 20, 0), (some 13, 0), (some 18, 0)], []), (3, [(some 4, 0), (some 20, 0)], []), (0, [(some 23, 0), (some 22, 0)], []), (0, [(some 25, 0), (none, 0)], []), (0, [(some 4, 0), (some 4, 0)], []), (78, [], [1])], (242, [(some 32, 0), (some 18, 1), (some 13, 0), (some 15, 0), (some 14, 0), (some 21, 0), (some 22, 0), (some 4, 0), (some 5, 0), (some 6, 0)], [35, 36, 37, 38, 39, 40, 41, 42, 11, 12, 13, 14, 15, 16]))
set_option maxRecDepth 20000 in
theorem v_wordOf_2_8 {PT : PTy} (hp : HP20 PT) : vcOk PT w_wordOf_2_8 := vc_iv [(4, 0, 8), (5, 0, 6), (6, 0, 6), (13, 0, 16), (14, 0, 7), (15, 0, 23), (17, 0, 1099511627776), (18, 0, 255), (19, 0, 4294967296), (20, 0, 8), (21, 0, 8), (22, 0, 10), (23, 0, 11), (25, (-2147483648), 2147483647), (26, 1, 1), (27, 0, 184), (28, 0, 191), (29, 0, 99), (30, 0, 9), (31, 0, 1), (32, 0, 1103806595072)] [1, 2, 9, 10, 11, 12, 13, 14, 15, 16, 35, 36, 37, 38, 39, 40, 41, 42, 43, 44, 45, 49, 50, 51, 52, 53, 54] (by decide +kernel) (fun ρ α => by
  intro r4 g4 b4 r5 g5 b5 r6 g6 b6 r13 g13 b13 r14 g14 b14 r15 g15 b15 r17 g17 b17 r18 g18 b18 r19 g19 b19 r20 g20 b20 r21 g21 b21 r22 g22 b22 r23 g23 b23 r25 g25 b25 r26 g26 b26 r27 g27 b27 r28 g28 b28 r29 g29 b29 r30 g30 b30 r31 g31 b31 r32 g32 b32 a1 h1 a2 h2 a9 h9 a10 h10 a11 h11 a12 h12 a13 h13 a14 h14 a15 h15 a16 h16 a35 h35 a36 h36 a37 h37 a38 h38 a39 h39 a40 h40 a41 h41 a42 h42 a43 h43 a44 h44 a45 h45 a49 h49 a50 h50 a51 h51 a52 h52 a53 h53 a54 h54 f0 f1 f2 f3 f4 f5 f6 f7 f8 f9 f10 f11 f12 f13 f14 f15 f16 f17 f18 f19 f20 f21 f22 tt
  clear f1 f2 f3 f10
  have e78 : PT 78 = P_ly := pe78_20 hp
  have e104 : PT 104 = P_ru := pe104_20 hp
  have e105 : PT 105 = P_cp2 := pe105_20 hp
  have e106 : PT 106 = P_rd := pe106_20 hp
  have e241 : PT 241 = P_wrI := pe241_20 hp
  have e242 : PT 242 = P_wyI := pe242_20 hp
  have e244 : PT 244 = P_sjI := pe244_20 hp
  simp only [hF0, hF3, hF4, hF5, hF6, hF20, hF28, hFp_78, hFp_104, hFp_105, hFp_106, hFp_241, hFp_242, hFp_244, e78, e104, e105, e106, e241, e242, e244, P_ly, P_ru, P_cp2, P_rd, P_wrI, P_wyI, P_sjI, den_s, den_c, Int.add_zero, List.map_cons, List.map_nil, g4.eq, g5.eq, g6.eq, g13.eq, g14.eq, g15.eq, g17.eq, g18.eq, g19.eq, g20.eq, g21.eq, g22.eq, g23.eq, g25.eq, g26.eq, g27.eq, g28.eq, g29.eq, g30.eq, g31.eq, g32.eq, h1, h2, h9, h10, h11, h12, h13, h14, h15, h16, h35, h36, h37, h38, h39, h40, h41, h42, h43, h44, h45, h49, h50, h51, h52, h53, h54] at f0 f4 f5 f6 f7 f8 f9 f11 f12 f13 f14 f15 f16 f17 f18 f19 f20 f21 f22 ⊢
  subst f0
  subst f4
  subst f5
  subst f6
  subst f7
  subst f8
  subst f11
  obtain ⟨G, hG, hs⟩ := f15
  have hw := f17
  rw [show r20 = r4 by omega] at hw
  obtain ⟨g1, g2⟩ := f9
  have e1 : r22 = r23 := by omega
  subst e1
  have e2 : r25 = 0 := by omega
  subst e2
  refine ⟨updI G r18 1, fun i h1 h2 => ?_, ?_⟩
  · by_cases q : i = r18
    · subst q
      rw [updI_at]
      exact Or.inl ⟨_, _, _, _, _, _, ⟨_, _, _, g1, g2⟩, Or.inl ⟨rfl, by unfold fitP atD; omega⟩⟩
    · rw [updI_ne q]; exact hG i h1 (by omega)
  · rw [smY_s (by omega), smY_up, updI_at, ← hs]
    rw [if_pos rfl, ← hw])
def w_wordOf_2_9 : VC := ((bY ++ [(0, 16), (0, 7), (0, 23), (0, 1), (0, 1099511627776), (0, 255), (0, 4294967296), (0, 8), (0, 8), (0, 10), (0, 11), ((-2147483648), 2147483647), ((-2147483648), 2147483647), (1, 1), (0, 184), (0, 191), (0, 99), (0, 9), (0, 1), (0, 1103806595072)]), [(4, [(some 32, 0), (some 17, 0), (some 19, 0)], []), (1, [(none, 1), (none, 0)], []), (3, [(none, 1), (some 31, 0)], []), (3, [(some 31, 0), (none, 0)], []), (5, [(some 31, 0), (some 29, 0), (some 30, 0)], []), (20, [(some 30, 0), (some 14, 0)], [36]), (20, [(some 29, 0), (some 28, 0)], [52]), (4, [(some 28, 0), (some 27, 0), (some 14, 0)], []), (6, [(some 27, 0), (none, 8), (some 15, 0)], []), (104, [(none, 24), (some 21, 0), (some 23, 0), (some 22, 0), (some 4, 0), (some 5, 0), (some 6, 0), (some 18, 0), (some 25, 0)], [35, 36, 37, 38, 39, 40, 41, 42, 11, 12, 13, 14, 15, 16, 43, 44, 45, 49, 50, 51, 52, 53, 54]), (2, [(none, 0), (some 26, 0)], []), (28, [(some 26, 0), (some 19, 0), (none, 0)], []), (3, [(some 20, 0), (some 4, 0)], []), (106, [(some 21, 0), (some 22, 0)], [1, 2, 35, 36, 37, 38, 39, 40]), (105, [(some 4, 0)], [9, 10, 41, 42]), (242, [(some 17, 0), (some 18, 0), (some 13, 0), (some 15, 0), (some 14, 0), (some 21, 0), (some 22, 0), (some 4, 0), (some 5, 0), (some 6, 0)], [35, 36, 37, 38, 39, 40, 41, 42, 11, 12, 13, 14, 15, 16]), (244, [(some 18, 0), (some 4, 0)], []), (241, [(some 19, 0), (some 20, 0), (some 13, 0), (some 18, 0)], []), (3, [(some 4, 0), (some 20, 0)], []), (0, [(some 23, 0), (some 22, 0)], []), (0, [(some 25, 0), (none, 0)], []), (0, [(some 4, 0), (some 4, 0)], []), (78, [], [1])], (243, [(some 18, 1), (some 4, 0)], []))
set_option maxRecDepth 20000 in
theorem v_wordOf_2_9 {PT : PTy} (hp : HP20 PT) : vcOk PT w_wordOf_2_9 := vc_iv [(4, 0, 8), (5, 0, 6), (6, 0, 6), (13, 0, 16), (14, 0, 7), (15, 0, 23), (17, 0, 1099511627776), (18, 0, 255), (19, 0, 4294967296), (20, 0, 8), (21, 0, 8), (22, 0, 10), (23, 0, 11), (25, (-2147483648), 2147483647), (26, 1, 1), (27, 0, 184), (28, 0, 191), (29, 0, 99), (30, 0, 9), (31, 0, 1), (32, 0, 1103806595072)] [1, 2, 9, 10, 11, 12, 13, 14, 15, 16, 35, 36, 37, 38, 39, 40, 41, 42, 43, 44, 45, 49, 50, 51, 52, 53, 54] (by decide +kernel) (fun ρ α => by
  intro r4 g4 b4 r5 g5 b5 r6 g6 b6 r13 g13 b13 r14 g14 b14 r15 g15 b15 r17 g17 b17 r18 g18 b18 r19 g19 b19 r20 g20 b20 r21 g21 b21 r22 g22 b22 r23 g23 b23 r25 g25 b25 r26 g26 b26 r27 g27 b27 r28 g28 b28 r29 g29 b29 r30 g30 b30 r31 g31 b31 r32 g32 b32 a1 h1 a2 h2 a9 h9 a10 h10 a11 h11 a12 h12 a13 h13 a14 h14 a15 h15 a16 h16 a35 h35 a36 h36 a37 h37 a38 h38 a39 h39 a40 h40 a41 h41 a42 h42 a43 h43 a44 h44 a45 h45 a49 h49 a50 h50 a51 h51 a52 h52 a53 h53 a54 h54 f0 f1 f2 f3 f4 f5 f6 f7 f8 f9 f10 f11 f12 f13 f14 f15 f16 f17 f18 f19 f20 f21 f22 tt
  clear f1 f2 f3 f10
  have e78 : PT 78 = P_ly := pe78_20 hp
  have e104 : PT 104 = P_ru := pe104_20 hp
  have e105 : PT 105 = P_cp2 := pe105_20 hp
  have e106 : PT 106 = P_rd := pe106_20 hp
  have e241 : PT 241 = P_wrI := pe241_20 hp
  have e242 : PT 242 = P_wyI := pe242_20 hp
  have e243 : PT 243 = P_slI := pe243_20 hp
  have e244 : PT 244 = P_sjI := pe244_20 hp
  simp only [hF0, hF3, hF4, hF5, hF6, hF20, hF28, hFp_78, hFp_104, hFp_105, hFp_106, hFp_241, hFp_242, hFp_243, hFp_244, e78, e104, e105, e106, e241, e242, e243, e244, P_ly, P_ru, P_cp2, P_rd, P_wrI, P_wyI, P_slI, P_sjI, den_s, den_c, Int.add_zero, List.map_cons, List.map_nil, g4.eq, g5.eq, g6.eq, g13.eq, g14.eq, g15.eq, g17.eq, g18.eq, g19.eq, g20.eq, g21.eq, g22.eq, g23.eq, g25.eq, g26.eq, g27.eq, g28.eq, g29.eq, g30.eq, g31.eq, g32.eq, h1, h2, h9, h10, h11, h12, h13, h14, h15, h16, h35, h36, h37, h38, h39, h40, h41, h42, h43, h44, h45, h49, h50, h51, h52, h53, h54] at f0 f4 f5 f6 f7 f8 f9 f11 f12 f13 f14 f15 f16 f17 f18 f19 f20 f21 f22 ⊢
  subst f0
  subst f4
  subst f5
  subst f6
  subst f7
  subst f8
  subst f11
  have h := f16
  omega)
def w_wordOf_2_10 : VC := (([(0, 23), (0, 49), (0, 8), (0, 10), (1, 8), (0, 6), (0, 6), (0, 8), (0, 11), (0, 9), ((-2147483648), 2147483647), ((-2147483648), 2147483647), (0, 5), (0, 16), (0, 7), (0, 23), (0, 1), (0, 1099511627776), (0, 255), (0, 4294967296), (0, 7), (0, 8), (0, 10), (0, 11), ((-2147483648), 2147483647), ((-2147483648), 2147483647), ((-2147483648), 2147483647), ((-2147483648), 2147483647), (0, 68719476736)]), [(6, [(some 28, 0), (some 19, 0), (some 13, 0)], []), (0, [(none, 0), (none, 0)], []), (1, [(some 27, 0), (none, 1)], []), (10, [(some 27, 0), (some 26, 0), (none, 1)], []), (14, [(some 26, 0), (some 18, 0), (some 20, 0)], []), (2, [(some 20, 0), (some 4, 0)], []), (106, [(some 21, 0), (some 22, 0)], [1, 2, 35, 36, 37, 38, 39, 40]), (105, [(some 4, 0)], [9, 10, 41, 42]), (242, [(some 17, 0), (some 18, 0), (some 13, 0), (some 15, 0), (some 14, 0), (some 21, 0), (some 22, 0), (some 4, 0), (some 5, 0), (some 6, 0)], [35, 36, 37, 38, 39, 40, 41, 42, 11, 12, 13, 14, 15, 16]), (244, [(some 18, 0), (some 4, 0)], []), (241, [(some 19, 0), (some 20, 0), (some 13, 0), (some 18, 0)], []), (3, [(some 4, 0), (some 20, 0)], []), (0, [(some 23, 0), (some 22, 0)], []), (0, [(some 25, 0), (none, 0)], []), (0, [(some 4, 0), (some 4, 0)], []), (78, [], [1])], (3, [(some 28, 0), (none, 0)], []))
set_option maxRecDepth 20000 in
theorem v_wordOf_2_10 {PT : PTy} (hp : HP20 PT) : vcOk PT w_wordOf_2_10 := vc_iv [(4, 1, 8), (5, 0, 6), (6, 0, 6), (13, 0, 16), (14, 0, 7), (15, 0, 23), (17, 0, 1099511627776), (18, 0, 255), (19, 0, 4294967296), (20, 0, 7), (21, 0, 8), (22, 0, 10), (23, 0, 11), (25, (-2147483648), 2147483647), (26, (-2147483648), 2147483647), (27, (-2147483648), 2147483647), (28, 0, 68719476736)] [1, 2, 9, 10, 11, 12, 13, 14, 15, 16, 35, 36, 37, 38, 39, 40, 41, 42] (by decide +kernel) (fun ρ α => by
  intro r4 g4 b4 r5 g5 b5 r6 g6 b6 r13 g13 b13 r14 g14 b14 r15 g15 b15 r17 g17 b17 r18 g18 b18 r19 g19 b19 r20 g20 b20 r21 g21 b21 r22 g22 b22 r23 g23 b23 r25 g25 b25 r26 g26 b26 r27 g27 b27 r28 g28 b28 a1 h1 a2 h2 a9 h9 a10 h10 a11 h11 a12 h12 a13 h13 a14 h14 a15 h15 a16 h16 a35 h35 a36 h36 a37 h37 a38 h38 a39 h39 a40 h40 a41 h41 a42 h42 f0 f1 f2 f3 f4 f5 f6 f7 f8 f9 f10 f11 f12 f13 f14 f15 tt
  clear f1
  have e78 : PT 78 = P_ly := pe78_20 hp
  have e105 : PT 105 = P_cp2 := pe105_20 hp
  have e106 : PT 106 = P_rd := pe106_20 hp
  have e241 : PT 241 = P_wrI := pe241_20 hp
  have e242 : PT 242 = P_wyI := pe242_20 hp
  have e244 : PT 244 = P_sjI := pe244_20 hp
  simp only [hF0, hF1, hF2, hF3, hF6, hF10, hF14, hFp_78, hFp_105, hFp_106, hFp_241, hFp_242, hFp_244, e78, e105, e106, e241, e242, e244, P_ly, P_cp2, P_rd, P_wrI, P_wyI, P_sjI, den_s, den_c, Int.add_zero, List.map_cons, List.map_nil, g4.eq, g5.eq, g6.eq, g13.eq, g14.eq, g15.eq, g17.eq, g18.eq, g19.eq, g20.eq, g21.eq, g22.eq, g23.eq, g25.eq, g26.eq, g27.eq, g28.eq, h1, h2, h9, h10, h11, h12, h13, h14, h15, h16, h35, h36, h37, h38, h39, h40, h41, h42] at f0 f2 f3 f4 f5 f6 f7 f8 f9 f10 f11 f12 f13 f14 f15 ⊢
  subst f0
  subst f3
  subst f4
  have e : r19 * r13 = wrF r13 r18 (r20 + 1).toNat := by
    rw [wrF_s (by omega), if_neg f2, ← f10]
  have b := wrF_8 (c := r13) (u := r18) (n := (r20 + 1).toNat) (by omega) (by omega)
  rw [← e] at b
  first | exact b.1 | exact b.2)
def w_wordOf_2_11 : VC := (([(0, 23), (0, 49), (0, 8), (0, 10), (1, 8), (0, 6), (0, 6), (0, 8), (0, 11), (0, 9), ((-2147483648), 2147483647), ((-2147483648), 2147483647), (0, 5), (0, 16), (0, 7), (0, 23), (0, 1), (0, 1099511627776), (0, 255), (0, 4294967296), (0, 7), (0, 8), (0, 10), (0, 11), ((-2147483648), 2147483647), ((-2147483648), 2147483647), ((-2147483648), 2147483647), ((-2147483648), 2147483647), (0, 68719476736)]), [(6, [(some 28, 0), (some 19, 0), (some 13, 0)], []), (0, [(none, 0), (none, 0)], []), (1, [(some 27, 0), (none, 1)], []), (10, [(some 27, 0), (some 26, 0), (none, 1)], []), (14, [(some 26, 0), (some 18, 0), (some 20, 0)], []), (2, [(some 20, 0), (some 4, 0)], []), (106, [(some 21, 0), (some 22, 0)], [1, 2, 35, 36, 37, 38, 39, 40]), (105, [(some 4, 0)], [9, 10, 41, 42]), (242, [(some 17, 0), (some 18, 0), (some 13, 0), (some 15, 0), (some 14, 0), (some 21, 0), (some 22, 0), (some 4, 0), (some 5, 0), (some 6, 0)], [35, 36, 37, 38, 39, 40, 41, 42, 11, 12, 13, 14, 15, 16]), (244, [(some 18, 0), (some 4, 0)], []), (241, [(some 19, 0), (some 20, 0), (some 13, 0), (some 18, 0)], []), (3, [(some 4, 0), (some 20, 0)], []), (0, [(some 23, 0), (some 22, 0)], []), (0, [(some 25, 0), (none, 0)], []), (0, [(some 4, 0), (some 4, 0)], []), (78, [], [1])], (3, [(none, 4294967296), (some 28, 0)], []))
set_option maxRecDepth 20000 in
theorem v_wordOf_2_11 {PT : PTy} (hp : HP20 PT) : vcOk PT w_wordOf_2_11 := vc_iv [(4, 1, 8), (5, 0, 6), (6, 0, 6), (13, 0, 16), (14, 0, 7), (15, 0, 23), (17, 0, 1099511627776), (18, 0, 255), (19, 0, 4294967296), (20, 0, 7), (21, 0, 8), (22, 0, 10), (23, 0, 11), (25, (-2147483648), 2147483647), (26, (-2147483648), 2147483647), (27, (-2147483648), 2147483647), (28, 0, 68719476736)] [1, 2, 9, 10, 11, 12, 13, 14, 15, 16, 35, 36, 37, 38, 39, 40, 41, 42] (by decide +kernel) (fun ρ α => by
  intro r4 g4 b4 r5 g5 b5 r6 g6 b6 r13 g13 b13 r14 g14 b14 r15 g15 b15 r17 g17 b17 r18 g18 b18 r19 g19 b19 r20 g20 b20 r21 g21 b21 r22 g22 b22 r23 g23 b23 r25 g25 b25 r26 g26 b26 r27 g27 b27 r28 g28 b28 a1 h1 a2 h2 a9 h9 a10 h10 a11 h11 a12 h12 a13 h13 a14 h14 a15 h15 a16 h16 a35 h35 a36 h36 a37 h37 a38 h38 a39 h39 a40 h40 a41 h41 a42 h42 f0 f1 f2 f3 f4 f5 f6 f7 f8 f9 f10 f11 f12 f13 f14 f15 tt
  clear f1
  have e78 : PT 78 = P_ly := pe78_20 hp
  have e105 : PT 105 = P_cp2 := pe105_20 hp
  have e106 : PT 106 = P_rd := pe106_20 hp
  have e241 : PT 241 = P_wrI := pe241_20 hp
  have e242 : PT 242 = P_wyI := pe242_20 hp
  have e244 : PT 244 = P_sjI := pe244_20 hp
  simp only [hF0, hF1, hF2, hF3, hF6, hF10, hF14, hFp_78, hFp_105, hFp_106, hFp_241, hFp_242, hFp_244, e78, e105, e106, e241, e242, e244, P_ly, P_cp2, P_rd, P_wrI, P_wyI, P_sjI, den_s, den_c, Int.add_zero, List.map_cons, List.map_nil, g4.eq, g5.eq, g6.eq, g13.eq, g14.eq, g15.eq, g17.eq, g18.eq, g19.eq, g20.eq, g21.eq, g22.eq, g23.eq, g25.eq, g26.eq, g27.eq, g28.eq, h1, h2, h9, h10, h11, h12, h13, h14, h15, h16, h35, h36, h37, h38, h39, h40, h41, h42] at f0 f2 f3 f4 f5 f6 f7 f8 f9 f10 f11 f12 f13 f14 f15 ⊢
  subst f0
  subst f3
  subst f4
  have e : r19 * r13 = wrF r13 r18 (r20 + 1).toNat := by
    rw [wrF_s (by omega), if_neg f2, ← f10]
  have b := wrF_8 (c := r13) (u := r18) (n := (r20 + 1).toNat) (by omega) (by omega)
  rw [← e] at b
  first | exact b.1 | exact b.2)
def w_wordOf_2_12 : VC := (([(0, 23), (0, 49), (0, 8), (0, 10), (1, 8), (0, 6), (0, 6), (0, 8), (0, 11), (0, 9), ((-2147483648), 2147483647), ((-2147483648), 2147483647), (0, 5), (0, 16), (0, 7), (0, 23), (0, 1), (0, 1099511627776), (0, 255), (0, 4294967296), (0, 7), (0, 8), (0, 10), (0, 11), ((-2147483648), 2147483647), ((-2147483648), 2147483647), ((-2147483648), 2147483647), ((-2147483648), 2147483647), (0, 68719476736)]), [(6, [(some 28, 0), (some 19, 0), (some 13, 0)], []), (0, [(none, 0), (none, 0)], []), (1, [(some 27, 0), (none, 1)], []), (10, [(some 27, 0), (some 26, 0), (none, 1)], []), (14, [(some 26, 0), (some 18, 0), (some 20, 0)], []), (2, [(some 20, 0), (some 4, 0)], []), (106, [(some 21, 0), (some 22, 0)], [1, 2, 35, 36, 37, 38, 39, 40]), (105, [(some 4, 0)], [9, 10, 41, 42]), (242, [(some 17, 0), (some 18, 0), (some 13, 0), (some 15, 0), (some 14, 0), (some 21, 0), (some 22, 0), (some 4, 0), (some 5, 0), (some 6, 0)], [35, 36, 37, 38, 39, 40, 41, 42, 11, 12, 13, 14, 15, 16]), (244, [(some 18, 0), (some 4, 0)], []), (241, [(some 19, 0), (some 20, 0), (some 13, 0), (some 18, 0)], []), (3, [(some 4, 0), (some 20, 0)], []), (0, [(some 23, 0), (some 22, 0)], []), (0, [(some 25, 0), (none, 0)], []), (0, [(some 4, 0), (some 4, 0)], []), (78, [], [1])], (241, [(some 28, 0), (some 20, 1), (some 13, 0), (some 18, 0)], []))
set_option maxRecDepth 20000 in
theorem v_wordOf_2_12 {PT : PTy} (hp : HP20 PT) : vcOk PT w_wordOf_2_12 := vc_iv [(4, 1, 8), (5, 0, 6), (6, 0, 6), (13, 0, 16), (14, 0, 7), (15, 0, 23), (17, 0, 1099511627776), (18, 0, 255), (19, 0, 4294967296), (20, 0, 7), (21, 0, 8), (22, 0, 10), (23, 0, 11), (25, (-2147483648), 2147483647), (26, (-2147483648), 2147483647), (27, (-2147483648), 2147483647), (28, 0, 68719476736)] [1, 2, 9, 10, 11, 12, 13, 14, 15, 16, 35, 36, 37, 38, 39, 40, 41, 42] (by decide +kernel) (fun ρ α => by
  intro r4 g4 b4 r5 g5 b5 r6 g6 b6 r13 g13 b13 r14 g14 b14 r15 g15 b15 r17 g17 b17 r18 g18 b18 r19 g19 b19 r20 g20 b20 r21 g21 b21 r22 g22 b22 r23 g23 b23 r25 g25 b25 r26 g26 b26 r27 g27 b27 r28 g28 b28 a1 h1 a2 h2 a9 h9 a10 h10 a11 h11 a12 h12 a13 h13 a14 h14 a15 h15 a16 h16 a35 h35 a36 h36 a37 h37 a38 h38 a39 h39 a40 h40 a41 h41 a42 h42 f0 f1 f2 f3 f4 f5 f6 f7 f8 f9 f10 f11 f12 f13 f14 f15 tt
  clear f1
  have e78 : PT 78 = P_ly := pe78_20 hp
  have e105 : PT 105 = P_cp2 := pe105_20 hp
  have e106 : PT 106 = P_rd := pe106_20 hp
  have e241 : PT 241 = P_wrI := pe241_20 hp
  have e242 : PT 242 = P_wyI := pe242_20 hp
  have e244 : PT 244 = P_sjI := pe244_20 hp
  simp only [hF0, hF1, hF2, hF3, hF6, hF10, hF14, hFp_78, hFp_105, hFp_106, hFp_241, hFp_242, hFp_244, e78, e105, e106, e241, e242, e244, P_ly, P_cp2, P_rd, P_wrI, P_wyI, P_sjI, den_s, den_c, Int.add_zero, List.map_cons, List.map_nil, g4.eq, g5.eq, g6.eq, g13.eq, g14.eq, g15.eq, g17.eq, g18.eq, g19.eq, g20.eq, g21.eq, g22.eq, g23.eq, g25.eq, g26.eq, g27.eq, g28.eq, h1, h2, h9, h10, h11, h12, h13, h14, h15, h16, h35, h36, h37, h38, h39, h40, h41, h42] at f0 f2 f3 f4 f5 f6 f7 f8 f9 f10 f11 f12 f13 f14 f15 ⊢
  subst f0
  subst f3
  subst f4
  rw [wrF_s (by omega), if_neg f2, ← f10])
def w_wordOf_2_13 : VC := (([(0, 23), (0, 49), (0, 8), (0, 10), (1, 8), (0, 6), (0, 6), (0, 8), (0, 11), (0, 9), ((-2147483648), 2147483647), ((-2147483648), 2147483647), (0, 5), (0, 16), (0, 7), (0, 23), (0, 1), (0, 1099511627776), (0, 255), (0, 4294967296), (0, 7), (0, 8), (0, 10), (0, 11), ((-2147483648), 2147483647), ((-2147483648), 2147483647), ((-2147483648), 2147483647), ((-2147483648), 2147483647), (0, 68719476736)]), [(6, [(some 28, 0), (some 19, 0), (some 13, 0)], []), (0, [(none, 0), (none, 0)], []), (1, [(some 27, 0), (none, 1)], []), (10, [(some 27, 0), (some 26, 0), (none, 1)], []), (14, [(some 26, 0), (some 18, 0), (some 20, 0)], []), (2, [(some 20, 0), (some 4, 0)], []), (106, [(some 21, 0), (some 22, 0)], [1, 2, 35, 36, 37, 38, 39, 40]), (105, [(some 4, 0)], [9, 10, 41, 42]), (242, [(some 17, 0), (some 18, 0), (some 13, 0), (some 15, 0), (some 14, 0), (some 21, 0), (some 22, 0), (some 4, 0), (some 5, 0), (some 6, 0)], [35, 36, 37, 38, 39, 40, 41, 42, 11, 12, 13, 14, 15, 16]), (244, [(some 18, 0), (some 4, 0)], []), (241, [(some 19, 0), (some 20, 0), (some 13, 0), (some 18, 0)], []), (3, [(some 4, 0), (some 20, 0)], []), (0, [(some 23, 0), (some 22, 0)], []), (0, [(some 25, 0), (none, 0)], []), (0, [(some 4, 0), (some 4, 0)], []), (78, [], [1])], (3, [(some 4, 0), (some 20, 1)], []))
set_option maxRecDepth 20000 in
theorem v_wordOf_2_13 {PT : PTy} (hp : HP20 PT) : vcOk PT w_wordOf_2_13 := vc_iv [(4, 1, 8), (5, 0, 6), (6, 0, 6), (13, 0, 16), (14, 0, 7), (15, 0, 23), (17, 0, 1099511627776), (18, 0, 255), (19, 0, 4294967296), (20, 0, 7), (21, 0, 8), (22, 0, 10), (23, 0, 11), (25, (-2147483648), 2147483647), (26, (-2147483648), 2147483647), (27, (-2147483648), 2147483647), (28, 0, 68719476736)] [1, 2, 9, 10, 11, 12, 13, 14, 15, 16, 35, 36, 37, 38, 39, 40, 41, 42] (by decide +kernel) (fun ρ α => by
  intro r4 g4 b4 r5 g5 b5 r6 g6 b6 r13 g13 b13 r14 g14 b14 r15 g15 b15 r17 g17 b17 r18 g18 b18 r19 g19 b19 r20 g20 b20 r21 g21 b21 r22 g22 b22 r23 g23 b23 r25 g25 b25 r26 g26 b26 r27 g27 b27 r28 g28 b28 a1 h1 a2 h2 a9 h9 a10 h10 a11 h11 a12 h12 a13 h13 a14 h14 a15 h15 a16 h16 a35 h35 a36 h36 a37 h37 a38 h38 a39 h39 a40 h40 a41 h41 a42 h42 f0 f1 f2 f3 f4 f5 f6 f7 f8 f9 f10 f11 f12 f13 f14 f15 tt
  clear f1
  have e78 : PT 78 = P_ly := pe78_20 hp
  have e105 : PT 105 = P_cp2 := pe105_20 hp
  have e106 : PT 106 = P_rd := pe106_20 hp
  have e241 : PT 241 = P_wrI := pe241_20 hp
  have e242 : PT 242 = P_wyI := pe242_20 hp
  have e244 : PT 244 = P_sjI := pe244_20 hp
  simp only [hF0, hF1, hF2, hF3, hF6, hF10, hF14, hFp_78, hFp_105, hFp_106, hFp_241, hFp_242, hFp_244, e78, e105, e106, e241, e242, e244, P_ly, P_cp2, P_rd, P_wrI, P_wyI, P_sjI, den_s, den_c, Int.add_zero, List.map_cons, List.map_nil, g4.eq, g5.eq, g6.eq, g13.eq, g14.eq, g15.eq, g17.eq, g18.eq, g19.eq, g20.eq, g21.eq, g22.eq, g23.eq, g25.eq, g26.eq, g27.eq, g28.eq, h1, h2, h9, h10, h11, h12, h13, h14, h15, h16, h35, h36, h37, h38, h39, h40, h41, h42] at f0 f2 f3 f4 f5 f6 f7 f8 f9 f10 f11 f12 f13 f14 f15 ⊢
  subst f0
  subst f3
  subst f4
  omega)
def w_wordOf_2_14 : VC := (([(0, 23), (0, 49), (0, 8), (0, 10), (1, 8), (0, 6), (0, 6), (0, 8), (0, 11), (0, 9), ((-2147483648), 2147483647), ((-2147483648), 2147483647), (0, 5), (0, 16), (0, 7), (0, 23), (0, 1), (0, 1099511627776), (0, 255), (0, 4294967296), (0, 7), (0, 8), (0, 10), (0, 11), ((-2147483648), 2147483647), ((-2147483648), 2147483647), ((-2147483648), 2147483647), (1, 1), (0, 16), (0, 68719476736)]), [(6, [(some 29, 0), (some 19, 0), (some 28, 0)], []), (5, [(some 28, 0), (none, 16), (some 13, 0)], []), (1, [(none, 1), (none, 0)], []), (0, [(some 27, 0), (none, 1)], []), (10, [(some 27, 0), (some 26, 0), (none, 1)], []), (14, [(some 26, 0), (some 18, 0), (some 20, 0)], []), (2, [(some 20, 0), (some 4, 0)], []), (106, [(some 21, 0), (some 22, 0)], [1, 2, 35, 36, 37, 38, 39, 40]), (105, [(some 4, 0)], [9, 10, 41, 42]), (242, [(some 17, 0), (some 18, 0), (some 13, 0), (some 15, 0), (some 14, 0), (some 21, 0), (some 22, 0), (some 4, 0), (some 5, 0), (some 6, 0)], [35, 36, 37, 38, 39, 40, 41, 42, 11, 12, 13, 14, 15, 16]), (244, [(some 18, 0), (some 4, 0)], []), (241, [(some 19, 0), (some 20, 0), (some 13, 0), (some 18, 0)], []), (3, [(some 4, 0), (some 20, 0)], []), (0, [(some 23, 0), (some 22, 0)], []), (0, [(some 25, 0), (none, 0)], []), (0, [(some 4, 0), (some 4, 0)], []), (78, [], [1])], (3, [(some 29, 0), (none, 0)], []))
set_option maxRecDepth 20000 in
theorem v_wordOf_2_14 {PT : PTy} (hp : HP20 PT) : vcOk PT w_wordOf_2_14 := vc_iv [(4, 1, 8), (5, 0, 6), (6, 0, 6), (13, 0, 16), (14, 0, 7), (15, 0, 23), (17, 0, 1099511627776), (18, 0, 255), (19, 0, 4294967296), (20, 0, 7), (21, 0, 8), (22, 0, 10), (23, 0, 11), (25, (-2147483648), 2147483647), (26, (-2147483648), 2147483647), (27, 1, 1), (28, 0, 16), (29, 0, 68719476736)] [1, 2, 9, 10, 11, 12, 13, 14, 15, 16, 35, 36, 37, 38, 39, 40, 41, 42] (by decide +kernel) (fun ρ α => by
  intro r4 g4 b4 r5 g5 b5 r6 g6 b6 r13 g13 b13 r14 g14 b14 r15 g15 b15 r17 g17 b17 r18 g18 b18 r19 g19 b19 r20 g20 b20 r21 g21 b21 r22 g22 b22 r23 g23 b23 r25 g25 b25 r26 g26 b26 r27 g27 b27 r28 g28 b28 r29 g29 b29 a1 h1 a2 h2 a9 h9 a10 h10 a11 h11 a12 h12 a13 h13 a14 h14 a15 h15 a16 h16 a35 h35 a36 h36 a37 h37 a38 h38 a39 h39 a40 h40 a41 h41 a42 h42 f0 f1 f2 f3 f4 f5 f6 f7 f8 f9 f10 f11 f12 f13 f14 f15 f16 tt
  clear f2
  have e78 : PT 78 = P_ly := pe78_20 hp
  have e105 : PT 105 = P_cp2 := pe105_20 hp
  have e106 : PT 106 = P_rd := pe106_20 hp
  have e241 : PT 241 = P_wrI := pe241_20 hp
  have e242 : PT 242 = P_wyI := pe242_20 hp
  have e244 : PT 244 = P_sjI := pe244_20 hp
  simp only [hF0, hF2, hF3, hF5, hF6, hF10, hF14, hFp_78, hFp_105, hFp_106, hFp_241, hFp_242, hFp_244, e78, e105, e106, e241, e242, e244, P_ly, P_cp2, P_rd, P_wrI, P_wyI, P_sjI, den_s, den_c, Int.add_zero, List.map_cons, List.map_nil, g4.eq, g5.eq, g6.eq, g13.eq, g14.eq, g15.eq, g17.eq, g18.eq, g19.eq, g20.eq, g21.eq, g22.eq, g23.eq, g25.eq, g26.eq, g27.eq, g28.eq, g29.eq, h1, h2, h9, h10, h11, h12, h13, h14, h15, h16, h35, h36, h37, h38, h39, h40, h41, h42] at f0 f1 f3 f4 f5 f6 f7 f8 f9 f10 f11 f12 f13 f14 f15 f16 ⊢
  subst f0
  subst f1
  subst f4
  subst f5
  have e : r19 * (16 - r13) = wrF r13 r18 (r20 + 1).toNat := by
    rw [wrF_s (by omega), if_pos f3, ← f11]
  have b := wrF_8 (c := r13) (u := r18) (n := (r20 + 1).toNat) (by omega) (by omega)
  rw [← e] at b
  first | exact b.1 | exact b.2)
def w_wordOf_2_15 : VC := (([(0, 23), (0, 49), (0, 8), (0, 10), (1, 8), (0, 6), (0, 6), (0, 8), (0, 11), (0, 9), ((-2147483648), 2147483647), ((-2147483648), 2147483647), (0, 5), (0, 16), (0, 7), (0, 23), (0, 1), (0, 1099511627776), (0, 255), (0, 4294967296), (0, 7), (0, 8), (0, 10), (0, 11), ((-2147483648), 2147483647), ((-2147483648), 2147483647), ((-2147483648), 2147483647), (1, 1), (0, 16), (0, 68719476736)]), [(6, [(some 29, 0), (some 19, 0), (some 28, 0)], []), (5, [(some 28, 0), (none, 16), (some 13, 0)], []), (1, [(none, 1), (none, 0)], []), (0, [(some 27, 0), (none, 1)], []), (10, [(some 27, 0), (some 26, 0), (none, 1)], []), (14, [(some 26, 0), (some 18, 0), (some 20, 0)], []), (2, [(some 20, 0), (some 4, 0)], []), (106, [(some 21, 0), (some 22, 0)], [1, 2, 35, 36, 37, 38, 39, 40]), (105, [(some 4, 0)], [9, 10, 41, 42]), (242, [(some 17, 0), (some 18, 0), (some 13, 0), (some 15, 0), (some 14, 0), (some 21, 0), (some 22, 0), (some 4, 0), (some 5, 0), (some 6, 0)], [35, 36, 37, 38, 39, 40, 41, 42, 11, 12, 13, 14, 15, 16]), (244, [(some 18, 0), (some 4, 0)], []), (241, [(some 19, 0), (some 20, 0), (some 13, 0), (some 18, 0)], []), (3, [(some 4, 0), (some 20, 0)], []), (0, [(some 23, 0), (some 22, 0)], []), (0, [(some 25, 0), (none, 0)], []), (0, [(some 4, 0), (some 4, 0)], []), (78, [], [1])], (3, [(none, 4294967296), (some 29, 0)], []))
set_option maxRecDepth 20000 in
theorem v_wordOf_2_15 {PT : PTy} (hp : HP20 PT) : vcOk PT w_wordOf_2_15 := vc_iv [(4, 1, 8), (5, 0, 6), (6, 0, 6), (13, 0, 16), (14, 0, 7), (15, 0, 23), (17, 0, 1099511627776), (18, 0, 255), (19, 0, 4294967296), (20, 0, 7), (21, 0, 8), (22, 0, 10), (23, 0, 11), (25, (-2147483648), 2147483647), (26, (-2147483648), 2147483647), (27, 1, 1), (28, 0, 16), (29, 0, 68719476736)] [1, 2, 9, 10, 11, 12, 13, 14, 15, 16, 35, 36, 37, 38, 39, 40, 41, 42] (by decide +kernel) (fun ρ α => by
  intro r4 g4 b4 r5 g5 b5 r6 g6 b6 r13 g13 b13 r14 g14 b14 r15 g15 b15 r17 g17 b17 r18 g18 b18 r19 g19 b19 r20 g20 b20 r21 g21 b21 r22 g22 b22 r23 g23 b23 r25 g25 b25 r26 g26 b26 r27 g27 b27 r28 g28 b28 r29 g29 b29 a1 h1 a2 h2 a9 h9 a10 h10 a11 h11 a12 h12 a13 h13 a14 h14 a15 h15 a16 h16 a35 h35 a36 h36 a37 h37 a38 h38 a39 h39 a40 h40 a41 h41 a42 h42 f0 f1 f2 f3 f4 f5 f6 f7 f8 f9 f10 f11 f12 f13 f14 f15 f16 tt
  clear f2
  have e78 : PT 78 = P_ly := pe78_20 hp
  have e105 : PT 105 = P_cp2 := pe105_20 hp
  have e106 : PT 106 = P_rd := pe106_20 hp
  have e241 : PT 241 = P_wrI := pe241_20 hp
  have e242 : PT 242 = P_wyI := pe242_20 hp
  have e244 : PT 244 = P_sjI := pe244_20 hp
  simp only [hF0, hF2, hF3, hF5, hF6, hF10, hF14, hFp_78, hFp_105, hFp_106, hFp_241, hFp_242, hFp_244, e78, e105, e106, e241, e242, e244, P_ly, P_cp2, P_rd, P_wrI, P_wyI, P_sjI, den_s, den_c, Int.add_zero, List.map_cons, List.map_nil, g4.eq, g5.eq, g6.eq, g13.eq, g14.eq, g15.eq, g17.eq, g18.eq, g19.eq, g20.eq, g21.eq, g22.eq, g23.eq, g25.eq, g26.eq, g27.eq, g28.eq, g29.eq, h1, h2, h9, h10, h11, h12, h13, h14, h15, h16, h35, h36, h37, h38, h39, h40, h41, h42] at f0 f1 f3 f4 f5 f6 f7 f8 f9 f10 f11 f12 f13 f14 f15 f16 ⊢
  subst f0
  subst f1
  subst f4
  subst f5
  have e : r19 * (16 - r13) = wrF r13 r18 (r20 + 1).toNat := by
    rw [wrF_s (by omega), if_pos f3, ← f11]
  have b := wrF_8 (c := r13) (u := r18) (n := (r20 + 1).toNat) (by omega) (by omega)
  rw [← e] at b
  first | exact b.1 | exact b.2)
def w_wordOf_2_16 : VC := (([(0, 23), (0, 49), (0, 8), (0, 10), (1, 8), (0, 6), (0, 6), (0, 8), (0, 11), (0, 9), ((-2147483648), 2147483647), ((-2147483648), 2147483647), (0, 5), (0, 16), (0, 7), (0, 23), (0, 1), (0, 1099511627776), (0, 255), (0, 4294967296), (0, 7), (0, 8), (0, 10), (0, 11), ((-2147483648), 2147483647), ((-2147483648), 2147483647), ((-2147483648), 2147483647), (1, 1), (0, 16), (0, 68719476736)]), [(6, [(some 29, 0), (some 19, 0), (some 28, 0)], []), (5, [(some 28, 0), (none, 16), (some 13, 0)], []), (1, [(none, 1), (none, 0)], []), (0, [(some 27, 0), (none, 1)], []), (10, [(some 27, 0), (some 26, 0), (none, 1)], []), (14, [(some 26, 0), (some 18, 0), (some 20, 0)], []), (2, [(some 20, 0), (some 4, 0)], []), (106, [(some 21, 0), (some 22, 0)], [1, 2, 35, 36, 37, 38, 39, 40]), (105, [(some 4, 0)], [9, 10, 41, 42]), (242, [(some 17, 0), (some 18, 0), (some 13, 0), (some 15, 0), (some 14, 0), (some 21, 0), (some 22, 0), (some 4, 0), (some 5, 0), (some 6, 0)], [35, 36, 37, 38, 39, 40, 41, 42, 11, 12, 13, 14, 15, 16]), (244, [(some 18, 0), (some 4, 0)], []), (241, [(some 19, 0), (some 20, 0), (some 13, 0), (some 18, 0)], []), (3, [(some 4, 0), (some 20, 0)], []), (0, [(some 23, 0), (some 22, 0)], []), (0, [(some 25, 0), (none, 0)], []), (0, [(some 4, 0), (some 4, 0)], []), (78, [], [1])], (241, [(some 29, 0), (some 20, 1), (some 13, 0), (some 18, 0)], []))
set_option maxRecDepth 20000 in
theorem v_wordOf_2_16 {PT : PTy} (hp : HP20 PT) : vcOk PT w_wordOf_2_16 := vc_iv [(4, 1, 8), (5, 0, 6), (6, 0, 6), (13, 0, 16), (14, 0, 7), (15, 0, 23), (17, 0, 1099511627776), (18, 0, 255), (19, 0, 4294967296), (20, 0, 7), (21, 0, 8), (22, 0, 10), (23, 0, 11), (25, (-2147483648), 2147483647), (26, (-2147483648), 2147483647), (27, 1, 1), (28, 0, 16), (29, 0, 68719476736)] [1, 2, 9, 10, 11, 12, 13, 14, 15, 16, 35, 36, 37, 38, 39, 40, 41, 42] (by decide +kernel) (fun ρ α => by
  intro r4 g4 b4 r5 g5 b5 r6 g6 b6 r13 g13 b13 r14 g14 b14 r15 g15 b15 r17 g17 b17 r18 g18 b18 r19 g19 b19 r20 g20 b20 r21 g21 b21 r22 g22 b22 r23 g23 b23 r25 g25 b25 r26 g26 b26 r27 g27 b27 r28 g28 b28 r29 g29 b29 a1 h1 a2 h2 a9 h9 a10 h10 a11 h11 a12 h12 a13 h13 a14 h14 a15 h15 a16 h16 a35 h35 a36 h36 a37 h37 a38 h38 a39 h39 a40 h40 a41 h41 a42 h42 f0 f1 f2 f3 f4 f5 f6 f7 f8 f9 f10 f11 f12 f13 f14 f15 f16 tt
  clear f2
  have e78 : PT 78 = P_ly := pe78_20 hp
  have e105 : PT 105 = P_cp2 := pe105_20 hp
  have e106 : PT 106 = P_rd := pe106_20 hp
  have e241 : PT 241 = P_wrI := pe241_20 hp
  have e242 : PT 242 = P_wyI := pe242_20 hp
  have e244 : PT 244 = P_sjI := pe244_20 hp
  simp only [hF0, hF2, hF3, hF5, hF6, hF10, hF14, hFp_78, hFp_105, hFp_106, hFp_241, hFp_242, hFp_244, e78, e105, e106, e241, e242, e244, P_ly, P_cp2, P_rd, P_wrI, P_wyI, P_sjI, den_s, den_c, Int.add_zero, List.map_cons, List.map_nil, g4.eq, g5.eq, g6.eq, g13.eq, g14.eq, g15.eq, g17.eq, g18.eq, g19.eq, g20.eq, g21.eq, g22.eq, g23.eq, g25.eq, g26.eq, g27.eq, g28.eq, g29.eq, h1, h2, h9, h10, h11, h12, h13, h14, h15, h16, h35, h36, h37, h38, h39, h40, h41, h42] at f0 f1 f3 f4 f5 f6 f7 f8 f9 f10 f11 f12 f13 f14 f15 f16 ⊢
  subst f0
  subst f1
  subst f4
  subst f5
  rw [wrF_s (by omega), if_pos f3, ← f11])
def w_wordOf_2_17 : VC := (([(0, 23), (0, 49), (0, 8), (0, 10), (1, 8), (0, 6), (0, 6), (0, 8), (0, 11), (0, 9), ((-2147483648), 2147483647), ((-2147483648), 2147483647), (0, 5), (0, 16), (0, 7), (0, 23), (0, 1), (0, 1099511627776), (0, 255), (0, 4294967296), (0, 7), (0, 8), (0, 10), (0, 11), ((-2147483648), 2147483647), ((-2147483648), 2147483647), ((-2147483648), 2147483647), (1, 1), (0, 16), (0, 68719476736)]), [(6, [(some 29, 0), (some 19, 0), (some 28, 0)], []), (5, [(some 28, 0), (none, 16), (some 13, 0)], []), (1, [(none, 1), (none, 0)], []), (0, [(some 27, 0), (none, 1)], []), (10, [(some 27, 0), (some 26, 0), (none, 1)], []), (14, [(some 26, 0), (some 18, 0), (some 20, 0)], []), (2, [(some 20, 0), (some 4, 0)], []), (106, [(some 21, 0), (some 22, 0)], [1, 2, 35, 36, 37, 38, 39, 40]), (105, [(some 4, 0)], [9, 10, 41, 42]), (242, [(some 17, 0), (some 18, 0), (some 13, 0), (some 15, 0), (some 14, 0), (some 21, 0), (some 22, 0), (some 4, 0), (some 5, 0), (some 6, 0)], [35, 36, 37, 38, 39, 40, 41, 42, 11, 12, 13, 14, 15, 16]), (244, [(some 18, 0), (some 4, 0)], []), (241, [(some 19, 0), (some 20, 0), (some 13, 0), (some 18, 0)], []), (3, [(some 4, 0), (some 20, 0)], []), (0, [(some 23, 0), (some 22, 0)], []), (0, [(some 25, 0), (none, 0)], []), (0, [(some 4, 0), (some 4, 0)], []), (78, [], [1])], (3, [(some 4, 0), (some 20, 1)], []))
set_option maxRecDepth 20000 in
theorem v_wordOf_2_17 {PT : PTy} (hp : HP20 PT) : vcOk PT w_wordOf_2_17 := vc_iv [(4, 1, 8), (5, 0, 6), (6, 0, 6), (13, 0, 16), (14, 0, 7), (15, 0, 23), (17, 0, 1099511627776), (18, 0, 255), (19, 0, 4294967296), (20, 0, 7), (21, 0, 8), (22, 0, 10), (23, 0, 11), (25, (-2147483648), 2147483647), (26, (-2147483648), 2147483647), (27, 1, 1), (28, 0, 16), (29, 0, 68719476736)] [1, 2, 9, 10, 11, 12, 13, 14, 15, 16, 35, 36, 37, 38, 39, 40, 41, 42] (by decide +kernel) (fun ρ α => by
  intro r4 g4 b4 r5 g5 b5 r6 g6 b6 r13 g13 b13 r14 g14 b14 r15 g15 b15 r17 g17 b17 r18 g18 b18 r19 g19 b19 r20 g20 b20 r21 g21 b21 r22 g22 b22 r23 g23 b23 r25 g25 b25 r26 g26 b26 r27 g27 b27 r28 g28 b28 r29 g29 b29 a1 h1 a2 h2 a9 h9 a10 h10 a11 h11 a12 h12 a13 h13 a14 h14 a15 h15 a16 h16 a35 h35 a36 h36 a37 h37 a38 h38 a39 h39 a40 h40 a41 h41 a42 h42 f0 f1 f2 f3 f4 f5 f6 f7 f8 f9 f10 f11 f12 f13 f14 f15 f16 tt
  clear f2
  have e78 : PT 78 = P_ly := pe78_20 hp
  have e105 : PT 105 = P_cp2 := pe105_20 hp
  have e106 : PT 106 = P_rd := pe106_20 hp
  have e241 : PT 241 = P_wrI := pe241_20 hp
  have e242 : PT 242 = P_wyI := pe242_20 hp
  have e244 : PT 244 = P_sjI := pe244_20 hp
  simp only [hF0, hF2, hF3, hF5, hF6, hF10, hF14, hFp_78, hFp_105, hFp_106, hFp_241, hFp_242, hFp_244, e78, e105, e106, e241, e242, e244, P_ly, P_cp2, P_rd, P_wrI, P_wyI, P_sjI, den_s, den_c, Int.add_zero, List.map_cons, List.map_nil, g4.eq, g5.eq, g6.eq, g13.eq, g14.eq, g15.eq, g17.eq, g18.eq, g19.eq, g20.eq, g21.eq, g22.eq, g23.eq, g25.eq, g26.eq, g27.eq, g28.eq, g29.eq, h1, h2, h9, h10, h11, h12, h13, h14, h15, h16, h35, h36, h37, h38, h39, h40, h41, h42] at f0 f1 f3 f4 f5 f6 f7 f8 f9 f10 f11 f12 f13 f14 f15 f16 ⊢
  subst f0
  subst f1
  subst f4
  subst f5
  omega)
set_option maxRecDepth 1000000 in
theorem k_wordOf {PT : PTy} (hp : HP20 PT) : wfX c_wordOf = true ∧ xcOk PT c_wordOf := xctr (xl (k_runs hp.1.1.1.1.1.1.1.1.1.1.1.1.1.1.1) (xl (k_asTold hp.1.1.1.1.1.1.1.1.1.1.1.1.1.1.1) (xl (k_lowX hp) (xl0)))) c_wordOf 72 mX7_wordOf rfl h_wordOf (by decide +kernel) (by decide +kernel) (by decide) (vcs_by [w_wordOf_0_0, w_wordOf_0_1] (by decide +kernel) (vc (v_wordOf_0_0 hp) (vc (v_wordOf_0_1 hp) vn))) (fmc (vcs_by [w_wordOf_1_0, w_wordOf_1_1, w_wordOf_1_2, w_wordOf_1_3] (by decide +kernel) (vc (v_wordOf_1_0 hp) (vc (v_wordOf_1_1 hp) (vc (v_wordOf_1_2 hp) (vc (v_wordOf_1_3 hp) vn))))) (fmc (vcs_by [w_wordOf_2_0, w_wordOf_2_1, w_wordOf_2_2, w_wordOf_2_3, w_wordOf_2_4, w_wordOf_2_5, w_wordOf_2_6, w_wordOf_2_7, w_wordOf_2_8, w_wordOf_2_9, w_wordOf_2_10, w_wordOf_2_11, w_wordOf_2_12, w_wordOf_2_13, w_wordOf_2_14, w_wordOf_2_15, w_wordOf_2_16, w_wordOf_2_17] (by decide +kernel) (vc (v_wordOf_2_0 hp) (vc (v_wordOf_2_1 hp) (vc (v_wordOf_2_2 hp) (vc (v_wordOf_2_3 hp) (vc (v_wordOf_2_4 hp) (vc (v_wordOf_2_5 hp) (vc (v_wordOf_2_6 hp) (vc (v_wordOf_2_7 hp) (vc (v_wordOf_2_8 hp) (vc (v_wordOf_2_9 hp) (vc (v_wordOf_2_10 hp) (vc (v_wordOf_2_11 hp) (vc (v_wordOf_2_12 hp) (vc (v_wordOf_2_13 hp) (vc (v_wordOf_2_14 hp) (vc (v_wordOf_2_15 hp) (vc (v_wordOf_2_16 hp) (vc (v_wordOf_2_17 hp) vn))))))))))))))))))) fmn))
def c_yo_word : XC := (181, 7, (bY ++ [((-2147483648), 2147483647), ((-2147483648), 2147483647), ((-2147483648), 2147483647), ((-2147483648), 2147483647)]), [.inr (.inl 0), .inl (some 13, 0), .inl (some 14, 0), .inl (some 15, 0), .inl (some 16, 0)], gY2, [(78, [], [1])], [((bY ++ [((-2147483648), 2147483647), ((-2147483648), 2147483647), ((-2147483648), 2147483647), ((-2147483648), 2147483647), ((-9223372036854775808), 9223372036854775807), (0, 8), (0, 10), (0, 11), (0, 9), ((-2147483648), 2147483647), ((-2147483648), 2147483647)]), some (.inr (.inr (some (some 17, 0)))), (hst gY2 [(0, .inr (.inr (.inr (7, [.inr (.inl 1), .inr (.inl 2), .inl (some 18, 0), .inr (.inl 3), .inr (.inl 4), .inl (some 19, 0), .inr (.inl 5), .inr (.inl 6), .inr (.inl 7), .inr (.inl 8), .inl (some 4, 0), .inr (.inl 9), .inr (.inl 10), .inl (some 5, 0), .inr (.inl 11), .inr (.inl 12), .inr (.inl 13), .inl (some 6, 0), .inr (.inl 14), .inr (.inl 15), .inr (.inl 16), .inl (some 20, 0), .inl (some 21, 0), .inr (.inl 17), .inr (.inl 18), .inl (some 22, 0), .inl (some 23, 0), .inr (.inl 19), .inr (.inl 20), .inr (.inl 21), .inr (.inl 22), .inr (.inl 23), .inr (.inl 24), .inr (.inl 25), .inl (some 7, 0), .inr (.inl 26), .inr (.inl 27), .inr (.inl 28), .inr (.inl 29), .inr (.inl 30), .inr (.inl 31), .inr (.inl 32), .inr (.inl 33), .inr (.inl 34), .inl (some 12, 0)]))))]), [0, 1, 2, 35, 36, 37, 38, 39, 40, 9, 10, 11, 12, 13, 14, 15, 16, 41, 42, 43, 44, 45, 46, 47, 48, 25, 26, 27, 28, 29, 30, 31, 32, 33, 34], 49, [(247, [(some 17, 0), (some 13, 0), (some 14, 0), (some 15, 0), (some 16, 0), (some 18, 0), (some 19, 0), (some 4, 0), (some 5, 0), (some 6, 0)], [1, 2, 35, 36, 37, 38, 39, 40, 41, 42, 9, 10, 11, 12, 13, 14, 15, 16])])])
def h_yo_word : List XH := []
def w_yo_word_0_0 : VC := ((bY ++ [((-2147483648), (-1)), ((-2147483648), 2147483647), ((-2147483648), 2147483647), ((-2147483648), 2147483647), ((-9223372036854775806), (-9223372036854775806))]), [(5, [(some 17, 0), (none, (-9223372036854775808)), (none, (-2))], []), (0, [(none, 0), (none, 0)], []), (2, [(some 13, 0), (none, 0)], []), (78, [], [1])], (247, [(some 17, 0), (some 13, 0), (some 14, 0), (some 15, 0), (some 16, 0), (some 2, 0), (some 3, 0), (some 4, 0), (some 5, 0), (some 6, 0)], [1, 2, 3, 4, 5, 6, 7, 8, 17, 18, 9, 10, 11, 12, 13, 14, 15, 16]))
theorem pe247_20 {PT : PTy} (hp : HP20 PT) : PT 247 = P_wdY := hp.2.2.2.2.2.2.2.2.2.2.2.2.2.1
set_option maxRecDepth 20000 in
theorem v_yo_word_0_0 {PT : PTy} (hp : HP20 PT) : vcOk PT w_yo_word_0_0 := vc_iv [(2, 0, 8), (3, 0, 10), (4, 0, 8), (5, 0, 6), (6, 0, 6), (13, (-2147483648), (-1)), (14, (-2147483648), 2147483647), (15, (-2147483648), 2147483647), (16, (-2147483648), 2147483647), (17, (-9223372036854775806), (-9223372036854775806))] [1, 2, 3, 4, 5, 6, 7, 8, 9, 10, 11, 12, 13, 14, 15, 16, 17, 18] (by decide +kernel) (fun ρ α => by
  intro r2 g2 b2 r3 g3 b3 r4 g4 b4 r5 g5 b5 r6 g6 b6 r13 g13 b13 r14 g14 b14 r15 g15 b15 r16 g16 b16 r17 g17 b17 a1 h1 a2 h2 a3 h3 a4 h4 a5 h5 a6 h6 a7 h7 a8 h8 a9 h9 a10 h10 a11 h11 a12 h12 a13 h13 a14 h14 a15 h15 a16 h16 a17 h17 a18 h18 f0 f1 f2 f3 tt
  clear f1 f2
  have e78 : PT 78 = P_ly := pe78_20 hp
  have e247 : PT 247 = P_wdY := pe247_20 hp
  simp only [hF5, hFp_78, hFp_247, e78, e247, P_ly, P_wdY, den_s, den_c, Int.add_zero, List.map_cons, List.map_nil, g2.eq, g3.eq, g4.eq, g5.eq, g6.eq, g13.eq, g14.eq, g15.eq, g16.eq, g17.eq, h1, h2, h3, h4, h5, h6, h7, h8, h9, h10, h11, h12, h13, h14, h15, h16, h17, h18] at f0 f3 ⊢
  subst f0
  obtain ⟨n0, hn⟩ := nP_ex (a1 0) a2
  exact ⟨n0, hn, by exact ⟨fun _ => (by first | rfl | trivial), fun h => by exfalso; omega⟩⟩)
def w_yo_word_0_1 : VC := ((bY ++ [(17, 2147483647), ((-2147483648), 2147483647), ((-2147483648), 2147483647), ((-2147483648), 2147483647), ((-9223372036854775806), (-9223372036854775806))]), [(5, [(some 17, 0), (none, (-9223372036854775808)), (none, (-2))], []), (0, [(none, 0), (none, 0)], []), (2, [(none, 16), (some 13, 0)], []), (3, [(some 13, 0), (none, 0)], []), (78, [], [1])], (247, [(some 17, 0), (some 13, 0), (some 14, 0), (some 15, 0), (some 16, 0), (some 2, 0), (some 3, 0), (some 4, 0), (some 5, 0), (some 6, 0)], [1, 2, 3, 4, 5, 6, 7, 8, 17, 18, 9, 10, 11, 12, 13, 14, 15, 16]))
set_option maxRecDepth 20000 in
theorem v_yo_word_0_1 {PT : PTy} (hp : HP20 PT) : vcOk PT w_yo_word_0_1 := vc_iv [(2, 0, 8), (3, 0, 10), (4, 0, 8), (5, 0, 6), (6, 0, 6), (13, 17, 2147483647), (14, (-2147483648), 2147483647), (15, (-2147483648), 2147483647), (16, (-2147483648), 2147483647), (17, (-9223372036854775806), (-9223372036854775806))] [1, 2, 3, 4, 5, 6, 7, 8, 9, 10, 11, 12, 13, 14, 15, 16, 17, 18] (by decide +kernel) (fun ρ α => by
  intro r2 g2 b2 r3 g3 b3 r4 g4 b4 r5 g5 b5 r6 g6 b6 r13 g13 b13 r14 g14 b14 r15 g15 b15 r16 g16 b16 r17 g17 b17 a1 h1 a2 h2 a3 h3 a4 h4 a5 h5 a6 h6 a7 h7 a8 h8 a9 h9 a10 h10 a11 h11 a12 h12 a13 h13 a14 h14 a15 h15 a16 h16 a17 h17 a18 h18 f0 f1 f2 f3 f4 tt
  clear f1 f2 f3
  have e78 : PT 78 = P_ly := pe78_20 hp
  have e247 : PT 247 = P_wdY := pe247_20 hp
  simp only [hF5, hFp_78, hFp_247, e78, e247, P_ly, P_wdY, den_s, den_c, Int.add_zero, List.map_cons, List.map_nil, g2.eq, g3.eq, g4.eq, g5.eq, g6.eq, g13.eq, g14.eq, g15.eq, g16.eq, g17.eq, h1, h2, h3, h4, h5, h6, h7, h8, h9, h10, h11, h12, h13, h14, h15, h16, h17, h18] at f0 f4 ⊢
  subst f0
  obtain ⟨n0, hn⟩ := nP_ex (a1 0) a2
  exact ⟨n0, hn, by exact ⟨fun _ => (by first | rfl | trivial), fun h => by exfalso; omega⟩⟩)
def w_yo_word_0_2 : VC := ((bY ++ [(0, 16), ((-2147483648), (-1)), ((-2147483648), 2147483647), ((-2147483648), 2147483647), ((-1), 54), (0, 8), (0, 10), ((-9223372036854775806), (-9223372036854775806))]), [(5, [(some 20, 0), (none, (-9223372036854775808)), (none, (-2))], []), (0, [(none, 0), (none, 0)], []), (2, [(some 14, 0), (none, 0)], []), (79, [(some 17, 0), (none, 0), (some 18, 0), (some 19, 0)], [1, 2, 35, 36, 37, 38, 39, 40]), (1, [(none, 1), (none, 0)], []), (3, [(none, 16), (some 13, 0)], []), (3, [(some 13, 0), (none, 0)], []), (78, [], [1])], (247, [(some 20, 0), (some 13, 0), (some 14, 0), (some 15, 0), (some 16, 0), (some 18, 0), (some 19, 0), (some 4, 0), (some 5, 0), (some 6, 0)], [1, 2, 35, 36, 37, 38, 39, 40, 17, 18, 9, 10, 11, 12, 13, 14, 15, 16]))
theorem pe79_20 {PT : PTy} (hp : HP20 PT) : PT 79 = P_fo := hp.1.1.1.1.1.1.1.1.1.1.1.1.1.1.1.1.1.1.2.2.2.2.2.2.2.2.1
set_option maxRecDepth 20000 in
theorem v_yo_word_0_2 {PT : PTy} (hp : HP20 PT) : vcOk PT w_yo_word_0_2 := vc_iv [(4, 0, 8), (5, 0, 6), (6, 0, 6), (13, 0, 16), (14, (-2147483648), (-1)), (15, (-2147483648), 2147483647), (16, (-2147483648), 2147483647), (17, (-1), 54), (18, 0, 8), (19, 0, 10), (20, (-9223372036854775806), (-9223372036854775806))] [1, 2, 9, 10, 11, 12, 13, 14, 15, 16, 17, 18, 35, 36, 37, 38, 39, 40] (by decide +kernel) (fun ρ α => by
  intro r4 g4 b4 r5 g5 b5 r6 g6 b6 r13 g13 b13 r14 g14 b14 r15 g15 b15 r16 g16 b16 r17 g17 b17 r18 g18 b18 r19 g19 b19 r20 g20 b20 a1 h1 a2 h2 a9 h9 a10 h10 a11 h11 a12 h12 a13 h13 a14 h14 a15 h15 a16 h16 a17 h17 a18 h18 a35 h35 a36 h36 a37 h37 a38 h38 a39 h39 a40 h40 f0 f1 f2 f3 f4 f5 f6 f7 tt
  clear f1 f2 f4 f5 f6
  have e78 : PT 78 = P_ly := pe78_20 hp
  have e79 : PT 79 = P_fo := pe79_20 hp
  have e247 : PT 247 = P_wdY := pe247_20 hp
  simp only [hF5, hFp_78, hFp_79, hFp_247, e78, e79, e247, P_ly, P_fo, P_wdY, den_s, den_c, Int.add_zero, List.map_cons, List.map_nil, g4.eq, g5.eq, g6.eq, g13.eq, g14.eq, g15.eq, g16.eq, g17.eq, g18.eq, g19.eq, g20.eq, h1, h2, h9, h10, h11, h12, h13, h14, h15, h16, h17, h18, h35, h36, h37, h38, h39, h40] at f0 f3 f7 ⊢
  subst f0
  obtain ⟨x, y, h1, h2, -⟩ := f3
  exact ⟨_, h1.2.1, by exact ⟨fun _ => (by first | rfl | trivial), fun h => by exfalso; omega⟩⟩)
def w_yo_word_0_3 : VC := ((bY ++ [(0, 16), (0, 2147483647), ((-2147483648), 2147483647), ((-2147483648), 2147483647), ((-1), 54), (0, 8), (0, 10), ((-9223372036854775806), (-9223372036854775806))]), [(5, [(some 20, 0), (none, (-9223372036854775808)), (none, (-2))], []), (0, [(none, 0), (none, 0)], []), (2, [(some 18, (-1)), (some 14, 0)], []), (3, [(some 14, 0), (none, 0)], []), (79, [(some 17, 0), (none, 0), (some 18, 0), (some 19, 0)], [1, 2, 35, 36, 37, 38, 39, 40]), (1, [(none, 1), (none, 0)], []), (3, [(none, 16), (some 13, 0)], []), (3, [(some 13, 0), (none, 0)], []), (78, [], [1])], (247, [(some 20, 0), (some 13, 0), (some 14, 0), (some 15, 0), (some 16, 0), (some 18, 0), (some 19, 0), (some 4, 0), (some 5, 0), (some 6, 0)], [1, 2, 35, 36, 37, 38, 39, 40, 17, 18, 9, 10, 11, 12, 13, 14, 15, 16]))
set_option maxRecDepth 20000 in
theorem v_yo_word_0_3 {PT : PTy} (hp : HP20 PT) : vcOk PT w_yo_word_0_3 := vc_iv [(4, 0, 8), (5, 0, 6), (6, 0, 6), (13, 0, 16), (14, 0, 2147483647), (15, (-2147483648), 2147483647), (16, (-2147483648), 2147483647), (17, (-1), 54), (18, 0, 8), (19, 0, 10), (20, (-9223372036854775806), (-9223372036854775806))] [1, 2, 9, 10, 11, 12, 13, 14, 15, 16, 17, 18, 35, 36, 37, 38, 39, 40] (by decide +kernel) (fun ρ α => by
  intro r4 g4 b4 r5 g5 b5 r6 g6 b6 r13 g13 b13 r14 g14 b14 r15 g15 b15 r16 g16 b16 r17 g17 b17 r18 g18 b18 r19 g19 b19 r20 g20 b20 a1 h1 a2 h2 a9 h9 a10 h10 a11 h11 a12 h12 a13 h13 a14 h14 a15 h15 a16 h16 a17 h17 a18 h18 a35 h35 a36 h36 a37 h37 a38 h38 a39 h39 a40 h40 f0 f1 f2 f3 f4 f5 f6 f7 f8 tt
  clear f1 f3 f5 f6 f7
  have e78 : PT 78 = P_ly := pe78_20 hp
  have e79 : PT 79 = P_fo := pe79_20 hp
  have e247 : PT 247 = P_wdY := pe247_20 hp
  simp only [hF2, hF5, hFp_78, hFp_79, hFp_247, e78, e79, e247, P_ly, P_fo, P_wdY, den_s, den_c, Int.add_zero, List.map_cons, List.map_nil, g4.eq, g5.eq, g6.eq, g13.eq, g14.eq, g15.eq, g16.eq, g17.eq, g18.eq, g19.eq, g20.eq, h1, h2, h9, h10, h11, h12, h13, h14, h15, h16, h17, h18, h35, h36, h37, h38, h39, h40] at f0 f2 f4 f8 ⊢
  subst f0
  obtain ⟨x, y, h1, h2, -⟩ := f4
  exact ⟨_, h1.2.1, by exact ⟨fun _ => (by first | rfl | trivial), fun h => by exfalso; omega⟩⟩)
def w_yo_word_0_4 : VC := ((bY ++ [(0, 16), (0, 7), ((-2147483648), (-1)), ((-2147483648), 2147483647), ((-1), 54), (1, 8), (0, 10), ((-9223372036854775806), (-9223372036854775806))]), [(5, [(some 20, 0), (none, (-9223372036854775808)), (none, (-2))], []), (0, [(none, 0), (none, 0)], []), (2, [(some 15, 0), (none, 0)], []), (1, [(none, 1), (none, 0)], []), (3, [(some 18, (-1)), (some 14, 0)], []), (3, [(some 14, 0), (none, 0)], []), (79, [(some 17, 0), (none, 0), (some 18, 0), (some 19, 0)], [1, 2, 35, 36, 37, 38, 39, 40]), (1, [(none, 1), (none, 0)], []), (3, [(none, 16), (some 13, 0)], []), (3, [(some 13, 0), (none, 0)], []), (78, [], [1])], (247, [(some 20, 0), (some 13, 0), (some 14, 0), (some 15, 0), (some 16, 0), (some 18, 0), (some 19, 0), (some 4, 0), (some 5, 0), (some 6, 0)], [1, 2, 35, 36, 37, 38, 39, 40, 17, 18, 9, 10, 11, 12, 13, 14, 15, 16]))
set_option maxRecDepth 20000 in
theorem v_yo_word_0_4 {PT : PTy} (hp : HP20 PT) : vcOk PT w_yo_word_0_4 := vc_iv [(4, 0, 8), (5, 0, 6), (6, 0, 6), (13, 0, 16), (14, 0, 7), (15, (-2147483648), (-1)), (16, (-2147483648), 2147483647), (17, (-1), 54), (18, 1, 8), (19, 0, 10), (20, (-9223372036854775806), (-9223372036854775806))] [1, 2, 9, 10, 11, 12, 13, 14, 15, 16, 17, 18, 35, 36, 37, 38, 39, 40] (by decide +kernel) (fun ρ α => by
  intro r4 g4 b4 r5 g5 b5 r6 g6 b6 r13 g13 b13 r14 g14 b14 r15 g15 b15 r16 g16 b16 r17 g17 b17 r18 g18 b18 r19 g19 b19 r20 g20 b20 a1 h1 a2 h2 a9 h9 a10 h10 a11 h11 a12 h12 a13 h13 a14 h14 a15 h15 a16 h16 a17 h17 a18 h18 a35 h35 a36 h36 a37 h37 a38 h38 a39 h39 a40 h40 f0 f1 f2 f3 f4 f5 f6 f7 f8 f9 f10 tt
  clear f1 f2 f3 f5 f7 f8 f9
  have e78 : PT 78 = P_ly := pe78_20 hp
  have e79 : PT 79 = P_fo := pe79_20 hp
  have e247 : PT 247 = P_wdY := pe247_20 hp
  simp only [hF3, hF5, hFp_78, hFp_79, hFp_247, e78, e79, e247, P_ly, P_fo, P_wdY, den_s, den_c, Int.add_zero, List.map_cons, List.map_nil, g4.eq, g5.eq, g6.eq, g13.eq, g14.eq, g15.eq, g16.eq, g17.eq, g18.eq, g19.eq, g20.eq, h1, h2, h9, h10, h11, h12, h13, h14, h15, h16, h17, h18, h35, h36, h37, h38, h39, h40] at f0 f4 f6 f10 ⊢
  subst f0
  obtain ⟨x, y, h1, h2, -⟩ := f6
  exact ⟨_, h1.2.1, by exact ⟨fun _ => (by first | rfl | trivial), fun h => by exfalso; omega⟩⟩)
def w_yo_word_0_5 : VC := ((bY ++ [(0, 16), (0, 7), (24, 2147483647), ((-2147483648), 2147483647), ((-1), 54), (1, 8), (0, 10), ((-9223372036854775806), (-9223372036854775806))]), [(5, [(some 20, 0), (none, (-9223372036854775808)), (none, (-2))], []), (0, [(none, 0), (none, 0)], []), (2, [(none, 23), (some 15, 0)], []), (3, [(some 15, 0), (none, 0)], []), (1, [(none, 1), (none, 0)], []), (3, [(some 18, (-1)), (some 14, 0)], []), (3, [(some 14, 0), (none, 0)], []), (79, [(some 17, 0), (none, 0), (some 18, 0), (some 19, 0)], [1, 2, 35, 36, 37, 38, 39, 40]), (1, [(none, 1), (none, 0)], []), (3, [(none, 16), (some 13, 0)], []), (3, [(some 13, 0), (none, 0)], []), (78, [], [1])], (247, [(some 20, 0), (some 13, 0), (some 14, 0), (some 15, 0), (some 16, 0), (some 18, 0), (some 19, 0), (some 4, 0), (some 5, 0), (some 6, 0)], [1, 2, 35, 36, 37, 38, 39, 40, 17, 18, 9, 10, 11, 12, 13, 14, 15, 16]))
set_option maxRecDepth 20000 in
theorem v_yo_word_0_5 {PT : PTy} (hp : HP20 PT) : vcOk PT w_yo_word_0_5 := vc_iv [(4, 0, 8), (5, 0, 6), (6, 0, 6), (13, 0, 16), (14, 0, 7), (15, 24, 2147483647), (16, (-2147483648), 2147483647), (17, (-1), 54), (18, 1, 8), (19, 0, 10), (20, (-9223372036854775806), (-9223372036854775806))] [1, 2, 9, 10, 11, 12, 13, 14, 15, 16, 17, 18, 35, 36, 37, 38, 39, 40] (by decide +kernel) (fun ρ α => by
  intro r4 g4 b4 r5 g5 b5 r6 g6 b6 r13 g13 b13 r14 g14 b14 r15 g15 b15 r16 g16 b16 r17 g17 b17 r18 g18 b18 r19 g19 b19 r20 g20 b20 a1 h1 a2 h2 a9 h9 a10 h10 a11 h11 a12 h12 a13 h13 a14 h14 a15 h15 a16 h16 a17 h17 a18 h18 a35 h35 a36 h36 a37 h37 a38 h38 a39 h39 a40 h40 f0 f1 f2 f3 f4 f5 f6 f7 f8 f9 f10 f11 tt
  clear f1 f2 f3 f4 f6 f8 f9 f10
  have e78 : PT 78 = P_ly := pe78_20 hp
  have e79 : PT 79 = P_fo := pe79_20 hp
  have e247 : PT 247 = P_wdY := pe247_20 hp
  simp only [hF3, hF5, hFp_78, hFp_79, hFp_247, e78, e79, e247, P_ly, P_fo, P_wdY, den_s, den_c, Int.add_zero, List.map_cons, List.map_nil, g4.eq, g5.eq, g6.eq, g13.eq, g14.eq, g15.eq, g16.eq, g17.eq, g18.eq, g19.eq, g20.eq, h1, h2, h9, h10, h11, h12, h13, h14, h15, h16, h17, h18, h35, h36, h37, h38, h39, h40] at f0 f5 f7 f11 ⊢
  subst f0
  obtain ⟨x, y, h1, h2, -⟩ := f7
  exact ⟨_, h1.2.1, by exact ⟨fun _ => (by first | rfl | trivial), fun h => by exfalso; omega⟩⟩)
def w_yo_word_0_6 : VC := ((bY ++ [(0, 16), (0, 7), (0, 23), ((-2147483648), (-1)), ((-1), 54), (1, 8), (0, 10), ((-9223372036854775806), (-9223372036854775806))]), [(5, [(some 20, 0), (none, (-9223372036854775808)), (none, (-2))], []), (0, [(none, 0), (none, 0)], []), (2, [(some 16, 0), (none, 0)], []), (1, [(none, 1), (none, 0)], []), (3, [(none, 23), (some 15, 0)], []), (3, [(some 15, 0), (none, 0)], []), (1, [(none, 1), (none, 0)], []), (3, [(some 18, (-1)), (some 14, 0)], []), (3, [(some 14, 0), (none, 0)], []), (79, [(some 17, 0), (none, 0), (some 18, 0), (some 19, 0)], [1, 2, 35, 36, 37, 38, 39, 40]), (1, [(none, 1), (none, 0)], []), (3, [(none, 16), (some 13, 0)], []), (3, [(some 13, 0), (none, 0)], []), (78, [], [1])], (247, [(some 20, 0), (some 13, 0), (some 14, 0), (some 15, 0), (some 16, 0), (some 18, 0), (some 19, 0), (some 4, 0), (some 5, 0), (some 6, 0)], [1, 2, 35, 36, 37, 38, 39, 40, 17, 18, 9, 10, 11, 12, 13, 14, 15, 16]))
set_option maxRecDepth 20000 in
theorem v_yo_word_0_6 {PT : PTy} (hp : HP20 PT) : vcOk PT w_yo_word_0_6 := vc_iv [(4, 0, 8), (5, 0, 6), (6, 0, 6), (13, 0, 16), (14, 0, 7), (15, 0, 23), (16, (-2147483648), (-1)), (17, (-1), 54), (18, 1, 8), (19, 0, 10), (20, (-9223372036854775806), (-9223372036854775806))] [1, 2, 9, 10, 11, 12, 13, 14, 15, 16, 17, 18, 35, 36, 37, 38, 39, 40] (by decide +kernel) (fun ρ α => by
  intro r4 g4 b4 r5 g5 b5 r6 g6 b6 r13 g13 b13 r14 g14 b14 r15 g15 b15 r16 g16 b16 r17 g17 b17 r18 g18 b18 r19 g19 b19 r20 g20 b20 a1 h1 a2 h2 a9 h9 a10 h10 a11 h11 a12 h12 a13 h13 a14 h14 a15 h15 a16 h16 a17 h17 a18 h18 a35 h35 a36 h36 a37 h37 a38 h38 a39 h39 a40 h40 f0 f1 f2 f3 f4 f5 f6 f7 f8 f9 f10 f11 f12 f13 tt
  clear f1 f2 f3 f4 f5 f6 f8 f10 f11 f12
  have e78 : PT 78 = P_ly := pe78_20 hp
  have e79 : PT 79 = P_fo := pe79_20 hp
  have e247 : PT 247 = P_wdY := pe247_20 hp
  simp only [hF3, hF5, hFp_78, hFp_79, hFp_247, e78, e79, e247, P_ly, P_fo, P_wdY, den_s, den_c, Int.add_zero, List.map_cons, List.map_nil, g4.eq, g5.eq, g6.eq, g13.eq, g14.eq, g15.eq, g16.eq, g17.eq, g18.eq, g19.eq, g20.eq, h1, h2, h9, h10, h11, h12, h13, h14, h15, h16, h17, h18, h35, h36, h37, h38, h39, h40] at f0 f7 f9 f13 ⊢
  subst f0
  obtain ⟨x, y, h1, h2, -⟩ := f9
  exact ⟨_, h1.2.1, by exact ⟨fun _ => (by first | rfl | trivial), fun h => by exfalso; omega⟩⟩)
def w_yo_word_0_7 : VC := ((bY ++ [(0, 16), (0, 7), (0, 23), (2, 2147483647), ((-1), 54), (1, 8), (0, 10), ((-9223372036854775806), (-9223372036854775806))]), [(5, [(some 20, 0), (none, (-9223372036854775808)), (none, (-2))], []), (0, [(none, 0), (none, 0)], []), (2, [(none, 1), (some 16, 0)], []), (3, [(some 16, 0), (none, 0)], []), (1, [(none, 1), (none, 0)], []), (3, [(none, 23), (some 15, 0)], []), (3, [(some 15, 0), (none, 0)], []), (1, [(none, 1), (none, 0)], []), (3, [(some 18, (-1)), (some 14, 0)], []), (3, [(some 14, 0), (none, 0)], []), (79, [(some 17, 0), (none, 0), (some 18, 0), (some 19, 0)], [1, 2, 35, 36, 37, 38, 39, 40]), (1, [(none, 1), (none, 0)], []), (3, [(none, 16), (some 13, 0)], []), (3, [(some 13, 0), (none, 0)], []), (78, [], [1])], (247, [(some 20, 0), (some 13, 0), (some 14, 0), (some 15, 0), (some 16, 0), (some 18, 0), (some 19, 0), (some 4, 0), (some 5, 0), (some 6, 0)], [1, 2, 35, 36, 37, 38, 39, 40, 17, 18, 9, 10, 11, 12, 13, 14, 15, 16]))
set_option maxRecDepth 20000 in
theorem v_yo_word_0_7 {PT : PTy} (hp : HP20 PT) : vcOk PT w_yo_word_0_7 := vc_iv [(4, 0, 8), (5, 0, 6), (6, 0, 6), (13, 0, 16), (14, 0, 7), (15, 0, 23), (16, 2, 2147483647), (17, (-1), 54), (18, 1, 8), (19, 0, 10), (20, (-9223372036854775806), (-9223372036854775806))] [1, 2, 9, 10, 11, 12, 13, 14, 15, 16, 17, 18, 35, 36, 37, 38, 39, 40] (by decide +kernel) (fun ρ α => by
  intro r4 g4 b4 r5 g5 b5 r6 g6 b6 r13 g13 b13 r14 g14 b14 r15 g15 b15 r16 g16 b16 r17 g17 b17 r18 g18 b18 r19 g19 b19 r20 g20 b20 a1 h1 a2 h2 a9 h9 a10 h10 a11 h11 a12 h12 a13 h13 a14 h14 a15 h15 a16 h16 a17 h17 a18 h18 a35 h35 a36 h36 a37 h37 a38 h38 a39 h39 a40 h40 f0 f1 f2 f3 f4 f5 f6 f7 f8 f9 f10 f11 f12 f13 f14 tt
  clear f1 f2 f3 f4 f5 f6 f7 f9 f11 f12 f13
  have e78 : PT 78 = P_ly := pe78_20 hp
  have e79 : PT 79 = P_fo := pe79_20 hp
  have e247 : PT 247 = P_wdY := pe247_20 hp
  simp only [hF3, hF5, hFp_78, hFp_79, hFp_247, e78, e79, e247, P_ly, P_fo, P_wdY, den_s, den_c, Int.add_zero, List.map_cons, List.map_nil, g4.eq, g5.eq, g6.eq, g13.eq, g14.eq, g15.eq, g16.eq, g17.eq, g18.eq, g19.eq, g20.eq, h1, h2, h9, h10, h11, h12, h13, h14, h15, h16, h17, h18, h35, h36, h37, h38, h39, h40] at f0 f8 f10 f14 ⊢
  subst f0
  obtain ⟨x, y, h1, h2, -⟩ := f10
  exact ⟨_, h1.2.1, by exact ⟨fun _ => (by first | rfl | trivial), fun h => by exfalso; omega⟩⟩)
def w_yo_word_0_8 : VC := ((bY ++ [(0, 16), (0, 7), (0, 23), (0, 1), ((-1), 54), (1, 8), (0, 10), (0, 1099511627776), (0, 8), (0, 10), (0, 11), ((-2147483648), 2147483647), ((-2147483648), 2147483647)]), [(246, [(some 20, 0), (some 13, 0), (some 15, 0), (some 14, 0), (some 16, 0), (some 21, 0), (some 22, 0), (some 4, 0), (some 5, 0), (some 6, 0)], [1, 2, 41, 42, 43, 44, 45, 46, 47, 48, 9, 10, 11, 12, 13, 14, 15, 16]), (1, [(none, 1), (none, 0)], []), (3, [(none, 1), (some 16, 0)], []), (3, [(some 16, 0), (none, 0)], []), (1, [(none, 1), (none, 0)], []), (3, [(none, 23), (some 15, 0)], []), (3, [(some 15, 0), (none, 0)], []), (1, [(none, 1), (none, 0)], []), (3, [(some 18, (-1)), (some 14, 0)], []), (3, [(some 14, 0), (none, 0)], []), (79, [(some 17, 0), (none, 0), (some 18, 0), (some 19, 0)], [1, 2, 35, 36, 37, 38, 39, 40]), (1, [(none, 1), (none, 0)], []), (3, [(none, 16), (some 13, 0)], []), (3, [(some 13, 0), (none, 0)], []), (78, [], [1])], (247, [(some 20, 0), (some 13, 0), (some 14, 0), (some 15, 0), (some 16, 0), (some 21, 0), (some 22, 0), (some 4, 0), (some 5, 0), (some 6, 0)], [1, 2, 41, 42, 43, 44, 45, 46, 47, 48, 9, 10, 11, 12, 13, 14, 15, 16]))
set_option maxRecDepth 20000 in
theorem v_yo_word_0_8 {PT : PTy} (hp : HP20 PT) : vcOk PT w_yo_word_0_8 := vc_iv [(4, 0, 8), (5, 0, 6), (6, 0, 6), (13, 0, 16), (14, 0, 7), (15, 0, 23), (16, 0, 1), (17, (-1), 54), (18, 1, 8), (19, 0, 10), (20, 0, 1099511627776), (21, 0, 8), (22, 0, 10)] [1, 2, 9, 10, 11, 12, 13, 14, 15, 16, 35, 36, 37, 38, 39, 40, 41, 42, 43, 44, 45, 46, 47, 48] (by decide +kernel) (fun ρ α => by
  intro r4 g4 b4 r5 g5 b5 r6 g6 b6 r13 g13 b13 r14 g14 b14 r15 g15 b15 r16 g16 b16 r17 g17 b17 r18 g18 b18 r19 g19 b19 r20 g20 b20 r21 g21 b21 r22 g22 b22 a1 h1 a2 h2 a9 h9 a10 h10 a11 h11 a12 h12 a13 h13 a14 h14 a15 h15 a16 h16 a35 h35 a36 h36 a37 h37 a38 h38 a39 h39 a40 h40 a41 h41 a42 h42 a43 h43 a44 h44 a45 h45 a46 h46 a47 h47 a48 h48 f0 f1 f2 f3 f4 f5 f6 f7 f8 f9 f10 f11 f12 f13 f14 tt
  clear f1 f2 f3 f4 f5 f6 f7 f9 f11 f12 f13
  have e78 : PT 78 = P_ly := pe78_20 hp
  have e79 : PT 79 = P_fo := pe79_20 hp
  have e246 : PT 246 = P_wrP := pe246_20 hp
  have e247 : PT 247 = P_wdY := pe247_20 hp
  simp only [hF3, hFp_78, hFp_79, hFp_246, hFp_247, e78, e79, e246, e247, P_ly, P_fo, P_wrP, P_wdY, den_s, den_c, Int.add_zero, List.map_cons, List.map_nil, g4.eq, g5.eq, g6.eq, g13.eq, g14.eq, g15.eq, g16.eq, g17.eq, g18.eq, g19.eq, g20.eq, g21.eq, g22.eq, h1, h2, h9, h10, h11, h12, h13, h14, h15, h16, h35, h36, h37, h38, h39, h40, h41, h42, h43, h44, h45, h46, h47, h48] at f0 f8 f10 f14 ⊢
  obtain ⟨x, y, h1, h2, -⟩ := f10
  obtain ⟨⟨⟨a, b, k1, k2⟩, hk⟩, hr⟩ := f0
  have en := nP_un h1.2.1 k1.2.1
  exact ⟨_, k1.2.1, fun h => by exfalso; omega, fun h => ⟨rfl, ⟨⟨a, b, k1, k2⟩, hk⟩, hr⟩⟩)
set_option maxRecDepth 1000000 in
theorem k_yo_word {PT : PTy} (hp : HP20 PT) : wfX c_yo_word = true ∧ xcOk PT c_yo_word := xctr (xl (k_faultOf hp.1.1.1.1.1.1.1.1.1.1.1.1.1.1.1.1.1.1) (xl (k_wordOf hp) (xl0))) c_yo_word 101 mX7_word rfl h_yo_word (by decide +kernel) (by decide +kernel) (by decide) (vcs_by [w_yo_word_0_0, w_yo_word_0_1, w_yo_word_0_2, w_yo_word_0_3, w_yo_word_0_4, w_yo_word_0_5, w_yo_word_0_6, w_yo_word_0_7, w_yo_word_0_8] (by decide +kernel) (vc (v_yo_word_0_0 hp) (vc (v_yo_word_0_1 hp) (vc (v_yo_word_0_2 hp) (vc (v_yo_word_0_3 hp) (vc (v_yo_word_0_4 hp) (vc (v_yo_word_0_5 hp) (vc (v_yo_word_0_6 hp) (vc (v_yo_word_0_7 hp) (vc (v_yo_word_0_8 hp) vn)))))))))) fmn
