/-! ===== the reference's year ===== -/
def clF (x : Int) : Int := if x < 0 then 0 else if x > 99 then 99 else x
def chF (c : Int → Int) (k by_ : Int) : Int → Int := updI c k (clF (c k + by_))
def lnF (so wh gr : Int → Int) (p : Int) : Int := if so (wh p) = 0 then gr p / 2 else if so (wh p) = 1 then 2 * gr p else gr p
def twF (far by_ : Int) : Int := if far > by_ then by_ else if far < -by_ then -by_ else far
def mkS (n : Int) (so wh gr md : Int → Int) (day p : Int) (σ : ST3) : ST3 := if md p = day ∧ wh p < n then (chF σ.1 (wh p) (lnF so wh gr p), σ.2.1, updI σ.2.2 p 1) else σ
def kpS (m0 nK : Int) (sz wh gr kd ko : Int → Int) (day i : Int) (σ : ST3) : ST3 := if kd i = day ∧ ¬ mAnd (mShr nK i) 1 = 1 ∧ ko i < m0 ∧ σ.2.2 (ko i) = 1 then (chF σ.1 (wh (ko i)) (twF (sz (wh (ko i)) - σ.1 (wh (ko i))) (gr (ko i))), σ.2.1, updI σ.2.2 (ko i) 2) else σ
def brS (so wh gr du : Int → Int) (day p : Int) (σ : ST3) : ST3 := if du p = day ∧ σ.2.2 p = 1 then (chF σ.1 (wh p) (if so (wh p) = 2 then - lnF so wh gr p + -2 else - lnF so wh gr p), updI σ.2.1 (wh p) (mAdd (σ.2.1 (wh p)) 1), updI σ.2.2 p 3) else σ
def liS (n nL : Int) (ld lw lm : Int → Int) (day i : Int) (c : Int → Int) : Int → Int := if ld i = day ∧ lw i < n ∧ ¬ mAnd (mShr nL i) 1 = 1 then chF c (lw i) (- lm i) else c
def leS (n : Int) (td tw tm : Int → Int) (day i : Int) (c : Int → Int) : Int → Int := if td i = day ∧ tw i < n then chF c (tw i) (tm i) else c
/-- a day's promises, keepings, breakings -/
def d3S (n m m0 nk nK : Int) (so sz wh gr md du kd ko : Int → Int) (day : Int) (σ : ST3) : ST3 := foldI (brS so wh gr du day) (foldI (kpS m0 nK sz wh gr kd ko day) (foldI (mkS n so wh gr md day) σ m.toNat) nk.toNat) m.toNat
def dyS (n m m0 nk nl nt nK nL : Int) (so sz wh gr md du kd ko ld lw lm td tw tm : Int → Int) (day : Int) (σ : ST3) : ST3 := (foldI (leS n td tw tm day) (foldI (liS n nL ld lw lm day) (d3S n m m0 nk nK so sz wh gr md du kd ko day σ).1 nl.toNat) nt.toNat, (d3S n m m0 nk nK so sz wh gr md du kd ko day σ).2)
/-- rows written from b on -/
def upF (a : Int → Int) (b : Int) (f : Int → Int) : Nat → (Int → Int) := foldI (fun k x => updI x (b + k) (f k)) a
theorem upF_at {a : Int → Int} {b : Int} {f : Int → Int} : ∀ (n : Nat) (j : Int), upF a b f n j = if b ≤ j ∧ j < b + n then f (j - b) else a j
  | 0, j => by
    rw [if_neg (by omega)]
    rfl
  | n + 1, j => by
    show updI (upF a b f n) (b + n) (f n) j = _
    by_cases h : j = b + n
    · subst h
      rw [updI_at, if_pos (by omega)]
      congr 1
      omega
    · rw [updI_ne h, upF_at n j]
      by_cases q : b ≤ j ∧ j < b + n
      · rw [if_pos q, if_pos (by omega)]
      · rw [if_neg q, if_neg (by omega)]
theorem upF_s {a : Int → Int} {b : Int} {f : Int → Int} {x : Int} (h : 0 ≤ x) : upF a b f (x + 1).toNat = updI (upF a b f x.toNat) (b + x) (f x) := foldI_s h
def inS (n m : Int) (sz c t s : Int → Int) : ST3 := (upF c 0 sz n.toNat, upF t 0 (fun _ => 0) n.toNat, upF s 0 (fun _ => 0) m.toNat)
def rnS (D : Int → ST3 → ST3) (σ : ST3) : Nat → ST3 := foldI D σ
/-- what the rows of all days hold -/
def roS (n m lim : Int) (D : Int → ST3 → ST3) (σ : ST3) (cA tA sA : Int → Int) : Prop := (∀ d k, 0 ≤ d → d < lim → 0 ≤ k → k < n → cA (8 * d + k) = (rnS D σ (d + 1).toNat).1 k ∧ tA (8 * d + k) = (rnS D σ (d + 1).toNat).2.1 k) ∧ ∀ d p, 0 ≤ d → d < lim → 0 ≤ p → p < m → sA (12 * d + p) = (rnS D σ (d + 1).toNat).2.2 p
theorem roS_z {n m : Int} {D : Int → ST3 → ST3} {σ : ST3} {cA tA sA : Int → Int} : roS n m 0 D σ cA tA sA := ⟨fun d k h1 h2 => by omega, fun d p h1 h2 => by omega⟩
theorem roS_s {n m d : Int} {D : Int → ST3 → ST3} {σ : ST3} {cA tA sA c t s : Int → Int} (h : roS n m d D σ cA tA sA) (hd : 0 ≤ d) (hn : 0 ≤ n ∧ n ≤ 8) (hm : 0 ≤ m ∧ m ≤ 12) (e : (c, t, s) = D d (rnS D σ d.toNat)) : roS n m (d + 1) D σ (upF cA (8 * d) c n.toNat) (upF tA (8 * d) t n.toNat) (upF sA (12 * d) s m.toNat) := by
  have er : rnS D σ (d + 1).toNat = (c, t, s) := by rw [e]; exact foldI_s hd
  refine ⟨fun w k h1 h2 h3 h4 => ?_, fun w p h1 h2 h3 h4 => ?_⟩
  · rw [upF_at, upF_at]
    by_cases q : w = d
    · subst q
      rw [if_pos (by omega), if_pos (by omega), er]
      rw [show 8 * w + k - 8 * w = k by omega]
      exact ⟨rfl, rfl⟩
    · rw [if_neg (by omega), if_neg (by omega)]
      exact h.1 w k h1 (by omega) h3 h4
  · rw [upF_at]
    by_cases q : w = d
    · subst q
      rw [if_pos (by omega), er]
      rw [show 12 * w + p - 12 * w = p by omega]
    · rw [if_neg (by omega)]
      exact h.2 w p h1 (by omega) h3 h4
/-! ===== the reference: its year; printed by wip/gen/x ===== -/
def P_mk (l : List Int) (a : List (Int → Int)) : Prop := match l, a with
  | [i, n, day], [so, wh, gr, md, c, t, s, C, S] => (C, t, S) = foldI (mkS n so wh gr md day) (c, t, s) i.toNat
  | _, _ => False
theorem hFp_95 {PT : PTy} {ρ : Nat → Int} {α : Nat → Int → Int} (l : List AN) (a : List Nat) : hF PT ρ α (95, l, a) = PT 95 (l.map (den ρ)) (a.map α) := rfl
def P_kp (l : List Int) (a : List (Int → Int)) : Prop := match l, a with
  | [i, m0, nK, day], [sz, wh, gr, kd, ko, c, t, s, C, S] => (C, t, S) = foldI (kpS m0 nK sz wh gr kd ko day) (c, t, s) i.toNat
  | _, _ => False
theorem hFp_96 {PT : PTy} {ρ : Nat → Int} {α : Nat → Int → Int} (l : List AN) (a : List Nat) : hF PT ρ α (96, l, a) = PT 96 (l.map (den ρ)) (a.map α) := rfl
def P_br (l : List Int) (a : List (Int → Int)) : Prop := match l, a with
  | [i, day], [so, wh, gr, du, c, t, s, C, T, S] => (C, T, S) = foldI (brS so wh gr du day) (c, t, s) i.toNat
  | _, _ => False
theorem hFp_97 {PT : PTy} {ρ : Nat → Int} {α : Nat → Int → Int} (l : List AN) (a : List Nat) : hF PT ρ α (97, l, a) = PT 97 (l.map (den ρ)) (a.map α) := rfl
def P_g1 (l : List Int) (a : List (Int → Int)) : Prop := match l, a with
  | [i, n, m, m0, nk, nK, nL, day], [so, sz, wh, gr, md, du, kd, ko, ld, lw, lm, c, t, s, C, T, S] => C = foldI (liS n nL ld lw lm day) (d3S n m m0 nk nK so sz wh gr md du kd ko day (c, t, s)).1 i.toNat ∧ (T, S) = (d3S n m m0 nk nK so sz wh gr md du kd ko day (c, t, s)).2
  | _, _ => False
theorem hFp_98 {PT : PTy} {ρ : Nat → Int} {α : Nat → Int → Int} (l : List AN) (a : List Nat) : hF PT ρ α (98, l, a) = PT 98 (l.map (den ρ)) (a.map α) := rfl
def P_g2 (l : List Int) (a : List (Int → Int)) : Prop := match l, a with
  | [i, n, m, m0, nk, nl, nK, nL, day], [so, sz, wh, gr, md, du, kd, ko, ld, lw, lm, td, tw, tm, c, t, s, C, T, S] => C = foldI (leS n td tw tm day) (foldI (liS n nL ld lw lm day) (d3S n m m0 nk nK so sz wh gr md du kd ko day (c, t, s)).1 nl.toNat) i.toNat ∧ (T, S) = (d3S n m m0 nk nK so sz wh gr md du kd ko day (c, t, s)).2
  | _, _ => False
theorem hFp_99 {PT : PTy} {ρ : Nat → Int} {α : Nat → Int → Int} (l : List AN) (a : List Nat) : hF PT ρ α (99, l, a) = PT 99 (l.map (den ρ)) (a.map α) := rfl
def P_g3 (l : List Int) (a : List (Int → Int)) : Prop := match l, a with
  | [k, n, m, m0, nk, nl, nt, nK, nL, day], [so, sz, wh, gr, md, du, kd, ko, ld, lw, lm, td, tw, tm, c, t, s, C, T, S, cA, tA, CA, TA] => (C, T, S) = dyS n m m0 nk nl nt nK nL so sz wh gr md du kd ko ld lw lm td tw tm day (c, t, s) ∧ CA = upF cA (8 * day) C k.toNat ∧ TA = upF tA (8 * day) T k.toNat
  | _, _ => False
theorem hFp_100 {PT : PTy} {ρ : Nat → Int} {α : Nat → Int → Int} (l : List AN) (a : List Nat) : hF PT ρ α (100, l, a) = PT 100 (l.map (den ρ)) (a.map α) := rfl
def P_g4 (l : List Int) (a : List (Int → Int)) : Prop := match l, a with
  | [p, n, m, m0, nk, nl, nt, nK, nL, day], [so, sz, wh, gr, md, du, kd, ko, ld, lw, lm, td, tw, tm, c, t, s, C, T, S, cA, tA, CA, TA, sA, SA] => (C, T, S) = dyS n m m0 nk nl nt nK nL so sz wh gr md du kd ko ld lw lm td tw tm day (c, t, s) ∧ CA = upF cA (8 * day) C n.toNat ∧ TA = upF tA (8 * day) T n.toNat ∧ SA = upF sA (12 * day) S p.toNat
  | _, _ => False
theorem hFp_101 {PT : PTy} {ρ : Nat → Int} {α : Nat → Int → Int} (l : List AN) (a : List Nat) : hF PT ρ α (101, l, a) = PT 101 (l.map (den ρ)) (a.map α) := rfl
def P_r1 (l : List Int) (a : List (Int → Int)) : Prop := match l, a with
  | [k], [sz, c, t, C, T] => C = upF c 0 sz k.toNat ∧ T = upF t 0 (fun _ => 0) k.toNat
  | _, _ => False
theorem hFp_102 {PT : PTy} {ρ : Nat → Int} {α : Nat → Int → Int} (l : List AN) (a : List Nat) : hF PT ρ α (102, l, a) = PT 102 (l.map (den ρ)) (a.map α) := rfl
def P_r2 (l : List Int) (a : List (Int → Int)) : Prop := match l, a with
  | [p, n], [sz, c, t, C, T, s, S] => C = upF c 0 sz n.toNat ∧ T = upF t 0 (fun _ => 0) n.toNat ∧ S = upF s 0 (fun _ => 0) p.toNat
  | _, _ => False
theorem hFp_103 {PT : PTy} {ρ : Nat → Int} {α : Nat → Int → Int} (l : List AN) (a : List Nat) : hF PT ρ α (103, l, a) = PT 103 (l.map (den ρ)) (a.map α) := rfl
def P_ru (l : List Int) (a : List (Int → Int)) : Prop := match l, a with
  | [d, n, m, m0, nk, nl, nt, nK, nL], [so, sz, wh, gr, md, du, kd, ko, ld, lw, lm, td, tw, tm, c, t, s, C, T, S, CA, TA, SA] => (C, T, S) = rnS (dyS n m m0 nk nl nt nK nL so sz wh gr md du kd ko ld lw lm td tw tm) (inS n m sz c t s) d.toNat ∧ roS n m d (dyS n m m0 nk nl nt nK nL so sz wh gr md du kd ko ld lw lm td tw tm) (inS n m sz c t s) CA TA SA
  | _, _ => False
theorem hFp_104 {PT : PTy} {ρ : Nat → Int} {α : Nat → Int → Int} (l : List AN) (a : List Nat) : hF PT ρ α (104, l, a) = PT 104 (l.map (den ρ)) (a.map α) := rfl
def P_cp2 (l : List Int) (a : List (Int → Int)) : Prop := match l, a with
  | [i], [kd, ko, KD, KO] => ∀ j, 0 ≤ j → j < i → KD j = kd j ∧ KO j = ko j
  | _, _ => False
theorem hFp_105 {PT : PTy} {ρ : Nat → Int} {α : Nat → Int → Int} (l : List AN) (a : List Nat) : hF PT ρ α (105, l, a) = PT 105 (l.map (den ρ)) (a.map α) := rfl
def P_rd (l : List Int) (a : List (Int → Int)) : Prop := match l, a with
  | [n, m], [L, T, so, me, wh, gr, md, du] => ∃ a b, rdP a n (L 0) T so me ∧ rdV b m (L 1) (sh T) wh gr md du
  | _, _ => False
theorem hFp_106 {PT : PTy} {ρ : Nat → Int} {α : Nat → Int → Int} (l : List AN) (a : List Nat) : hF PT ρ α (106, l, a) = PT 106 (l.map (den ρ)) (a.map α) := rfl
def HP5 (PT : PTy) : Prop := HP4 PT ∧ (PT 95 = P_mk ∧ PT 96 = P_kp ∧ PT 97 = P_br ∧ PT 98 = P_g1 ∧ PT 99 = P_g2 ∧ PT 100 = P_g3 ∧ PT 101 = P_g4 ∧ PT 102 = P_r1 ∧ PT 103 = P_r2 ∧ PT 104 = P_ru ∧ PT 105 = P_cp2 ∧ PT 106 = P_rd ∧ True)
def c_makes : XC := (135, 1, (bY ++ [(0, 23)]), [.inr (.inl 0), .inl (some 13, 0)], gY2, [], [((bY ++ [(0, 23)]), none, gY2, (ansT 35 [(19, 35), (21, 36)]), 37, [(95, [(some 8, 0), (some 2, 0), (some 13, 0)], [3, 5, 6, 7, 19, 20, 21, 35, 36])])])
def h_makes : List XH := [(2, (bY ++ [(0, 23), (0, 11)]), [some (.inr (.inl 0)), some (.inl (some 13, 0)), some (.inl (some 14, 0))], gY2, (ansT 35 [(19, 35), (21, 36)]), 37, [(95, [(some 14, 0), (some 2, 0), (some 13, 0)], [3, 5, 6, 7, 19, 20, 21, 35, 36]), (3, [(some 8, 0), (some 14, 0)], [])], [(true, (none, 1)), (true, (some 14, 0))])]
def w_makes_0_0 : VC := ((bY ++ [(0, 23)]), [], (95, [(none, 0), (some 2, 0), (some 13, 0)], [3, 5, 6, 7, 19, 20, 21, 19, 21]))
theorem pe95_5 {PT : PTy} (hp : HP5 PT) : PT 95 = P_mk := hp.2.1
set_option maxRecDepth 20000 in
theorem v_makes_0_0 {PT : PTy} (hp : HP5 PT) : vcOk PT w_makes_0_0 := vc_in [(2, 0, 8), (13, 0, 23)] (by decide +kernel) (fun ρ α => by
  intro b2 b13 tt
  have e95 : PT 95 = P_mk := pe95_5 hp
  simp only [hFp_95, e95, P_mk, den_s, den_c, Int.add_zero, List.map_cons, List.map_nil] at ⊢
  first | rfl | omega)
def w_makes_0_1 : VC := ((bY ++ [(0, 23)]), [], (3, [(some 8, 0), (none, 0)], []))
set_option maxRecDepth 20000 in
theorem v_makes_0_1 {PT : PTy} (hp : HP5 PT) : vcOk PT w_makes_0_1 := vc_in [(8, 0, 11)] (by decide +kernel) (fun ρ α => by
  intro b8 tt
  simp only [hF3, den_s, den_c, Int.add_zero, List.map_cons, List.map_nil] at ⊢
  first | rfl | omega)
def w_makes_1_0 : VC := ((bY ++ [(0, 23), (0, 11)]), [(3, [(some 14, 0), (some 8, 0)], []), (95, [(some 14, 0), (some 2, 0), (some 13, 0)], [3, 5, 6, 7, 19, 20, 21, 35, 36]), (3, [(some 8, 0), (some 14, 0)], [])], (95, [(some 8, 0), (some 2, 0), (some 13, 0)], [3, 5, 6, 7, 19, 20, 21, 35, 36]))
set_option maxRecDepth 20000 in
theorem v_makes_1_0 {PT : PTy} (hp : HP5 PT) : vcOk PT w_makes_1_0 := vc_iv [(2, 0, 8), (8, 0, 11), (13, 0, 23), (14, 0, 11)] [3, 5, 6, 7, 19, 20, 21, 35, 36] (by decide +kernel) (fun ρ α => by
  intro r2 g2 b2 r8 g8 b8 r13 g13 b13 r14 g14 b14 a3 h3 a5 h5 a6 h6 a7 h7 a19 h19 a20 h20 a21 h21 a35 h35 a36 h36 f0 f1 f2 tt
  have e95 : PT 95 = P_mk := pe95_5 hp
  simp only [hF3, hFp_95, e95, P_mk, den_s, den_c, Int.add_zero, List.map_cons, List.map_nil, g2.eq, g8.eq, g13.eq, g14.eq, h3, h5, h6, h7, h19, h20, h21, h35, h36] at f0 f1 f2 ⊢
  first
    | omega
    | (rw [show r8 = r14 by omega]; exact f1)
    | (rw [foldI_s (by omega), ← f1]; unfold mkS; (try dsimp only); rw [if_neg (by omega)]; done)
    | (rw [foldI_s (by omega), ← f1]; unfold mkS; (try dsimp only); rw [if_pos (by omega)]; unfold chF clF lnF; (try dsimp only); (repeat' (first | rfl | (exfalso; omega) | split)); done))
def w_makes_1_1 : VC := (([(0, 23), (0, 49), (0, 8), (0, 10), (0, 8), (0, 6), (0, 6), (0, 8), (1, 11), (0, 9), ((-2147483648), 2147483647), ((-2147483648), 2147483647), (0, 5), (0, 23), (0, 10), (0, 23)]), [(1, [(some 15, 0), (some 13, 0)], []), (20, [(some 15, 0), (some 14, 0)], [7]), (2, [(some 14, 0), (some 8, 0)], []), (95, [(some 14, 0), (some 2, 0), (some 13, 0)], [3, 5, 6, 7, 19, 20, 21, 35, 36]), (3, [(some 8, 0), (some 14, 0)], [])], (95, [(some 14, 1), (some 2, 0), (some 13, 0)], [3, 5, 6, 7, 19, 20, 21, 35, 36]))
set_option maxRecDepth 20000 in
theorem v_makes_1_1 {PT : PTy} (hp : HP5 PT) : vcOk PT w_makes_1_1 := vc_iv [(2, 0, 8), (8, 1, 11), (13, 0, 23), (14, 0, 10), (15, 0, 23)] [3, 5, 6, 7, 19, 20, 21, 35, 36] (by decide +kernel) (fun ρ α => by
  intro r2 g2 b2 r8 g8 b8 r13 g13 b13 r14 g14 b14 r15 g15 b15 a3 h3 a5 h5 a6 h6 a7 h7 a19 h19 a20 h20 a21 h21 a35 h35 a36 h36 f0 f1 f2 f3 f4 tt
  have e95 : PT 95 = P_mk := pe95_5 hp
  simp only [hF1, hF2, hF3, hF20, hFp_95, e95, P_mk, den_s, den_c, Int.add_zero, List.map_cons, List.map_nil, g2.eq, g8.eq, g13.eq, g14.eq, g15.eq, h3, h5, h6, h7, h19, h20, h21, h35, h36] at f0 f1 f2 f3 f4 ⊢
  subst f1
  first
    | omega
    | (rw [show r8 = r14 by omega]; exact f3)
    | (rw [foldI_s (by omega), ← f3]; unfold mkS; (try dsimp only); rw [if_neg (by omega)]; done)
    | (rw [foldI_s (by omega), ← f3]; unfold mkS; (try dsimp only); rw [if_pos (by omega)]; unfold chF clF lnF; (try dsimp only); (repeat' (first | rfl | (exfalso; omega) | split)); done))
def w_makes_1_2 : VC := (([(0, 23), (0, 49), (0, 8), (0, 10), (0, 8), (0, 6), (0, 6), (0, 8), (1, 11), (0, 9), ((-2147483648), 2147483647), ((-2147483648), 2147483647), (0, 5), (0, 23), (0, 10), (0, 23)]), [(1, [(some 15, 0), (some 13, 0)], []), (20, [(some 15, 0), (some 14, 0)], [7]), (2, [(some 14, 0), (some 8, 0)], []), (95, [(some 14, 0), (some 2, 0), (some 13, 0)], [3, 5, 6, 7, 19, 20, 21, 35, 36]), (3, [(some 8, 0), (some 14, 0)], [])], (3, [(some 8, 0), (some 14, 1)], []))
set_option maxRecDepth 20000 in
theorem v_makes_1_2 {PT : PTy} (hp : HP5 PT) : vcOk PT w_makes_1_2 := vc_iv [(2, 0, 8), (8, 1, 11), (13, 0, 23), (14, 0, 10), (15, 0, 23)] [3, 5, 6, 7, 19, 20, 21, 35, 36] (by decide +kernel) (fun ρ α => by
  intro r2 g2 b2 r8 g8 b8 r13 g13 b13 r14 g14 b14 r15 g15 b15 a3 h3 a5 h5 a6 h6 a7 h7 a19 h19 a20 h20 a21 h21 a35 h35 a36 h36 f0 f1 f2 f3 f4 tt
  have e95 : PT 95 = P_mk := pe95_5 hp
  simp only [hF1, hF2, hF3, hF20, hFp_95, e95, P_mk, den_s, den_c, Int.add_zero, List.map_cons, List.map_nil, g2.eq, g8.eq, g13.eq, g14.eq, g15.eq, h3, h5, h6, h7, h19, h20, h21, h35, h36] at f0 f1 f2 f3 f4 ⊢
  subst f1
  first
    | omega
    | (rw [show r8 = r14 by omega]; exact f3)
    | (rw [foldI_s (by omega), ← f3]; unfold mkS; (try dsimp only); rw [if_neg (by omega)]; done)
    | (rw [foldI_s (by omega), ← f3]; unfold mkS; (try dsimp only); rw [if_pos (by omega)]; unfold chF clF lnF; (try dsimp only); (repeat' (first | rfl | (exfalso; omega) | split)); done))
def w_makes_1_3 : VC := (([(0, 23), (0, 49), (0, 7), (0, 10), (0, 8), (0, 6), (0, 6), (0, 8), (1, 11), (0, 9), ((-2147483648), 2147483647), ((-2147483648), 2147483647), (0, 5), (0, 23), (0, 10), (0, 23), (0, 7)]), [(3, [(some 16, 0), (some 2, 0)], []), (20, [(some 16, 0), (some 14, 0)], [5]), (0, [(some 15, 0), (some 13, 0)], []), (20, [(some 15, 0), (some 14, 0)], [7]), (2, [(some 14, 0), (some 8, 0)], []), (95, [(some 14, 0), (some 2, 0), (some 13, 0)], [3, 5, 6, 7, 19, 20, 21, 35, 36]), (3, [(some 8, 0), (some 14, 0)], [])], (95, [(some 14, 1), (some 2, 0), (some 13, 0)], [3, 5, 6, 7, 19, 20, 21, 35, 36]))
set_option maxRecDepth 20000 in
theorem v_makes_1_3 {PT : PTy} (hp : HP5 PT) : vcOk PT w_makes_1_3 := vc_iv [(2, 0, 7), (8, 1, 11), (13, 0, 23), (14, 0, 10), (15, 0, 23), (16, 0, 7)] [3, 5, 6, 7, 19, 20, 21, 35, 36] (by decide +kernel) (fun ρ α => by
  intro r2 g2 b2 r8 g8 b8 r13 g13 b13 r14 g14 b14 r15 g15 b15 r16 g16 b16 a3 h3 a5 h5 a6 h6 a7 h7 a19 h19 a20 h20 a21 h21 a35 h35 a36 h36 f0 f1 f2 f3 f4 f5 f6 tt
  have e95 : PT 95 = P_mk := pe95_5 hp
  simp only [hF0, hF2, hF3, hF20, hFp_95, e95, P_mk, den_s, den_c, Int.add_zero, List.map_cons, List.map_nil, g2.eq, g8.eq, g13.eq, g14.eq, g15.eq, g16.eq, h3, h5, h6, h7, h19, h20, h21, h35, h36] at f0 f1 f2 f3 f4 f5 f6 ⊢
  subst f1
  subst f3
  first
    | omega
    | (rw [show r8 = r14 by omega]; exact f5)
    | (rw [foldI_s (by omega), ← f5]; unfold mkS; (try dsimp only); rw [if_neg (by omega)]; done)
    | (rw [foldI_s (by omega), ← f5]; unfold mkS; (try dsimp only); rw [if_pos (by omega)]; unfold chF clF lnF; (try dsimp only); (repeat' (first | rfl | (exfalso; omega) | split)); done))
def w_makes_1_4 : VC := (([(0, 23), (0, 49), (0, 7), (0, 10), (0, 8), (0, 6), (0, 6), (0, 8), (1, 11), (0, 9), ((-2147483648), 2147483647), ((-2147483648), 2147483647), (0, 5), (0, 23), (0, 10), (0, 23), (0, 7)]), [(3, [(some 16, 0), (some 2, 0)], []), (20, [(some 16, 0), (some 14, 0)], [5]), (0, [(some 15, 0), (some 13, 0)], []), (20, [(some 15, 0), (some 14, 0)], [7]), (2, [(some 14, 0), (some 8, 0)], []), (95, [(some 14, 0), (some 2, 0), (some 13, 0)], [3, 5, 6, 7, 19, 20, 21, 35, 36]), (3, [(some 8, 0), (some 14, 0)], [])], (3, [(some 8, 0), (some 14, 1)], []))
set_option maxRecDepth 20000 in
theorem v_makes_1_4 {PT : PTy} (hp : HP5 PT) : vcOk PT w_makes_1_4 := vc_iv [(2, 0, 7), (8, 1, 11), (13, 0, 23), (14, 0, 10), (15, 0, 23), (16, 0, 7)] [3, 5, 6, 7, 19, 20, 21, 35, 36] (by decide +kernel) (fun ρ α => by
  intro r2 g2 b2 r8 g8 b8 r13 g13 b13 r14 g14 b14 r15 g15 b15 r16 g16 b16 a3 h3 a5 h5 a6 h6 a7 h7 a19 h19 a20 h20 a21 h21 a35 h35 a36 h36 f0 f1 f2 f3 f4 f5 f6 tt
  have e95 : PT 95 = P_mk := pe95_5 hp
  simp only [hF0, hF2, hF3, hF20, hFp_95, e95, P_mk, den_s, den_c, Int.add_zero, List.map_cons, List.map_nil, g2.eq, g8.eq, g13.eq, g14.eq, g15.eq, g16.eq, h3, h5, h6, h7, h19, h20, h21, h35, h36] at f0 f1 f2 f3 f4 f5 f6 ⊢
  subst f1
  subst f3
  first
    | omega
    | (rw [show r8 = r14 by omega]; exact f5)
    | (rw [foldI_s (by omega), ← f5]; unfold mkS; (try dsimp only); rw [if_neg (by omega)]; done)
    | (rw [foldI_s (by omega), ← f5]; unfold mkS; (try dsimp only); rw [if_pos (by omega)]; unfold chF clF lnF; (try dsimp only); (repeat' (first | rfl | (exfalso; omega) | split)); done))
def w_makes_1_5 : VC := (([(0, 23), (0, 49), (1, 8), (0, 10), (0, 8), (0, 6), (0, 6), (0, 8), (1, 11), (0, 9), ((-2147483648), 2147483647), ((-2147483648), 2147483647), (0, 5), (0, 23), (0, 10), (0, 23), (0, 7), (0, 7), (0, 7), (2, 2), (0, 9), (0, 99), (0, 99)]), [(21, [(some 17, 0), (some 22, 0)], [38, 35]), (3, [(none, 99), (some 22, 0)], []), (3, [(some 22, 0), (none, 0)], []), (4, [(some 22, 0), (some 21, 0), (some 20, 0)], []), (20, [(some 21, 0), (some 17, 0)], [35]), (20, [(some 20, 0), (some 14, 0)], [6]), (1, [(some 19, 0), (none, 1)], []), (1, [(some 19, 0), (none, 0)], []), (20, [(some 19, 0), (some 18, 0)], [3]), (20, [(some 18, 0), (some 14, 0)], [5]), (20, [(some 17, 0), (some 14, 0)], [5]), (21, [(some 14, 0), (none, 1)], [37, 36]), (2, [(some 16, 0), (some 2, 0)], []), (20, [(some 16, 0), (some 14, 0)], [5]), (0, [(some 15, 0), (some 13, 0)], []), (20, [(some 15, 0), (some 14, 0)], [7]), (2, [(some 14, 0), (some 8, 0)], []), (95, [(some 14, 0), (some 2, 0), (some 13, 0)], [3, 5, 6, 7, 19, 20, 21, 35, 36]), (3, [(some 8, 0), (some 14, 0)], [])], (95, [(some 14, 1), (some 2, 0), (some 13, 0)], [3, 5, 6, 7, 19, 20, 21, 38, 37]))
set_option maxRecDepth 20000 in
theorem v_makes_1_5 {PT : PTy} (hp : HP5 PT) : vcOk PT w_makes_1_5 := vc_iv [(2, 1, 8), (8, 1, 11), (13, 0, 23), (14, 0, 10), (15, 0, 23), (16, 0, 7), (17, 0, 7), (18, 0, 7), (19, 2, 2), (20, 0, 9), (21, 0, 99), (22, 0, 99)] [3, 5, 6, 7, 19, 20, 21, 35, 36, 37, 38] (by decide +kernel) (fun ρ α => by
  intro r2 g2 b2 r8 g8 b8 r13 g13 b13 r14 g14 b14 r15 g15 b15 r16 g16 b16 r17 g17 b17 r18 g18 b18 r19 g19 b19 r20 g20 b20 r21 g21 b21 r22 g22 b22 a3 h3 a5 h5 a6 h6 a7 h7 a19 h19 a20 h20 a21 h21 a35 h35 a36 h36 a37 h37 a38 h38 f0 f1 f2 f3 f4 f5 f6 f7 f8 f9 f10 f11 f12 f13 f14 f15 f16 f17 f18 tt
  clear f1 f2 f6 f7
  have e95 : PT 95 = P_mk := pe95_5 hp
  simp only [hF0, hF2, hF3, hF4, hF20, hF21, hFp_95, e95, P_mk, den_s, den_c, Int.add_zero, List.map_cons, List.map_nil, g2.eq, g8.eq, g13.eq, g14.eq, g15.eq, g16.eq, g17.eq, g18.eq, g19.eq, g20.eq, g21.eq, g22.eq, h3, h5, h6, h7, h19, h20, h21, h35, h36, h37, h38] at f0 f3 f4 f5 f8 f9 f10 f11 f12 f13 f14 f15 f16 f17 f18 ⊢
  subst f0
  subst f3
  subst f4
  subst f5
  subst f8
  subst f9
  subst f10
  subst f11
  subst f13
  subst f15
  first
    | omega
    | (rw [show r8 = r14 by omega]; exact f17)
    | (rw [foldI_s (by omega), ← f17]; unfold mkS; (try dsimp only); rw [if_neg (by omega)]; done)
    | (rw [foldI_s (by omega), ← f17]; unfold mkS; (try dsimp only); rw [if_pos (by omega)]; unfold chF clF lnF; (try dsimp only); (repeat' (first | rfl | (exfalso; omega) | split)); done))
def w_makes_1_6 : VC := (([(0, 23), (0, 49), (1, 8), (0, 10), (0, 8), (0, 6), (0, 6), (0, 8), (1, 11), (0, 9), ((-2147483648), 2147483647), ((-2147483648), 2147483647), (0, 5), (0, 23), (0, 10), (0, 23), (0, 7), (0, 7), (0, 7), (2, 2), (0, 9), (0, 99), (0, 99)]), [(21, [(some 17, 0), (some 22, 0)], [38, 35]), (3, [(none, 99), (some 22, 0)], []), (3, [(some 22, 0), (none, 0)], []), (4, [(some 22, 0), (some 21, 0), (some 20, 0)], []), (20, [(some 21, 0), (some 17, 0)], [35]), (20, [(some 20, 0), (some 14, 0)], [6]), (1, [(some 19, 0), (none, 1)], []), (1, [(some 19, 0), (none, 0)], []), (20, [(some 19, 0), (some 18, 0)], [3]), (20, [(some 18, 0), (some 14, 0)], [5]), (20, [(some 17, 0), (some 14, 0)], [5]), (21, [(some 14, 0), (none, 1)], [37, 36]), (2, [(some 16, 0), (some 2, 0)], []), (20, [(some 16, 0), (some 14, 0)], [5]), (0, [(some 15, 0), (some 13, 0)], []), (20, [(some 15, 0), (some 14, 0)], [7]), (2, [(some 14, 0), (some 8, 0)], []), (95, [(some 14, 0), (some 2, 0), (some 13, 0)], [3, 5, 6, 7, 19, 20, 21, 35, 36]), (3, [(some 8, 0), (some 14, 0)], [])], (3, [(some 8, 0), (some 14, 1)], []))
set_option maxRecDepth 20000 in
theorem v_makes_1_6 {PT : PTy} (hp : HP5 PT) : vcOk PT w_makes_1_6 := vc_iv [(2, 1, 8), (8, 1, 11), (13, 0, 23), (14, 0, 10), (15, 0, 23), (16, 0, 7), (17, 0, 7), (18, 0, 7), (19, 2, 2), (20, 0, 9), (21, 0, 99), (22, 0, 99)] [3, 5, 6, 7, 19, 20, 21, 35, 36, 37, 38] (by decide +kernel) (fun ρ α => by
  intro r2 g2 b2 r8 g8 b8 r13 g13 b13 r14 g14 b14 r15 g15 b15 r16 g16 b16 r17 g17 b17 r18 g18 b18 r19 g19 b19 r20 g20 b20 r21 g21 b21 r22 g22 b22 a3 h3 a5 h5 a6 h6 a7 h7 a19 h19 a20 h20 a21 h21 a35 h35 a36 h36 a37 h37 a38 h38 f0 f1 f2 f3 f4 f5 f6 f7 f8 f9 f10 f11 f12 f13 f14 f15 f16 f17 f18 tt
  clear f1 f2 f6 f7
  have e95 : PT 95 = P_mk := pe95_5 hp
  simp only [hF0, hF2, hF3, hF4, hF20, hF21, hFp_95, e95, P_mk, den_s, den_c, Int.add_zero, List.map_cons, List.map_nil, g2.eq, g8.eq, g13.eq, g14.eq, g15.eq, g16.eq, g17.eq, g18.eq, g19.eq, g20.eq, g21.eq, g22.eq, h3, h5, h6, h7, h19, h20, h21, h35, h36, h37, h38] at f0 f3 f4 f5 f8 f9 f10 f11 f12 f13 f14 f15 f16 f17 f18 ⊢
  subst f0
  subst f3
  subst f4
  subst f5
  subst f8
  subst f9
  subst f10
  subst f11
  subst f13
  subst f15
  first
    | omega
    | (rw [show r8 = r14 by omega]; exact f17)
    | (rw [foldI_s (by omega), ← f17]; unfold mkS; (try dsimp only); rw [if_neg (by omega)]; done)
    | (rw [foldI_s (by omega), ← f17]; unfold mkS; (try dsimp only); rw [if_pos (by omega)]; unfold chF clF lnF; (try dsimp only); (repeat' (first | rfl | (exfalso; omega) | split)); done))
def w_makes_1_7 : VC := (([(0, 23), (0, 49), (1, 8), (0, 10), (0, 8), (0, 6), (0, 6), (0, 8), (1, 11), (0, 9), ((-2147483648), 2147483647), ((-2147483648), 2147483647), (0, 5), (0, 23), (0, 10), (0, 23), (0, 7), (0, 7), (0, 7), (2, 2), (0, 9), (0, 99), (100, 108)]), [(21, [(some 17, 0), (none, 99)], [38, 35]), (2, [(none, 99), (some 22, 0)], []), (3, [(some 22, 0), (none, 0)], []), (4, [(some 22, 0), (some 21, 0), (some 20, 0)], []), (20, [(some 21, 0), (some 17, 0)], [35]), (20, [(some 20, 0), (some 14, 0)], [6]), (1, [(some 19, 0), (none, 1)], []), (1, [(some 19, 0), (none, 0)], []), (20, [(some 19, 0), (some 18, 0)], [3]), (20, [(some 18, 0), (some 14, 0)], [5]), (20, [(some 17, 0), (some 14, 0)], [5]), (21, [(some 14, 0), (none, 1)], [37, 36]), (2, [(some 16, 0), (some 2, 0)], []), (20, [(some 16, 0), (some 14, 0)], [5]), (0, [(some 15, 0), (some 13, 0)], []), (20, [(some 15, 0), (some 14, 0)], [7]), (2, [(some 14, 0), (some 8, 0)], []), (95, [(some 14, 0), (some 2, 0), (some 13, 0)], [3, 5, 6, 7, 19, 20, 21, 35, 36]), (3, [(some 8, 0), (some 14, 0)], [])], (95, [(some 14, 1), (some 2, 0), (some 13, 0)], [3, 5, 6, 7, 19, 20, 21, 38, 37]))
set_option maxRecDepth 20000 in
theorem v_makes_1_7 {PT : PTy} (hp : HP5 PT) : vcOk PT w_makes_1_7 := vc_iv [(2, 1, 8), (8, 1, 11), (13, 0, 23), (14, 0, 10), (15, 0, 23), (16, 0, 7), (17, 0, 7), (18, 0, 7), (19, 2, 2), (20, 0, 9), (21, 0, 99), (22, 100, 108)] [3, 5, 6, 7, 19, 20, 21, 35, 36, 37, 38] (by decide +kernel) (fun ρ α => by
  intro r2 g2 b2 r8 g8 b8 r13 g13 b13 r14 g14 b14 r15 g15 b15 r16 g16 b16 r17 g17 b17 r18 g18 b18 r19 g19 b19 r20 g20 b20 r21 g21 b21 r22 g22 b22 a3 h3 a5 h5 a6 h6 a7 h7 a19 h19 a20 h20 a21 h21 a35 h35 a36 h36 a37 h37 a38 h38 f0 f1 f2 f3 f4 f5 f6 f7 f8 f9 f10 f11 f12 f13 f14 f15 f16 f17 f18 tt
  clear f1 f2 f6 f7
  have e95 : PT 95 = P_mk := pe95_5 hp
  simp only [hF0, hF2, hF3, hF4, hF20, hF21, hFp_95, e95, P_mk, den_s, den_c, Int.add_zero, List.map_cons, List.map_nil, g2.eq, g8.eq, g13.eq, g14.eq, g15.eq, g16.eq, g17.eq, g18.eq, g19.eq, g20.eq, g21.eq, g22.eq, h3, h5, h6, h7, h19, h20, h21, h35, h36, h37, h38] at f0 f3 f4 f5 f8 f9 f10 f11 f12 f13 f14 f15 f16 f17 f18 ⊢
  subst f0
  subst f3
  subst f4
  subst f5
  subst f8
  subst f9
  subst f10
  subst f11
  subst f13
  subst f15
  first
    | omega
    | (rw [show r8 = r14 by omega]; exact f17)
    | (rw [foldI_s (by omega), ← f17]; unfold mkS; (try dsimp only); rw [if_neg (by omega)]; done)
    | (rw [foldI_s (by omega), ← f17]; unfold mkS; (try dsimp only); rw [if_pos (by omega)]; unfold chF clF lnF; (try dsimp only); (repeat' (first | rfl | (exfalso; omega) | split)); done))
def w_makes_1_8 : VC := (([(0, 23), (0, 49), (1, 8), (0, 10), (0, 8), (0, 6), (0, 6), (0, 8), (1, 11), (0, 9), ((-2147483648), 2147483647), ((-2147483648), 2147483647), (0, 5), (0, 23), (0, 10), (0, 23), (0, 7), (0, 7), (0, 7), (2, 2), (0, 9), (0, 99), (100, 108)]), [(21, [(some 17, 0), (none, 99)], [38, 35]), (2, [(none, 99), (some 22, 0)], []), (3, [(some 22, 0), (none, 0)], []), (4, [(some 22, 0), (some 21, 0), (some 20, 0)], []), (20, [(some 21, 0), (some 17, 0)], [35]), (20, [(some 20, 0), (some 14, 0)], [6]), (1, [(some 19, 0), (none, 1)], []), (1, [(some 19, 0), (none, 0)], []), (20, [(some 19, 0), (some 18, 0)], [3]), (20, [(some 18, 0), (some 14, 0)], [5]), (20, [(some 17, 0), (some 14, 0)], [5]), (21, [(some 14, 0), (none, 1)], [37, 36]), (2, [(some 16, 0), (some 2, 0)], []), (20, [(some 16, 0), (some 14, 0)], [5]), (0, [(some 15, 0), (some 13, 0)], []), (20, [(some 15, 0), (some 14, 0)], [7]), (2, [(some 14, 0), (some 8, 0)], []), (95, [(some 14, 0), (some 2, 0), (some 13, 0)], [3, 5, 6, 7, 19, 20, 21, 35, 36]), (3, [(some 8, 0), (some 14, 0)], [])], (3, [(some 8, 0), (some 14, 1)], []))
set_option maxRecDepth 20000 in
theorem v_makes_1_8 {PT : PTy} (hp : HP5 PT) : vcOk PT w_makes_1_8 := vc_iv [(2, 1, 8), (8, 1, 11), (13, 0, 23), (14, 0, 10), (15, 0, 23), (16, 0, 7), (17, 0, 7), (18, 0, 7), (19, 2, 2), (20, 0, 9), (21, 0, 99), (22, 100, 108)] [3, 5, 6, 7, 19, 20, 21, 35, 36, 37, 38] (by decide +kernel) (fun ρ α => by
  intro r2 g2 b2 r8 g8 b8 r13 g13 b13 r14 g14 b14 r15 g15 b15 r16 g16 b16 r17 g17 b17 r18 g18 b18 r19 g19 b19 r20 g20 b20 r21 g21 b21 r22 g22 b22 a3 h3 a5 h5 a6 h6 a7 h7 a19 h19 a20 h20 a21 h21 a35 h35 a36 h36 a37 h37 a38 h38 f0 f1 f2 f3 f4 f5 f6 f7 f8 f9 f10 f11 f12 f13 f14 f15 f16 f17 f18 tt
  clear f1 f2 f6 f7
  have e95 : PT 95 = P_mk := pe95_5 hp
  simp only [hF0, hF2, hF3, hF4, hF20, hF21, hFp_95, e95, P_mk, den_s, den_c, Int.add_zero, List.map_cons, List.map_nil, g2.eq, g8.eq, g13.eq, g14.eq, g15.eq, g16.eq, g17.eq, g18.eq, g19.eq, g20.eq, g21.eq, g22.eq, h3, h5, h6, h7, h19, h20, h21, h35, h36, h37, h38] at f0 f3 f4 f5 f8 f9 f10 f11 f12 f13 f14 f15 f16 f17 f18 ⊢
  subst f0
  subst f3
  subst f4
  subst f5
  subst f8
  subst f9
  subst f10
  subst f11
  subst f13
  subst f15
  first
    | omega
    | (rw [show r8 = r14 by omega]; exact f17)
    | (rw [foldI_s (by omega), ← f17]; unfold mkS; (try dsimp only); rw [if_neg (by omega)]; done)
    | (rw [foldI_s (by omega), ← f17]; unfold mkS; (try dsimp only); rw [if_pos (by omega)]; unfold chF clF lnF; (try dsimp only); (repeat' (first | rfl | (exfalso; omega) | split)); done))
def w_makes_1_9 : VC := (([(0, 23), (0, 49), (1, 8), (0, 10), (0, 8), (0, 6), (0, 6), (0, 8), (1, 11), (0, 9), ((-2147483648), 2147483647), ((-2147483648), 2147483647), (0, 5), (0, 23), (0, 10), (0, 23), (0, 7), (0, 7), (0, 7), (1, 1), (0, 9), (0, 18), (0, 99), (0, 99)]), [(21, [(some 17, 0), (some 23, 0)], [38, 35]), (3, [(none, 99), (some 23, 0)], []), (3, [(some 23, 0), (none, 0)], []), (4, [(some 23, 0), (some 22, 0), (some 21, 0)], []), (20, [(some 22, 0), (some 17, 0)], [35]), (6, [(some 21, 0), (none, 2), (some 20, 0)], []), (20, [(some 20, 0), (some 14, 0)], [6]), (0, [(some 19, 0), (none, 1)], []), (1, [(some 19, 0), (none, 0)], []), (20, [(some 19, 0), (some 18, 0)], [3]), (20, [(some 18, 0), (some 14, 0)], [5]), (20, [(some 17, 0), (some 14, 0)], [5]), (21, [(some 14, 0), (none, 1)], [37, 36]), (2, [(some 16, 0), (some 2, 0)], []), (20, [(some 16, 0), (some 14, 0)], [5]), (0, [(some 15, 0), (some 13, 0)], []), (20, [(some 15, 0), (some 14, 0)], [7]), (2, [(some 14, 0), (some 8, 0)], []), (95, [(some 14, 0), (some 2, 0), (some 13, 0)], [3, 5, 6, 7, 19, 20, 21, 35, 36]), (3, [(some 8, 0), (some 14, 0)], [])], (95, [(some 14, 1), (some 2, 0), (some 13, 0)], [3, 5, 6, 7, 19, 20, 21, 38, 37]))
set_option maxRecDepth 20000 in
theorem v_makes_1_9 {PT : PTy} (hp : HP5 PT) : vcOk PT w_makes_1_9 := vc_iv [(2, 1, 8), (8, 1, 11), (13, 0, 23), (14, 0, 10), (15, 0, 23), (16, 0, 7), (17, 0, 7), (18, 0, 7), (19, 1, 1), (20, 0, 9), (21, 0, 18), (22, 0, 99), (23, 0, 99)] [3, 5, 6, 7, 19, 20, 21, 35, 36, 37, 38] (by decide +kernel) (fun ρ α => by
  intro r2 g2 b2 r8 g8 b8 r13 g13 b13 r14 g14 b14 r15 g15 b15 r16 g16 b16 r17 g17 b17 r18 g18 b18 r19 g19 b19 r20 g20 b20 r21 g21 b21 r22 g22 b22 r23 g23 b23 a3 h3 a5 h5 a6 h6 a7 h7 a19 h19 a20 h20 a21 h21 a35 h35 a36 h36 a37 h37 a38 h38 f0 f1 f2 f3 f4 f5 f6 f7 f8 f9 f10 f11 f12 f13 f14 f15 f16 f17 f18 f19 tt
  clear f1 f2 f8
  have e95 : PT 95 = P_mk := pe95_5 hp
  simp only [hF0, hF2, hF3, hF4, hF6, hF20, hF21, hFp_95, e95, P_mk, den_s, den_c, Int.add_zero, List.map_cons, List.map_nil, g2.eq, g8.eq, g13.eq, g14.eq, g15.eq, g16.eq, g17.eq, g18.eq, g19.eq, g20.eq, g21.eq, g22.eq, g23.eq, h3, h5, h6, h7, h19, h20, h21, h35, h36, h37, h38] at f0 f3 f4 f5 f6 f7 f9 f10 f11 f12 f13 f14 f15 f16 f17 f18 f19 ⊢
  subst f0
  subst f3
  subst f4
  subst f5
  subst f6
  subst f9
  subst f10
  subst f11
  subst f12
  subst f14
  subst f16
  first
    | omega
    | (rw [show r8 = r14 by omega]; exact f18)
    | (rw [foldI_s (by omega), ← f18]; unfold mkS; (try dsimp only); rw [if_neg (by omega)]; done)
    | (rw [foldI_s (by omega), ← f18]; unfold mkS; (try dsimp only); rw [if_pos (by omega)]; unfold chF clF lnF; (try dsimp only); (repeat' (first | rfl | (exfalso; omega) | split)); done))
def w_makes_1_10 : VC := (([(0, 23), (0, 49), (1, 8), (0, 10), (0, 8), (0, 6), (0, 6), (0, 8), (1, 11), (0, 9), ((-2147483648), 2147483647), ((-2147483648), 2147483647), (0, 5), (0, 23), (0, 10), (0, 23), (0, 7), (0, 7), (0, 7), (1, 1), (0, 9), (0, 18), (0, 99), (0, 99)]), [(21, [(some 17, 0), (some 23, 0)], [38, 35]), (3, [(none, 99), (some 23, 0)], []), (3, [(some 23, 0), (none, 0)], []), (4, [(some 23, 0), (some 22, 0), (some 21, 0)], []), (20, [(some 22, 0), (some 17, 0)], [35]), (6, [(some 21, 0), (none, 2), (some 20, 0)], []), (20, [(some 20, 0), (some 14, 0)], [6]), (0, [(some 19, 0), (none, 1)], []), (1, [(some 19, 0), (none, 0)], []), (20, [(some 19, 0), (some 18, 0)], [3]), (20, [(some 18, 0), (some 14, 0)], [5]), (20, [(some 17, 0), (some 14, 0)], [5]), (21, [(some 14, 0), (none, 1)], [37, 36]), (2, [(some 16, 0), (some 2, 0)], []), (20, [(some 16, 0), (some 14, 0)], [5]), (0, [(some 15, 0), (some 13, 0)], []), (20, [(some 15, 0), (some 14, 0)], [7]), (2, [(some 14, 0), (some 8, 0)], []), (95, [(some 14, 0), (some 2, 0), (some 13, 0)], [3, 5, 6, 7, 19, 20, 21, 35, 36]), (3, [(some 8, 0), (some 14, 0)], [])], (3, [(some 8, 0), (some 14, 1)], []))
set_option maxRecDepth 20000 in
theorem v_makes_1_10 {PT : PTy} (hp : HP5 PT) : vcOk PT w_makes_1_10 := vc_iv [(2, 1, 8), (8, 1, 11), (13, 0, 23), (14, 0, 10), (15, 0, 23), (16, 0, 7), (17, 0, 7), (18, 0, 7), (19, 1, 1), (20, 0, 9), (21, 0, 18), (22, 0, 99), (23, 0, 99)] [3, 5, 6, 7, 19, 20, 21, 35, 36, 37, 38] (by decide +kernel) (fun ρ α => by
  intro r2 g2 b2 r8 g8 b8 r13 g13 b13 r14 g14 b14 r15 g15 b15 r16 g16 b16 r17 g17 b17 r18 g18 b18 r19 g19 b19 r20 g20 b20 r21 g21 b21 r22 g22 b22 r23 g23 b23 a3 h3 a5 h5 a6 h6 a7 h7 a19 h19 a20 h20 a21 h21 a35 h35 a36 h36 a37 h37 a38 h38 f0 f1 f2 f3 f4 f5 f6 f7 f8 f9 f10 f11 f12 f13 f14 f15 f16 f17 f18 f19 tt
  clear f1 f2 f8
  have e95 : PT 95 = P_mk := pe95_5 hp
  simp only [hF0, hF2, hF3, hF4, hF6, hF20, hF21, hFp_95, e95, P_mk, den_s, den_c, Int.add_zero, List.map_cons, List.map_nil, g2.eq, g8.eq, g13.eq, g14.eq, g15.eq, g16.eq, g17.eq, g18.eq, g19.eq, g20.eq, g21.eq, g22.eq, g23.eq, h3, h5, h6, h7, h19, h20, h21, h35, h36, h37, h38] at f0 f3 f4 f5 f6 f7 f9 f10 f11 f12 f13 f14 f15 f16 f17 f18 f19 ⊢
  subst f0
  subst f3
  subst f4
  subst f5
  subst f6
  subst f9
  subst f10
  subst f11
  subst f12
  subst f14
  subst f16
  first
    | omega
    | (rw [show r8 = r14 by omega]; exact f18)
    | (rw [foldI_s (by omega), ← f18]; unfold mkS; (try dsimp only); rw [if_neg (by omega)]; done)
    | (rw [foldI_s (by omega), ← f18]; unfold mkS; (try dsimp only); rw [if_pos (by omega)]; unfold chF clF lnF; (try dsimp only); (repeat' (first | rfl | (exfalso; omega) | split)); done))
def w_makes_1_11 : VC := (([(0, 23), (0, 49), (1, 8), (0, 10), (0, 8), (0, 6), (0, 6), (0, 8), (1, 11), (0, 9), ((-2147483648), 2147483647), ((-2147483648), 2147483647), (0, 5), (0, 23), (0, 10), (0, 23), (0, 7), (0, 7), (0, 7), (1, 1), (0, 9), (0, 18), (0, 99), (100, 117)]), [(21, [(some 17, 0), (none, 99)], [38, 35]), (2, [(none, 99), (some 23, 0)], []), (3, [(some 23, 0), (none, 0)], []), (4, [(some 23, 0), (some 22, 0), (some 21, 0)], []), (20, [(some 22, 0), (some 17, 0)], [35]), (6, [(some 21, 0), (none, 2), (some 20, 0)], []), (20, [(some 20, 0), (some 14, 0)], [6]), (0, [(some 19, 0), (none, 1)], []), (1, [(some 19, 0), (none, 0)], []), (20, [(some 19, 0), (some 18, 0)], [3]), (20, [(some 18, 0), (some 14, 0)], [5]), (20, [(some 17, 0), (some 14, 0)], [5]), (21, [(some 14, 0), (none, 1)], [37, 36]), (2, [(some 16, 0), (some 2, 0)], []), (20, [(some 16, 0), (some 14, 0)], [5]), (0, [(some 15, 0), (some 13, 0)], []), (20, [(some 15, 0), (some 14, 0)], [7]), (2, [(some 14, 0), (some 8, 0)], []), (95, [(some 14, 0), (some 2, 0), (some 13, 0)], [3, 5, 6, 7, 19, 20, 21, 35, 36]), (3, [(some 8, 0), (some 14, 0)], [])], (95, [(some 14, 1), (some 2, 0), (some 13, 0)], [3, 5, 6, 7, 19, 20, 21, 38, 37]))
set_option maxRecDepth 20000 in
theorem v_makes_1_11 {PT : PTy} (hp : HP5 PT) : vcOk PT w_makes_1_11 := vc_iv [(2, 1, 8), (8, 1, 11), (13, 0, 23), (14, 0, 10), (15, 0, 23), (16, 0, 7), (17, 0, 7), (18, 0, 7), (19, 1, 1), (20, 0, 9), (21, 0, 18), (22, 0, 99), (23, 100, 117)] [3, 5, 6, 7, 19, 20, 21, 35, 36, 37, 38] (by decide +kernel) (fun ρ α => by
  intro r2 g2 b2 r8 g8 b8 r13 g13 b13 r14 g14 b14 r15 g15 b15 r16 g16 b16 r17 g17 b17 r18 g18 b18 r19 g19 b19 r20 g20 b20 r21 g21 b21 r22 g22 b22 r23 g23 b23 a3 h3 a5 h5 a6 h6 a7 h7 a19 h19 a20 h20 a21 h21 a35 h35 a36 h36 a37 h37 a38 h38 f0 f1 f2 f3 f4 f5 f6 f7 f8 f9 f10 f11 f12 f13 f14 f15 f16 f17 f18 f19 tt
  clear f1 f2 f8
  have e95 : PT 95 = P_mk := pe95_5 hp
  simp only [hF0, hF2, hF3, hF4, hF6, hF20, hF21, hFp_95, e95, P_mk, den_s, den_c, Int.add_zero, List.map_cons, List.map_nil, g2.eq, g8.eq, g13.eq, g14.eq, g15.eq, g16.eq, g17.eq, g18.eq, g19.eq, g20.eq, g21.eq, g22.eq, g23.eq, h3, h5, h6, h7, h19, h20, h21, h35, h36, h37, h38] at f0 f3 f4 f5 f6 f7 f9 f10 f11 f12 f13 f14 f15 f16 f17 f18 f19 ⊢
  subst f0
  subst f3
  subst f4
  subst f5
  subst f6
  subst f9
  subst f10
  subst f11
  subst f12
  subst f14
  subst f16
  first
    | omega
    | (rw [show r8 = r14 by omega]; exact f18)
    | (rw [foldI_s (by omega), ← f18]; unfold mkS; (try dsimp only); rw [if_neg (by omega)]; done)
    | (rw [foldI_s (by omega), ← f18]; unfold mkS; (try dsimp only); rw [if_pos (by omega)]; unfold chF clF lnF; (try dsimp only); (repeat' (first | rfl | (exfalso; omega) | split)); done))
def w_makes_1_12 : VC := (([(0, 23), (0, 49), (1, 8), (0, 10), (0, 8), (0, 6), (0, 6), (0, 8), (1, 11), (0, 9), ((-2147483648), 2147483647), ((-2147483648), 2147483647), (0, 5), (0, 23), (0, 10), (0, 23), (0, 7), (0, 7), (0, 7), (1, 1), (0, 9), (0, 18), (0, 99), (100, 117)]), [(21, [(some 17, 0), (none, 99)], [38, 35]), (2, [(none, 99), (some 23, 0)], []), (3, [(some 23, 0), (none, 0)], []), (4, [(some 23, 0), (some 22, 0), (some 21, 0)], []), (20, [(some 22, 0), (some 17, 0)], [35]), (6, [(some 21, 0), (none, 2), (some 20, 0)], []), (20, [(some 20, 0), (some 14, 0)], [6]), (0, [(some 19, 0), (none, 1)], []), (1, [(some 19, 0), (none, 0)], []), (20, [(some 19, 0), (some 18, 0)], [3]), (20, [(some 18, 0), (some 14, 0)], [5]), (20, [(some 17, 0), (some 14, 0)], [5]), (21, [(some 14, 0), (none, 1)], [37, 36]), (2, [(some 16, 0), (some 2, 0)], []), (20, [(some 16, 0), (some 14, 0)], [5]), (0, [(some 15, 0), (some 13, 0)], []), (20, [(some 15, 0), (some 14, 0)], [7]), (2, [(some 14, 0), (some 8, 0)], []), (95, [(some 14, 0), (some 2, 0), (some 13, 0)], [3, 5, 6, 7, 19, 20, 21, 35, 36]), (3, [(some 8, 0), (some 14, 0)], [])], (3, [(some 8, 0), (some 14, 1)], []))
set_option maxRecDepth 20000 in
theorem v_makes_1_12 {PT : PTy} (hp : HP5 PT) : vcOk PT w_makes_1_12 := vc_iv [(2, 1, 8), (8, 1, 11), (13, 0, 23), (14, 0, 10), (15, 0, 23), (16, 0, 7), (17, 0, 7), (18, 0, 7), (19, 1, 1), (20, 0, 9), (21, 0, 18), (22, 0, 99), (23, 100, 117)] [3, 5, 6, 7, 19, 20, 21, 35, 36, 37, 38] (by decide +kernel) (fun ρ α => by
  intro r2 g2 b2 r8 g8 b8 r13 g13 b13 r14 g14 b14 r15 g15 b15 r16 g16 b16 r17 g17 b17 r18 g18 b18 r19 g19 b19 r20 g20 b20 r21 g21 b21 r22 g22 b22 r23 g23 b23 a3 h3 a5 h5 a6 h6 a7 h7 a19 h19 a20 h20 a21 h21 a35 h35 a36 h36 a37 h37 a38 h38 f0 f1 f2 f3 f4 f5 f6 f7 f8 f9 f10 f11 f12 f13 f14 f15 f16 f17 f18 f19 tt
  clear f1 f2 f8
  have e95 : PT 95 = P_mk := pe95_5 hp
  simp only [hF0, hF2, hF3, hF4, hF6, hF20, hF21, hFp_95, e95, P_mk, den_s, den_c, Int.add_zero, List.map_cons, List.map_nil, g2.eq, g8.eq, g13.eq, g14.eq, g15.eq, g16.eq, g17.eq, g18.eq, g19.eq, g20.eq, g21.eq, g22.eq, g23.eq, h3, h5, h6, h7, h19, h20, h21, h35, h36, h37, h38] at f0 f3 f4 f5 f6 f7 f9 f10 f11 f12 f13 f14 f15 f16 f17 f18 f19 ⊢
  subst f0
  subst f3
  subst f4
  subst f5
  subst f6
  subst f9
  subst f10
  subst f11
  subst f12
  subst f14
  subst f16
  first
    | omega
    | (rw [show r8 = r14 by omega]; exact f18)
    | (rw [foldI_s (by omega), ← f18]; unfold mkS; (try dsimp only); rw [if_neg (by omega)]; done)
    | (rw [foldI_s (by omega), ← f18]; unfold mkS; (try dsimp only); rw [if_pos (by omega)]; unfold chF clF lnF; (try dsimp only); (repeat' (first | rfl | (exfalso; omega) | split)); done))
def w_makes_1_13 : VC := (([(0, 23), (0, 49), (1, 8), (0, 10), (0, 8), (0, 6), (0, 6), (0, 8), (1, 11), (0, 9), ((-2147483648), 2147483647), ((-2147483648), 2147483647), (0, 5), (0, 23), (0, 10), (0, 23), (0, 7), (0, 7), (0, 7), (0, 0), (0, 9), (0, 9), (0, 99), (0, 99)]), [(21, [(some 17, 0), (some 23, 0)], [38, 35]), (3, [(none, 99), (some 23, 0)], []), (3, [(some 23, 0), (none, 0)], []), (4, [(some 23, 0), (some 22, 0), (some 21, 0)], []), (20, [(some 22, 0), (some 17, 0)], [35]), (7, [(some 21, 0), (some 20, 0), (none, 2)], []), (20, [(some 20, 0), (some 14, 0)], [6]), (0, [(some 19, 0), (none, 0)], []), (20, [(some 19, 0), (some 18, 0)], [3]), (20, [(some 18, 0), (some 14, 0)], [5]), (20, [(some 17, 0), (some 14, 0)], [5]), (21, [(some 14, 0), (none, 1)], [37, 36]), (2, [(some 16, 0), (some 2, 0)], []), (20, [(some 16, 0), (some 14, 0)], [5]), (0, [(some 15, 0), (some 13, 0)], []), (20, [(some 15, 0), (some 14, 0)], [7]), (2, [(some 14, 0), (some 8, 0)], []), (95, [(some 14, 0), (some 2, 0), (some 13, 0)], [3, 5, 6, 7, 19, 20, 21, 35, 36]), (3, [(some 8, 0), (some 14, 0)], [])], (95, [(some 14, 1), (some 2, 0), (some 13, 0)], [3, 5, 6, 7, 19, 20, 21, 38, 37]))
set_option maxRecDepth 20000 in
theorem v_makes_1_13 {PT : PTy} (hp : HP5 PT) : vcOk PT w_makes_1_13 := vc_iv [(2, 1, 8), (8, 1, 11), (13, 0, 23), (14, 0, 10), (15, 0, 23), (16, 0, 7), (17, 0, 7), (18, 0, 7), (19, 0, 0), (20, 0, 9), (21, 0, 9), (22, 0, 99), (23, 0, 99)] [3, 5, 6, 7, 19, 20, 21, 35, 36, 37, 38] (by decide +kernel) (fun ρ α => by
  intro r2 g2 b2 r8 g8 b8 r13 g13 b13 r14 g14 b14 r15 g15 b15 r16 g16 b16 r17 g17 b17 r18 g18 b18 r19 g19 b19 r20 g20 b20 r21 g21 b21 r22 g22 b22 r23 g23 b23 a3 h3 a5 h5 a6 h6 a7 h7 a19 h19 a20 h20 a21 h21 a35 h35 a36 h36 a37 h37 a38 h38 f0 f1 f2 f3 f4 f5 f6 f7 f8 f9 f10 f11 f12 f13 f14 f15 f16 f17 f18 tt
  clear f1 f2
  have e95 : PT 95 = P_mk := pe95_5 hp
  simp only [hF0, hF2, hF3, hF4, hF7, hF20, hF21, hFp_95, e95, P_mk, den_s, den_c, Int.add_zero, List.map_cons, List.map_nil, g2.eq, g8.eq, g13.eq, g14.eq, g15.eq, g16.eq, g17.eq, g18.eq, g19.eq, g20.eq, g21.eq, g22.eq, g23.eq, h3, h5, h6, h7, h19, h20, h21, h35, h36, h37, h38] at f0 f3 f4 f5 f6 f7 f8 f9 f10 f11 f12 f13 f14 f15 f16 f17 f18 ⊢
  subst f0
  subst f3
  subst f4
  subst f5
  subst f6
  subst f8
  subst f9
  subst f10
  subst f11
  subst f13
  subst f15
  first
    | omega
    | (rw [show r8 = r14 by omega]; exact f17)
    | (rw [foldI_s (by omega), ← f17]; unfold mkS; (try dsimp only); rw [if_neg (by omega)]; done)
    | (rw [foldI_s (by omega), ← f17]; unfold mkS; (try dsimp only); rw [if_pos (by omega)]; unfold chF clF lnF; (try dsimp only); (repeat' (first | rfl | (exfalso; omega) | split)); done))
def w_makes_1_14 : VC := (([(0, 23), (0, 49), (1, 8), (0, 10), (0, 8), (0, 6), (0, 6), (0, 8), (1, 11), (0, 9), ((-2147483648), 2147483647), ((-2147483648), 2147483647), (0, 5), (0, 23), (0, 10), (0, 23), (0, 7), (0, 7), (0, 7), (0, 0), (0, 9), (0, 9), (0, 99), (0, 99)]), [(21, [(some 17, 0), (some 23, 0)], [38, 35]), (3, [(none, 99), (some 23, 0)], []), (3, [(some 23, 0), (none, 0)], []), (4, [(some 23, 0), (some 22, 0), (some 21, 0)], []), (20, [(some 22, 0), (some 17, 0)], [35]), (7, [(some 21, 0), (some 20, 0), (none, 2)], []), (20, [(some 20, 0), (some 14, 0)], [6]), (0, [(some 19, 0), (none, 0)], []), (20, [(some 19, 0), (some 18, 0)], [3]), (20, [(some 18, 0), (some 14, 0)], [5]), (20, [(some 17, 0), (some 14, 0)], [5]), (21, [(some 14, 0), (none, 1)], [37, 36]), (2, [(some 16, 0), (some 2, 0)], []), (20, [(some 16, 0), (some 14, 0)], [5]), (0, [(some 15, 0), (some 13, 0)], []), (20, [(some 15, 0), (some 14, 0)], [7]), (2, [(some 14, 0), (some 8, 0)], []), (95, [(some 14, 0), (some 2, 0), (some 13, 0)], [3, 5, 6, 7, 19, 20, 21, 35, 36]), (3, [(some 8, 0), (some 14, 0)], [])], (3, [(some 8, 0), (some 14, 1)], []))
set_option maxRecDepth 20000 in
theorem v_makes_1_14 {PT : PTy} (hp : HP5 PT) : vcOk PT w_makes_1_14 := vc_iv [(2, 1, 8), (8, 1, 11), (13, 0, 23), (14, 0, 10), (15, 0, 23), (16, 0, 7), (17, 0, 7), (18, 0, 7), (19, 0, 0), (20, 0, 9), (21, 0, 9), (22, 0, 99), (23, 0, 99)] [3, 5, 6, 7, 19, 20, 21, 35, 36, 37, 38] (by decide +kernel) (fun ρ α => by
  intro r2 g2 b2 r8 g8 b8 r13 g13 b13 r14 g14 b14 r15 g15 b15 r16 g16 b16 r17 g17 b17 r18 g18 b18 r19 g19 b19 r20 g20 b20 r21 g21 b21 r22 g22 b22 r23 g23 b23 a3 h3 a5 h5 a6 h6 a7 h7 a19 h19 a20 h20 a21 h21 a35 h35 a36 h36 a37 h37 a38 h38 f0 f1 f2 f3 f4 f5 f6 f7 f8 f9 f10 f11 f12 f13 f14 f15 f16 f17 f18 tt
  clear f1 f2
  have e95 : PT 95 = P_mk := pe95_5 hp
  simp only [hF0, hF2, hF3, hF4, hF7, hF20, hF21, hFp_95, e95, P_mk, den_s, den_c, Int.add_zero, List.map_cons, List.map_nil, g2.eq, g8.eq, g13.eq, g14.eq, g15.eq, g16.eq, g17.eq, g18.eq, g19.eq, g20.eq, g21.eq, g22.eq, g23.eq, h3, h5, h6, h7, h19, h20, h21, h35, h36, h37, h38] at f0 f3 f4 f5 f6 f7 f8 f9 f10 f11 f12 f13 f14 f15 f16 f17 f18 ⊢
  subst f0
  subst f3
  subst f4
  subst f5
  subst f6
  subst f8
  subst f9
  subst f10
  subst f11
  subst f13
  subst f15
  first
    | omega
    | (rw [show r8 = r14 by omega]; exact f17)
    | (rw [foldI_s (by omega), ← f17]; unfold mkS; (try dsimp only); rw [if_neg (by omega)]; done)
    | (rw [foldI_s (by omega), ← f17]; unfold mkS; (try dsimp only); rw [if_pos (by omega)]; unfold chF clF lnF; (try dsimp only); (repeat' (first | rfl | (exfalso; omega) | split)); done))
def w_makes_1_15 : VC := (([(0, 23), (0, 49), (1, 8), (0, 10), (0, 8), (0, 6), (0, 6), (0, 8), (1, 11), (0, 9), ((-2147483648), 2147483647), ((-2147483648), 2147483647), (0, 5), (0, 23), (0, 10), (0, 23), (0, 7), (0, 7), (0, 7), (0, 0), (0, 9), (0, 9), (0, 99), (100, 108)]), [(21, [(some 17, 0), (none, 99)], [38, 35]), (2, [(none, 99), (some 23, 0)], []), (3, [(some 23, 0), (none, 0)], []), (4, [(some 23, 0), (some 22, 0), (some 21, 0)], []), (20, [(some 22, 0), (some 17, 0)], [35]), (7, [(some 21, 0), (some 20, 0), (none, 2)], []), (20, [(some 20, 0), (some 14, 0)], [6]), (0, [(some 19, 0), (none, 0)], []), (20, [(some 19, 0), (some 18, 0)], [3]), (20, [(some 18, 0), (some 14, 0)], [5]), (20, [(some 17, 0), (some 14, 0)], [5]), (21, [(some 14, 0), (none, 1)], [37, 36]), (2, [(some 16, 0), (some 2, 0)], []), (20, [(some 16, 0), (some 14, 0)], [5]), (0, [(some 15, 0), (some 13, 0)], []), (20, [(some 15, 0), (some 14, 0)], [7]), (2, [(some 14, 0), (some 8, 0)], []), (95, [(some 14, 0), (some 2, 0), (some 13, 0)], [3, 5, 6, 7, 19, 20, 21, 35, 36]), (3, [(some 8, 0), (some 14, 0)], [])], (95, [(some 14, 1), (some 2, 0), (some 13, 0)], [3, 5, 6, 7, 19, 20, 21, 38, 37]))
set_option maxRecDepth 20000 in
theorem v_makes_1_15 {PT : PTy} (hp : HP5 PT) : vcOk PT w_makes_1_15 := vc_iv [(2, 1, 8), (8, 1, 11), (13, 0, 23), (14, 0, 10), (15, 0, 23), (16, 0, 7), (17, 0, 7), (18, 0, 7), (19, 0, 0), (20, 0, 9), (21, 0, 9), (22, 0, 99), (23, 100, 108)] [3, 5, 6, 7, 19, 20, 21, 35, 36, 37, 38] (by decide +kernel) (fun ρ α => by
  intro r2 g2 b2 r8 g8 b8 r13 g13 b13 r14 g14 b14 r15 g15 b15 r16 g16 b16 r17 g17 b17 r18 g18 b18 r19 g19 b19 r20 g20 b20 r21 g21 b21 r22 g22 b22 r23 g23 b23 a3 h3 a5 h5 a6 h6 a7 h7 a19 h19 a20 h20 a21 h21 a35 h35 a36 h36 a37 h37 a38 h38 f0 f1 f2 f3 f4 f5 f6 f7 f8 f9 f10 f11 f12 f13 f14 f15 f16 f17 f18 tt
  clear f1 f2
  have e95 : PT 95 = P_mk := pe95_5 hp
  simp only [hF0, hF2, hF3, hF4, hF7, hF20, hF21, hFp_95, e95, P_mk, den_s, den_c, Int.add_zero, List.map_cons, List.map_nil, g2.eq, g8.eq, g13.eq, g14.eq, g15.eq, g16.eq, g17.eq, g18.eq, g19.eq, g20.eq, g21.eq, g22.eq, g23.eq, h3, h5, h6, h7, h19, h20, h21, h35, h36, h37, h38] at f0 f3 f4 f5 f6 f7 f8 f9 f10 f11 f12 f13 f14 f15 f16 f17 f18 ⊢
  subst f0
  subst f3
  subst f4
  subst f5
  subst f6
  subst f8
  subst f9
  subst f10
  subst f11
  subst f13
  subst f15
  first
    | omega
    | (rw [show r8 = r14 by omega]; exact f17)
    | (rw [foldI_s (by omega), ← f17]; unfold mkS; (try dsimp only); rw [if_neg (by omega)]; done)
    | (rw [foldI_s (by omega), ← f17]; unfold mkS; (try dsimp only); rw [if_pos (by omega)]; unfold chF clF lnF; (try dsimp only); (repeat' (first | rfl | (exfalso; omega) | split)); done))
def w_makes_1_16 : VC := (([(0, 23), (0, 49), (1, 8), (0, 10), (0, 8), (0, 6), (0, 6), (0, 8), (1, 11), (0, 9), ((-2147483648), 2147483647), ((-2147483648), 2147483647), (0, 5), (0, 23), (0, 10), (0, 23), (0, 7), (0, 7), (0, 7), (0, 0), (0, 9), (0, 9), (0, 99), (100, 108)]), [(21, [(some 17, 0), (none, 99)], [38, 35]), (2, [(none, 99), (some 23, 0)], []), (3, [(some 23, 0), (none, 0)], []), (4, [(some 23, 0), (some 22, 0), (some 21, 0)], []), (20, [(some 22, 0), (some 17, 0)], [35]), (7, [(some 21, 0), (some 20, 0), (none, 2)], []), (20, [(some 20, 0), (some 14, 0)], [6]), (0, [(some 19, 0), (none, 0)], []), (20, [(some 19, 0), (some 18, 0)], [3]), (20, [(some 18, 0), (some 14, 0)], [5]), (20, [(some 17, 0), (some 14, 0)], [5]), (21, [(some 14, 0), (none, 1)], [37, 36]), (2, [(some 16, 0), (some 2, 0)], []), (20, [(some 16, 0), (some 14, 0)], [5]), (0, [(some 15, 0), (some 13, 0)], []), (20, [(some 15, 0), (some 14, 0)], [7]), (2, [(some 14, 0), (some 8, 0)], []), (95, [(some 14, 0), (some 2, 0), (some 13, 0)], [3, 5, 6, 7, 19, 20, 21, 35, 36]), (3, [(some 8, 0), (some 14, 0)], [])], (3, [(some 8, 0), (some 14, 1)], []))
set_option maxRecDepth 20000 in
theorem v_makes_1_16 {PT : PTy} (hp : HP5 PT) : vcOk PT w_makes_1_16 := vc_iv [(2, 1, 8), (8, 1, 11), (13, 0, 23), (14, 0, 10), (15, 0, 23), (16, 0, 7), (17, 0, 7), (18, 0, 7), (19, 0, 0), (20, 0, 9), (21, 0, 9), (22, 0, 99), (23, 100, 108)] [3, 5, 6, 7, 19, 20, 21, 35, 36, 37, 38] (by decide +kernel) (fun ρ α => by
  intro r2 g2 b2 r8 g8 b8 r13 g13 b13 r14 g14 b14 r15 g15 b15 r16 g16 b16 r17 g17 b17 r18 g18 b18 r19 g19 b19 r20 g20 b20 r21 g21 b21 r22 g22 b22 r23 g23 b23 a3 h3 a5 h5 a6 h6 a7 h7 a19 h19 a20 h20 a21 h21 a35 h35 a36 h36 a37 h37 a38 h38 f0 f1 f2 f3 f4 f5 f6 f7 f8 f9 f10 f11 f12 f13 f14 f15 f16 f17 f18 tt
  clear f1 f2
  have e95 : PT 95 = P_mk := pe95_5 hp
  simp only [hF0, hF2, hF3, hF4, hF7, hF20, hF21, hFp_95, e95, P_mk, den_s, den_c, Int.add_zero, List.map_cons, List.map_nil, g2.eq, g8.eq, g13.eq, g14.eq, g15.eq, g16.eq, g17.eq, g18.eq, g19.eq, g20.eq, g21.eq, g22.eq, g23.eq, h3, h5, h6, h7, h19, h20, h21, h35, h36, h37, h38] at f0 f3 f4 f5 f6 f7 f8 f9 f10 f11 f12 f13 f14 f15 f16 f17 f18 ⊢
  subst f0
  subst f3
  subst f4
  subst f5
  subst f6
  subst f8
  subst f9
  subst f10
  subst f11
  subst f13
  subst f15
  first
    | omega
    | (rw [show r8 = r14 by omega]; exact f17)
    | (rw [foldI_s (by omega), ← f17]; unfold mkS; (try dsimp only); rw [if_neg (by omega)]; done)
    | (rw [foldI_s (by omega), ← f17]; unfold mkS; (try dsimp only); rw [if_pos (by omega)]; unfold chF clF lnF; (try dsimp only); (repeat' (first | rfl | (exfalso; omega) | split)); done))
set_option maxRecDepth 1000000 in
theorem k_makes {PT : PTy} (hp : HP5 PT) : wfX c_makes = true ∧ xcOk PT c_makes := xctr (xl0) c_makes 94 mX7_makes rfl h_makes (by decide +kernel) (by decide +kernel) (by decide) (vcs_by [w_makes_0_0, w_makes_0_1] (by decide +kernel) (vc (v_makes_0_0 hp) (vc (v_makes_0_1 hp) vn))) (fmc (vcs_by [w_makes_1_0, w_makes_1_1, w_makes_1_2, w_makes_1_3, w_makes_1_4, w_makes_1_5, w_makes_1_6, w_makes_1_7, w_makes_1_8, w_makes_1_9, w_makes_1_10, w_makes_1_11, w_makes_1_12, w_makes_1_13, w_makes_1_14, w_makes_1_15, w_makes_1_16] (by decide +kernel) (vc (v_makes_1_0 hp) (vc (v_makes_1_1 hp) (vc (v_makes_1_2 hp) (vc (v_makes_1_3 hp) (vc (v_makes_1_4 hp) (vc (v_makes_1_5 hp) (vc (v_makes_1_6 hp) (vc (v_makes_1_7 hp) (vc (v_makes_1_8 hp) (vc (v_makes_1_9 hp) (vc (v_makes_1_10 hp) (vc (v_makes_1_11 hp) (vc (v_makes_1_12 hp) (vc (v_makes_1_13 hp) (vc (v_makes_1_14 hp) (vc (v_makes_1_15 hp) (vc (v_makes_1_16 hp) vn)))))))))))))))))) fmn)
def c_keepsOn : XC := (137, 2, (bY ++ [(0, 23)]), [.inr (.inl 0), .inl (some 13, 0)], gY2, [], [((bY ++ [(0, 23)]), none, gY2, (ansT 35 [(19, 35), (21, 36)]), 37, [(96, [(some 9, 0), (some 3, 0), (some 10, 0), (some 13, 0)], [4, 5, 6, 17, 18, 19, 20, 21, 35, 36])])])
def h_keepsOn : List XH := [(2, (bY ++ [(0, 23), (0, 9)]), [some (.inr (.inl 0)), some (.inl (some 13, 0)), some (.inl (some 14, 0)), none], gY2, (ansT 35 [(19, 35), (21, 36)]), 37, [(96, [(some 14, 0), (some 3, 0), (some 10, 0), (some 13, 0)], [4, 5, 6, 17, 18, 19, 20, 21, 35, 36]), (3, [(some 9, 0), (some 14, 0)], [])], [(true, (none, 1)), (true, (some 14, 0))])]
def w_keepsOn_0_0 : VC := ((bY ++ [(0, 23)]), [], (96, [(none, 0), (some 3, 0), (some 10, 0), (some 13, 0)], [4, 5, 6, 17, 18, 19, 20, 21, 19, 21]))
theorem pe96_5 {PT : PTy} (hp : HP5 PT) : PT 96 = P_kp := hp.2.2.1
set_option maxRecDepth 20000 in
theorem v_keepsOn_0_0 {PT : PTy} (hp : HP5 PT) : vcOk PT w_keepsOn_0_0 := vc_in [(3, 0, 10), (10, (-2147483648), 2147483647), (13, 0, 23)] (by decide +kernel) (fun ρ α => by
  intro b3 b10 b13 tt
  have e96 : PT 96 = P_kp := pe96_5 hp
  simp only [hFp_96, e96, P_kp, den_s, den_c, Int.add_zero, List.map_cons, List.map_nil] at ⊢
  first | rfl | omega)
def w_keepsOn_0_1 : VC := ((bY ++ [(0, 23)]), [], (3, [(some 9, 0), (none, 0)], []))
set_option maxRecDepth 20000 in
theorem v_keepsOn_0_1 {PT : PTy} (hp : HP5 PT) : vcOk PT w_keepsOn_0_1 := vc_in [(9, 0, 9)] (by decide +kernel) (fun ρ α => by
  intro b9 tt
  simp only [hF3, den_s, den_c, Int.add_zero, List.map_cons, List.map_nil] at ⊢
  first | rfl | omega)
def w_keepsOn_1_0 : VC := ((bY ++ [(0, 23), (0, 9)]), [(3, [(some 14, 0), (some 9, 0)], []), (96, [(some 14, 0), (some 3, 0), (some 10, 0), (some 13, 0)], [4, 5, 6, 17, 18, 19, 20, 21, 35, 36]), (3, [(some 9, 0), (some 14, 0)], [])], (96, [(some 9, 0), (some 3, 0), (some 10, 0), (some 13, 0)], [4, 5, 6, 17, 18, 19, 20, 21, 35, 36]))
set_option maxRecDepth 20000 in
theorem v_keepsOn_1_0 {PT : PTy} (hp : HP5 PT) : vcOk PT w_keepsOn_1_0 := vc_iv [(3, 0, 10), (9, 0, 9), (10, (-2147483648), 2147483647), (13, 0, 23), (14, 0, 9)] [4, 5, 6, 17, 18, 19, 20, 21, 35, 36] (by decide +kernel) (fun ρ α => by
  intro r3 g3 b3 r9 g9 b9 r10 g10 b10 r13 g13 b13 r14 g14 b14 a4 h4 a5 h5 a6 h6 a17 h17 a18 h18 a19 h19 a20 h20 a21 h21 a35 h35 a36 h36 f0 f1 f2 tt
  have e96 : PT 96 = P_kp := pe96_5 hp
  simp only [hF3, hFp_96, e96, P_kp, den_s, den_c, Int.add_zero, List.map_cons, List.map_nil, g3.eq, g9.eq, g10.eq, g13.eq, g14.eq, h4, h5, h6, h17, h18, h19, h20, h21, h35, h36] at f0 f1 f2 ⊢
  first
    | omega
    | (rw [show r9 = r14 by omega]; exact f1)
    | (rw [foldI_s (by omega), ← f1]; unfold kpS; (try dsimp only); rw [if_neg (by omega)]; done)
    | (rw [foldI_s (by omega), ← f1]; unfold kpS; (try dsimp only); rw [if_pos (by omega)]; unfold chF clF twF; (try dsimp only); (repeat' (first | rfl | (exfalso; omega) | split)); done))
def w_keepsOn_1_1 : VC := (([(0, 23), (0, 49), (0, 8), (0, 10), (0, 8), (0, 6), (0, 6), (0, 8), (0, 11), (1, 9), ((-2147483648), 2147483647), ((-2147483648), 2147483647), (0, 5), (0, 23), (0, 8), (0, 9), (0, 23)]), [(1, [(some 16, 0), (some 13, 0)], []), (20, [(some 16, 0), (some 14, 0)], [17]), (20, [(some 15, 0), (some 14, 0)], [18]), (2, [(some 14, 0), (some 9, 0)], []), (96, [(some 14, 0), (some 3, 0), (some 10, 0), (some 13, 0)], [4, 5, 6, 17, 18, 19, 20, 21, 35, 36]), (3, [(some 9, 0), (some 14, 0)], [])], (96, [(some 14, 1), (some 3, 0), (some 10, 0), (some 13, 0)], [4, 5, 6, 17, 18, 19, 20, 21, 35, 36]))
set_option maxRecDepth 20000 in
theorem v_keepsOn_1_1 {PT : PTy} (hp : HP5 PT) : vcOk PT w_keepsOn_1_1 := vc_iv [(3, 0, 10), (9, 1, 9), (10, (-2147483648), 2147483647), (13, 0, 23), (14, 0, 8), (15, 0, 9), (16, 0, 23)] [4, 5, 6, 17, 18, 19, 20, 21, 35, 36] (by decide +kernel) (fun ρ α => by
  intro r3 g3 b3 r9 g9 b9 r10 g10 b10 r13 g13 b13 r14 g14 b14 r15 g15 b15 r16 g16 b16 a4 h4 a5 h5 a6 h6 a17 h17 a18 h18 a19 h19 a20 h20 a21 h21 a35 h35 a36 h36 f0 f1 f2 f3 f4 f5 tt
  have e96 : PT 96 = P_kp := pe96_5 hp
  simp only [hF1, hF2, hF3, hF20, hFp_96, e96, P_kp, den_s, den_c, Int.add_zero, List.map_cons, List.map_nil, g3.eq, g9.eq, g10.eq, g13.eq, g14.eq, g15.eq, g16.eq, h4, h5, h6, h17, h18, h19, h20, h21, h35, h36] at f0 f1 f2 f3 f4 f5 ⊢
  subst f1
  subst f2
  first
    | omega
    | (rw [show r9 = r14 by omega]; exact f4)
    | (rw [foldI_s (by omega), ← f4]; unfold kpS; (try dsimp only); rw [if_neg (by omega)]; done)
    | (rw [foldI_s (by omega), ← f4]; unfold kpS; (try dsimp only); rw [if_pos (by omega)]; unfold chF clF twF; (try dsimp only); (repeat' (first | rfl | (exfalso; omega) | split)); done))
def w_keepsOn_1_2 : VC := (([(0, 23), (0, 49), (0, 8), (0, 10), (0, 8), (0, 6), (0, 6), (0, 8), (0, 11), (1, 9), ((-2147483648), 2147483647), ((-2147483648), 2147483647), (0, 5), (0, 23), (0, 8), (0, 9), (0, 23)]), [(1, [(some 16, 0), (some 13, 0)], []), (20, [(some 16, 0), (some 14, 0)], [17]), (20, [(some 15, 0), (some 14, 0)], [18]), (2, [(some 14, 0), (some 9, 0)], []), (96, [(some 14, 0), (some 3, 0), (some 10, 0), (some 13, 0)], [4, 5, 6, 17, 18, 19, 20, 21, 35, 36]), (3, [(some 9, 0), (some 14, 0)], [])], (3, [(some 9, 0), (some 14, 1)], []))
set_option maxRecDepth 20000 in
theorem v_keepsOn_1_2 {PT : PTy} (hp : HP5 PT) : vcOk PT w_keepsOn_1_2 := vc_iv [(3, 0, 10), (9, 1, 9), (10, (-2147483648), 2147483647), (13, 0, 23), (14, 0, 8), (15, 0, 9), (16, 0, 23)] [4, 5, 6, 17, 18, 19, 20, 21, 35, 36] (by decide +kernel) (fun ρ α => by
  intro r3 g3 b3 r9 g9 b9 r10 g10 b10 r13 g13 b13 r14 g14 b14 r15 g15 b15 r16 g16 b16 a4 h4 a5 h5 a6 h6 a17 h17 a18 h18 a19 h19 a20 h20 a21 h21 a35 h35 a36 h36 f0 f1 f2 f3 f4 f5 tt
  have e96 : PT 96 = P_kp := pe96_5 hp
  simp only [hF1, hF2, hF3, hF20, hFp_96, e96, P_kp, den_s, den_c, Int.add_zero, List.map_cons, List.map_nil, g3.eq, g9.eq, g10.eq, g13.eq, g14.eq, g15.eq, g16.eq, h4, h5, h6, h17, h18, h19, h20, h21, h35, h36] at f0 f1 f2 f3 f4 f5 ⊢
  subst f1
  subst f2
  first
    | omega
    | (rw [show r9 = r14 by omega]; exact f4)
    | (rw [foldI_s (by omega), ← f4]; unfold kpS; (try dsimp only); rw [if_neg (by omega)]; done)
    | (rw [foldI_s (by omega), ← f4]; unfold kpS; (try dsimp only); rw [if_pos (by omega)]; unfold chF clF twF; (try dsimp only); (repeat' (first | rfl | (exfalso; omega) | split)); done))
def w_keepsOn_1_3 : VC := (([(0, 23), (0, 49), (0, 8), (0, 9), (0, 8), (0, 6), (0, 6), (0, 8), (0, 11), (1, 9), ((-2147483648), 2147483647), ((-2147483648), 2147483647), (0, 5), (0, 23), (0, 8), (0, 9), (0, 23), ((-2147483648), 2147483647), ((-2147483648), 2147483647)]), [(3, [(some 15, 0), (some 3, 0)], []), (0, [(none, 0), (none, 0)], []), (1, [(some 18, 0), (none, 1)], []), (10, [(some 18, 0), (some 17, 0), (none, 1)], []), (14, [(some 17, 0), (some 10, 0), (some 14, 0)], []), (0, [(some 16, 0), (some 13, 0)], []), (20, [(some 16, 0), (some 14, 0)], [17]), (20, [(some 15, 0), (some 14, 0)], [18]), (2, [(some 14, 0), (some 9, 0)], []), (96, [(some 14, 0), (some 3, 0), (some 10, 0), (some 13, 0)], [4, 5, 6, 17, 18, 19, 20, 21, 35, 36]), (3, [(some 9, 0), (some 14, 0)], [])], (96, [(some 14, 1), (some 3, 0), (some 10, 0), (some 13, 0)], [4, 5, 6, 17, 18, 19, 20, 21, 35, 36]))
set_option maxRecDepth 20000 in
theorem v_keepsOn_1_3 {PT : PTy} (hp : HP5 PT) : vcOk PT w_keepsOn_1_3 := vc_iv [(3, 0, 9), (9, 1, 9), (10, (-2147483648), 2147483647), (13, 0, 23), (14, 0, 8), (15, 0, 9), (16, 0, 23), (17, (-2147483648), 2147483647), (18, (-2147483648), 2147483647)] [4, 5, 6, 17, 18, 19, 20, 21, 35, 36] (by decide +kernel) (fun ρ α => by
  intro r3 g3 b3 r9 g9 b9 r10 g10 b10 r13 g13 b13 r14 g14 b14 r15 g15 b15 r16 g16 b16 r17 g17 b17 r18 g18 b18 a4 h4 a5 h5 a6 h6 a17 h17 a18 h18 a19 h19 a20 h20 a21 h21 a35 h35 a36 h36 f0 f1 f2 f3 f4 f5 f6 f7 f8 f9 f10 tt
  clear f1
  have e96 : PT 96 = P_kp := pe96_5 hp
  simp only [hF0, hF1, hF2, hF3, hF10, hF14, hF20, hFp_96, e96, P_kp, den_s, den_c, Int.add_zero, List.map_cons, List.map_nil, g3.eq, g9.eq, g10.eq, g13.eq, g14.eq, g15.eq, g16.eq, g17.eq, g18.eq, h4, h5, h6, h17, h18, h19, h20, h21, h35, h36] at f0 f2 f3 f4 f5 f6 f7 f8 f9 f10 ⊢
  subst f3
  subst f4
  subst f6
  subst f7
  first
    | omega
    | (rw [show r9 = r14 by omega]; exact f9)
    | (rw [foldI_s (by omega), ← f9]; unfold kpS; (try dsimp only); rw [if_neg (by omega)]; done)
    | (rw [foldI_s (by omega), ← f9]; unfold kpS; (try dsimp only); rw [if_pos (by omega)]; unfold chF clF twF; (try dsimp only); (repeat' (first | rfl | (exfalso; omega) | split)); done))
def w_keepsOn_1_4 : VC := (([(0, 23), (0, 49), (0, 8), (0, 9), (0, 8), (0, 6), (0, 6), (0, 8), (0, 11), (1, 9), ((-2147483648), 2147483647), ((-2147483648), 2147483647), (0, 5), (0, 23), (0, 8), (0, 9), (0, 23), ((-2147483648), 2147483647), ((-2147483648), 2147483647)]), [(3, [(some 15, 0), (some 3, 0)], []), (0, [(none, 0), (none, 0)], []), (1, [(some 18, 0), (none, 1)], []), (10, [(some 18, 0), (some 17, 0), (none, 1)], []), (14, [(some 17, 0), (some 10, 0), (some 14, 0)], []), (0, [(some 16, 0), (some 13, 0)], []), (20, [(some 16, 0), (some 14, 0)], [17]), (20, [(some 15, 0), (some 14, 0)], [18]), (2, [(some 14, 0), (some 9, 0)], []), (96, [(some 14, 0), (some 3, 0), (some 10, 0), (some 13, 0)], [4, 5, 6, 17, 18, 19, 20, 21, 35, 36]), (3, [(some 9, 0), (some 14, 0)], [])], (3, [(some 9, 0), (some 14, 1)], []))
set_option maxRecDepth 20000 in
theorem v_keepsOn_1_4 {PT : PTy} (hp : HP5 PT) : vcOk PT w_keepsOn_1_4 := vc_iv [(3, 0, 9), (9, 1, 9), (10, (-2147483648), 2147483647), (13, 0, 23), (14, 0, 8), (15, 0, 9), (16, 0, 23), (17, (-2147483648), 2147483647), (18, (-2147483648), 2147483647)] [4, 5, 6, 17, 18, 19, 20, 21, 35, 36] (by decide +kernel) (fun ρ α => by
  intro r3 g3 b3 r9 g9 b9 r10 g10 b10 r13 g13 b13 r14 g14 b14 r15 g15 b15 r16 g16 b16 r17 g17 b17 r18 g18 b18 a4 h4 a5 h5 a6 h6 a17 h17 a18 h18 a19 h19 a20 h20 a21 h21 a35 h35 a36 h36 f0 f1 f2 f3 f4 f5 f6 f7 f8 f9 f10 tt
  clear f1
  have e96 : PT 96 = P_kp := pe96_5 hp
  simp only [hF0, hF1, hF2, hF3, hF10, hF14, hF20, hFp_96, e96, P_kp, den_s, den_c, Int.add_zero, List.map_cons, List.map_nil, g3.eq, g9.eq, g10.eq, g13.eq, g14.eq, g15.eq, g16.eq, g17.eq, g18.eq, h4, h5, h6, h17, h18, h19, h20, h21, h35, h36] at f0 f2 f3 f4 f5 f6 f7 f8 f9 f10 ⊢
  subst f3
  subst f4
  subst f6
  subst f7
  first
    | omega
    | (rw [show r9 = r14 by omega]; exact f9)
    | (rw [foldI_s (by omega), ← f9]; unfold kpS; (try dsimp only); rw [if_neg (by omega)]; done)
    | (rw [foldI_s (by omega), ← f9]; unfold kpS; (try dsimp only); rw [if_pos (by omega)]; unfold chF clF twF; (try dsimp only); (repeat' (first | rfl | (exfalso; omega) | split)); done))
def w_keepsOn_1_5 : VC := (([(0, 23), (0, 49), (0, 8), (1, 10), (0, 8), (0, 6), (0, 6), (0, 8), (0, 11), (1, 9), ((-2147483648), 2147483647), ((-2147483648), 2147483647), (0, 5), (0, 23), (0, 8), (0, 9), (0, 23), ((-2147483648), 2147483647), ((-2147483648), 2147483647), (0, 3)]), [(1, [(some 19, 0), (none, 1)], []), (20, [(some 19, 0), (some 15, 0)], [36]), (2, [(some 15, 0), (some 3, 0)], []), (0, [(none, 0), (none, 0)], []), (1, [(some 18, 0), (none, 1)], []), (10, [(some 18, 0), (some 17, 0), (none, 1)], []), (14, [(some 17, 0), (some 10, 0), (some 14, 0)], []), (0, [(some 16, 0), (some 13, 0)], []), (20, [(some 16, 0), (some 14, 0)], [17]), (20, [(some 15, 0), (some 14, 0)], [18]), (2, [(some 14, 0), (some 9, 0)], []), (96, [(some 14, 0), (some 3, 0), (some 10, 0), (some 13, 0)], [4, 5, 6, 17, 18, 19, 20, 21, 35, 36]), (3, [(some 9, 0), (some 14, 0)], [])], (96, [(some 14, 1), (some 3, 0), (some 10, 0), (some 13, 0)], [4, 5, 6, 17, 18, 19, 20, 21, 35, 36]))
set_option maxRecDepth 20000 in
theorem v_keepsOn_1_5 {PT : PTy} (hp : HP5 PT) : vcOk PT w_keepsOn_1_5 := vc_iv [(3, 1, 10), (9, 1, 9), (10, (-2147483648), 2147483647), (13, 0, 23), (14, 0, 8), (15, 0, 9), (16, 0, 23), (17, (-2147483648), 2147483647), (18, (-2147483648), 2147483647), (19, 0, 3)] [4, 5, 6, 17, 18, 19, 20, 21, 35, 36] (by decide +kernel) (fun ρ α => by
  intro r3 g3 b3 r9 g9 b9 r10 g10 b10 r13 g13 b13 r14 g14 b14 r15 g15 b15 r16 g16 b16 r17 g17 b17 r18 g18 b18 r19 g19 b19 a4 h4 a5 h5 a6 h6 a17 h17 a18 h18 a19 h19 a20 h20 a21 h21 a35 h35 a36 h36 f0 f1 f2 f3 f4 f5 f6 f7 f8 f9 f10 f11 f12 tt
  clear f3
  have e96 : PT 96 = P_kp := pe96_5 hp
  simp only [hF0, hF1, hF2, hF3, hF10, hF14, hF20, hFp_96, e96, P_kp, den_s, den_c, Int.add_zero, List.map_cons, List.map_nil, g3.eq, g9.eq, g10.eq, g13.eq, g14.eq, g15.eq, g16.eq, g17.eq, g18.eq, g19.eq, h4, h5, h6, h17, h18, h19, h20, h21, h35, h36] at f0 f1 f2 f4 f5 f6 f7 f8 f9 f10 f11 f12 ⊢
  subst f1
  subst f5
  subst f6
  subst f8
  subst f9
  first
    | omega
    | (rw [show r9 = r14 by omega]; exact f11)
    | (rw [foldI_s (by omega), ← f11]; unfold kpS; (try dsimp only); rw [if_neg (by omega)]; done)
    | (rw [foldI_s (by omega), ← f11]; unfold kpS; (try dsimp only); rw [if_pos (by omega)]; unfold chF clF twF; (try dsimp only); (repeat' (first | rfl | (exfalso; omega) | split)); done))
def w_keepsOn_1_6 : VC := (([(0, 23), (0, 49), (0, 8), (1, 10), (0, 8), (0, 6), (0, 6), (0, 8), (0, 11), (1, 9), ((-2147483648), 2147483647), ((-2147483648), 2147483647), (0, 5), (0, 23), (0, 8), (0, 9), (0, 23), ((-2147483648), 2147483647), ((-2147483648), 2147483647), (0, 3)]), [(1, [(some 19, 0), (none, 1)], []), (20, [(some 19, 0), (some 15, 0)], [36]), (2, [(some 15, 0), (some 3, 0)], []), (0, [(none, 0), (none, 0)], []), (1, [(some 18, 0), (none, 1)], []), (10, [(some 18, 0), (some 17, 0), (none, 1)], []), (14, [(some 17, 0), (some 10, 0), (some 14, 0)], []), (0, [(some 16, 0), (some 13, 0)], []), (20, [(some 16, 0), (some 14, 0)], [17]), (20, [(some 15, 0), (some 14, 0)], [18]), (2, [(some 14, 0), (some 9, 0)], []), (96, [(some 14, 0), (some 3, 0), (some 10, 0), (some 13, 0)], [4, 5, 6, 17, 18, 19, 20, 21, 35, 36]), (3, [(some 9, 0), (some 14, 0)], [])], (3, [(some 9, 0), (some 14, 1)], []))
set_option maxRecDepth 20000 in
theorem v_keepsOn_1_6 {PT : PTy} (hp : HP5 PT) : vcOk PT w_keepsOn_1_6 := vc_iv [(3, 1, 10), (9, 1, 9), (10, (-2147483648), 2147483647), (13, 0, 23), (14, 0, 8), (15, 0, 9), (16, 0, 23), (17, (-2147483648), 2147483647), (18, (-2147483648), 2147483647), (19, 0, 3)] [4, 5, 6, 17, 18, 19, 20, 21, 35, 36] (by decide +kernel) (fun ρ α => by
  intro r3 g3 b3 r9 g9 b9 r10 g10 b10 r13 g13 b13 r14 g14 b14 r15 g15 b15 r16 g16 b16 r17 g17 b17 r18 g18 b18 r19 g19 b19 a4 h4 a5 h5 a6 h6 a17 h17 a18 h18 a19 h19 a20 h20 a21 h21 a35 h35 a36 h36 f0 f1 f2 f3 f4 f5 f6 f7 f8 f9 f10 f11 f12 tt
  clear f3
  have e96 : PT 96 = P_kp := pe96_5 hp
  simp only [hF0, hF1, hF2, hF3, hF10, hF14, hF20, hFp_96, e96, P_kp, den_s, den_c, Int.add_zero, List.map_cons, List.map_nil, g3.eq, g9.eq, g10.eq, g13.eq, g14.eq, g15.eq, g16.eq, g17.eq, g18.eq, g19.eq, h4, h5, h6, h17, h18, h19, h20, h21, h35, h36] at f0 f1 f2 f4 f5 f6 f7 f8 f9 f10 f11 f12 ⊢
  subst f1
  subst f5
  subst f6
  subst f8
  subst f9
  first
    | omega
    | (rw [show r9 = r14 by omega]; exact f11)
    | (rw [foldI_s (by omega), ← f11]; unfold kpS; (try dsimp only); rw [if_neg (by omega)]; done)
    | (rw [foldI_s (by omega), ← f11]; unfold kpS; (try dsimp only); rw [if_pos (by omega)]; unfold chF clF twF; (try dsimp only); (repeat' (first | rfl | (exfalso; omega) | split)); done))
def w_keepsOn_1_7 : VC := (([(0, 23), (0, 49), (0, 8), (1, 10), (0, 8), (0, 6), (0, 6), (0, 8), (0, 11), (1, 9), ((-2147483648), 2147483647), ((-2147483648), 2147483647), (0, 5), (0, 23), (0, 8), (0, 9), (0, 23), ((-2147483648), 2147483647), ((-2147483648), 2147483647), (1, 1), (0, 7), (0, 9), (0, 99), ((-9), 9), (0, 9), ((-9), 0), (0, 99), (0, 99)]), [(21, [(some 20, 0), (some 27, 0)], [38, 35]), (3, [(none, 99), (some 27, 0)], []), (3, [(some 27, 0), (none, 0)], []), (4, [(some 27, 0), (some 26, 0), (some 23, 0)], []), (20, [(some 26, 0), (some 20, 0)], [35]), (3, [(some 23, 0), (some 25, 0)], []), (9, [(some 25, 0), (some 24, 0)], []), (3, [(some 24, 0), (some 23, 0)], []), (21, [(some 15, 0), (none, 2)], [37, 36]), (20, [(some 24, 0), (some 15, 0)], [6]), (5, [(some 23, 0), (some 21, 0), (some 22, 0)], []), (20, [(some 22, 0), (some 20, 0)], [35]), (20, [(some 21, 0), (some 20, 0)], [4]), (20, [(some 20, 0), (some 15, 0)], [5]), (0, [(some 19, 0), (none, 1)], []), (20, [(some 19, 0), (some 15, 0)], [36]), (2, [(some 15, 0), (some 3, 0)], []), (0, [(none, 0), (none, 0)], []), (1, [(some 18, 0), (none, 1)], []), (10, [(some 18, 0), (some 17, 0), (none, 1)], []), (14, [(some 17, 0), (some 10, 0), (some 14, 0)], []), (0, [(some 16, 0), (some 13, 0)], []), (20, [(some 16, 0), (some 14, 0)], [17]), (20, [(some 15, 0), (some 14, 0)], [18]), (2, [(some 14, 0), (some 9, 0)], []), (96, [(some 14, 0), (some 3, 0), (some 10, 0), (some 13, 0)], [4, 5, 6, 17, 18, 19, 20, 21, 35, 36]), (3, [(some 9, 0), (some 14, 0)], [])], (96, [(some 14, 1), (some 3, 0), (some 10, 0), (some 13, 0)], [4, 5, 6, 17, 18, 19, 20, 21, 38, 37]))
set_option maxRecDepth 20000 in
theorem v_keepsOn_1_7 {PT : PTy} (hp : HP5 PT) : vcOk PT w_keepsOn_1_7 := vc_iv [(3, 1, 10), (9, 1, 9), (10, (-2147483648), 2147483647), (13, 0, 23), (14, 0, 8), (15, 0, 9), (16, 0, 23), (17, (-2147483648), 2147483647), (18, (-2147483648), 2147483647), (19, 1, 1), (20, 0, 7), (21, 0, 9), (22, 0, 99), (23, (-9), 9), (24, 0, 9), (25, (-9), 0), (26, 0, 99), (27, 0, 99)] [4, 5, 6, 17, 18, 19, 20, 21, 35, 36, 37, 38] (by decide +kernel) (fun ρ α => by
  intro r3 g3 b3 r9 g9 b9 r10 g10 b10 r13 g13 b13 r14 g14 b14 r15 g15 b15 r16 g16 b16 r17 g17 b17 r18 g18 b18 r19 g19 b19 r20 g20 b20 r21 g21 b21 r22 g22 b22 r23 g23 b23 r24 g24 b24 r25 g25 b25 r26 g26 b26 r27 g27 b27 a4 h4 a5 h5 a6 h6 a17 h17 a18 h18 a19 h19 a20 h20 a21 h21 a35 h35 a36 h36 a37 h37 a38 h38 f0 f1 f2 f3 f4 f5 f6 f7 f8 f9 f10 f11 f12 f13 f14 f15 f16 f17 f18 f19 f20 f21 f22 f23 f24 f25 f26 tt
  clear f1 f2 f17
  have e96 : PT 96 = P_kp := pe96_5 hp
  simp only [hF0, hF1, hF2, hF3, hF4, hF5, hF9, hF10, hF14, hF20, hF21, hFp_96, e96, P_kp, den_s, den_c, Int.add_zero, List.map_cons, List.map_nil, g3.eq, g9.eq, g10.eq, g13.eq, g14.eq, g15.eq, g16.eq, g17.eq, g18.eq, g19.eq, g20.eq, g21.eq, g22.eq, g23.eq, g24.eq, g25.eq, g26.eq, g27.eq, h4, h5, h6, h17, h18, h19, h20, h21, h35, h36, h37, h38] at f0 f3 f4 f5 f6 f7 f8 f9 f10 f11 f12 f13 f14 f15 f16 f18 f19 f20 f21 f22 f23 f24 f25 f26 ⊢
  subst f0
  subst f3
  subst f4
  subst f6
  subst f8
  subst f9
  subst f10
  subst f11
  subst f12
  subst f13
  subst f15
  subst f19
  subst f20
  subst f22
  subst f23
  first
    | omega
    | (rw [show r9 = r14 by omega]; exact f25)
    | (rw [foldI_s (by omega), ← f25]; unfold kpS; (try dsimp only); rw [if_neg (by omega)]; done)
    | (rw [foldI_s (by omega), ← f25]; unfold kpS; (try dsimp only); rw [if_pos (by omega)]; unfold chF clF twF; (try dsimp only); (repeat' (first | rfl | (exfalso; omega) | split)); done))
def w_keepsOn_1_8 : VC := (([(0, 23), (0, 49), (0, 8), (1, 10), (0, 8), (0, 6), (0, 6), (0, 8), (0, 11), (1, 9), ((-2147483648), 2147483647), ((-2147483648), 2147483647), (0, 5), (0, 23), (0, 8), (0, 9), (0, 23), ((-2147483648), 2147483647), ((-2147483648), 2147483647), (1, 1), (0, 7), (0, 9), (0, 99), ((-9), 9), (0, 9), ((-9), 0), (0, 99), (0, 99)]), [(21, [(some 20, 0), (some 27, 0)], [38, 35]), (3, [(none, 99), (some 27, 0)], []), (3, [(some 27, 0), (none, 0)], []), (4, [(some 27, 0), (some 26, 0), (some 23, 0)], []), (20, [(some 26, 0), (some 20, 0)], [35]), (3, [(some 23, 0), (some 25, 0)], []), (9, [(some 25, 0), (some 24, 0)], []), (3, [(some 24, 0), (some 23, 0)], []), (21, [(some 15, 0), (none, 2)], [37, 36]), (20, [(some 24, 0), (some 15, 0)], [6]), (5, [(some 23, 0), (some 21, 0), (some 22, 0)], []), (20, [(some 22, 0), (some 20, 0)], [35]), (20, [(some 21, 0), (some 20, 0)], [4]), (20, [(some 20, 0), (some 15, 0)], [5]), (0, [(some 19, 0), (none, 1)], []), (20, [(some 19, 0), (some 15, 0)], [36]), (2, [(some 15, 0), (some 3, 0)], []), (0, [(none, 0), (none, 0)], []), (1, [(some 18, 0), (none, 1)], []), (10, [(some 18, 0), (some 17, 0), (none, 1)], []), (14, [(some 17, 0), (some 10, 0), (some 14, 0)], []), (0, [(some 16, 0), (some 13, 0)], []), (20, [(some 16, 0), (some 14, 0)], [17]), (20, [(some 15, 0), (some 14, 0)], [18]), (2, [(some 14, 0), (some 9, 0)], []), (96, [(some 14, 0), (some 3, 0), (some 10, 0), (some 13, 0)], [4, 5, 6, 17, 18, 19, 20, 21, 35, 36]), (3, [(some 9, 0), (some 14, 0)], [])], (3, [(some 9, 0), (some 14, 1)], []))
set_option maxRecDepth 20000 in
theorem v_keepsOn_1_8 {PT : PTy} (hp : HP5 PT) : vcOk PT w_keepsOn_1_8 := vc_iv [(3, 1, 10), (9, 1, 9), (10, (-2147483648), 2147483647), (13, 0, 23), (14, 0, 8), (15, 0, 9), (16, 0, 23), (17, (-2147483648), 2147483647), (18, (-2147483648), 2147483647), (19, 1, 1), (20, 0, 7), (21, 0, 9), (22, 0, 99), (23, (-9), 9), (24, 0, 9), (25, (-9), 0), (26, 0, 99), (27, 0, 99)] [4, 5, 6, 17, 18, 19, 20, 21, 35, 36, 37, 38] (by decide +kernel) (fun ρ α => by
  intro r3 g3 b3 r9 g9 b9 r10 g10 b10 r13 g13 b13 r14 g14 b14 r15 g15 b15 r16 g16 b16 r17 g17 b17 r18 g18 b18 r19 g19 b19 r20 g20 b20 r21 g21 b21 r22 g22 b22 r23 g23 b23 r24 g24 b24 r25 g25 b25 r26 g26 b26 r27 g27 b27 a4 h4 a5 h5 a6 h6 a17 h17 a18 h18 a19 h19 a20 h20 a21 h21 a35 h35 a36 h36 a37 h37 a38 h38 f0 f1 f2 f3 f4 f5 f6 f7 f8 f9 f10 f11 f12 f13 f14 f15 f16 f17 f18 f19 f20 f21 f22 f23 f24 f25 f26 tt
  clear f1 f2 f17
  have e96 : PT 96 = P_kp := pe96_5 hp
  simp only [hF0, hF1, hF2, hF3, hF4, hF5, hF9, hF10, hF14, hF20, hF21, hFp_96, e96, P_kp, den_s, den_c, Int.add_zero, List.map_cons, List.map_nil, g3.eq, g9.eq, g10.eq, g13.eq, g14.eq, g15.eq, g16.eq, g17.eq, g18.eq, g19.eq, g20.eq, g21.eq, g22.eq, g23.eq, g24.eq, g25.eq, g26.eq, g27.eq, h4, h5, h6, h17, h18, h19, h20, h21, h35, h36, h37, h38] at f0 f3 f4 f5 f6 f7 f8 f9 f10 f11 f12 f13 f14 f15 f16 f18 f19 f20 f21 f22 f23 f24 f25 f26 ⊢
  subst f0
  subst f3
  subst f4
  subst f6
  subst f8
  subst f9
  subst f10
  subst f11
  subst f12
  subst f13
  subst f15
  subst f19
  subst f20
  subst f22
  subst f23
  first
    | omega
    | (rw [show r9 = r14 by omega]; exact f25)
    | (rw [foldI_s (by omega), ← f25]; unfold kpS; (try dsimp only); rw [if_neg (by omega)]; done)
    | (rw [foldI_s (by omega), ← f25]; unfold kpS; (try dsimp only); rw [if_pos (by omega)]; unfold chF clF twF; (try dsimp only); (repeat' (first | rfl | (exfalso; omega) | split)); done))
def w_keepsOn_1_9 : VC := (([(0, 23), (0, 49), (0, 8), (1, 10), (0, 8), (0, 6), (0, 6), (0, 8), (0, 11), (1, 9), ((-2147483648), 2147483647), ((-2147483648), 2147483647), (0, 5), (0, 23), (0, 8), (0, 9), (0, 23), ((-2147483648), 2147483647), ((-2147483648), 2147483647), (1, 1), (0, 7), (0, 9), (0, 99), ((-9), 9), (0, 9), ((-9), 0), (0, 99), (100, 108)]), [(21, [(some 20, 0), (none, 99)], [38, 35]), (2, [(none, 99), (some 27, 0)], []), (3, [(some 27, 0), (none, 0)], []), (4, [(some 27, 0), (some 26, 0), (some 23, 0)], []), (20, [(some 26, 0), (some 20, 0)], [35]), (3, [(some 23, 0), (some 25, 0)], []), (9, [(some 25, 0), (some 24, 0)], []), (3, [(some 24, 0), (some 23, 0)], []), (21, [(some 15, 0), (none, 2)], [37, 36]), (20, [(some 24, 0), (some 15, 0)], [6]), (5, [(some 23, 0), (some 21, 0), (some 22, 0)], []), (20, [(some 22, 0), (some 20, 0)], [35]), (20, [(some 21, 0), (some 20, 0)], [4]), (20, [(some 20, 0), (some 15, 0)], [5]), (0, [(some 19, 0), (none, 1)], []), (20, [(some 19, 0), (some 15, 0)], [36]), (2, [(some 15, 0), (some 3, 0)], []), (0, [(none, 0), (none, 0)], []), (1, [(some 18, 0), (none, 1)], []), (10, [(some 18, 0), (some 17, 0), (none, 1)], []), (14, [(some 17, 0), (some 10, 0), (some 14, 0)], []), (0, [(some 16, 0), (some 13, 0)], []), (20, [(some 16, 0), (some 14, 0)], [17]), (20, [(some 15, 0), (some 14, 0)], [18]), (2, [(some 14, 0), (some 9, 0)], []), (96, [(some 14, 0), (some 3, 0), (some 10, 0), (some 13, 0)], [4, 5, 6, 17, 18, 19, 20, 21, 35, 36]), (3, [(some 9, 0), (some 14, 0)], [])], (96, [(some 14, 1), (some 3, 0), (some 10, 0), (some 13, 0)], [4, 5, 6, 17, 18, 19, 20, 21, 38, 37]))
set_option maxRecDepth 20000 in
theorem v_keepsOn_1_9 {PT : PTy} (hp : HP5 PT) : vcOk PT w_keepsOn_1_9 := vc_iv [(3, 1, 10), (9, 1, 9), (10, (-2147483648), 2147483647), (13, 0, 23), (14, 0, 8), (15, 0, 9), (16, 0, 23), (17, (-2147483648), 2147483647), (18, (-2147483648), 2147483647), (19, 1, 1), (20, 0, 7), (21, 0, 9), (22, 0, 99), (23, (-9), 9), (24, 0, 9), (25, (-9), 0), (26, 0, 99), (27, 100, 108)] [4, 5, 6, 17, 18, 19, 20, 21, 35, 36, 37, 38] (by decide +kernel) (fun ρ α => by
  intro r3 g3 b3 r9 g9 b9 r10 g10 b10 r13 g13 b13 r14 g14 b14 r15 g15 b15 r16 g16 b16 r17 g17 b17 r18 g18 b18 r19 g19 b19 r20 g20 b20 r21 g21 b21 r22 g22 b22 r23 g23 b23 r24 g24 b24 r25 g25 b25 r26 g26 b26 r27 g27 b27 a4 h4 a5 h5 a6 h6 a17 h17 a18 h18 a19 h19 a20 h20 a21 h21 a35 h35 a36 h36 a37 h37 a38 h38 f0 f1 f2 f3 f4 f5 f6 f7 f8 f9 f10 f11 f12 f13 f14 f15 f16 f17 f18 f19 f20 f21 f22 f23 f24 f25 f26 tt
  clear f1 f2 f17
  have e96 : PT 96 = P_kp := pe96_5 hp
  simp only [hF0, hF1, hF2, hF3, hF4, hF5, hF9, hF10, hF14, hF20, hF21, hFp_96, e96, P_kp, den_s, den_c, Int.add_zero, List.map_cons, List.map_nil, g3.eq, g9.eq, g10.eq, g13.eq, g14.eq, g15.eq, g16.eq, g17.eq, g18.eq, g19.eq, g20.eq, g21.eq, g22.eq, g23.eq, g24.eq, g25.eq, g26.eq, g27.eq, h4, h5, h6, h17, h18, h19, h20, h21, h35, h36, h37, h38] at f0 f3 f4 f5 f6 f7 f8 f9 f10 f11 f12 f13 f14 f15 f16 f18 f19 f20 f21 f22 f23 f24 f25 f26 ⊢
  subst f0
  subst f3
  subst f4
  subst f6
  subst f8
  subst f9
  subst f10
  subst f11
  subst f12
  subst f13
  subst f15
  subst f19
  subst f20
  subst f22
  subst f23
  first
    | omega
    | (rw [show r9 = r14 by omega]; exact f25)
    | (rw [foldI_s (by omega), ← f25]; unfold kpS; (try dsimp only); rw [if_neg (by omega)]; done)
    | (rw [foldI_s (by omega), ← f25]; unfold kpS; (try dsimp only); rw [if_pos (by omega)]; unfold chF clF twF; (try dsimp only); (repeat' (first | rfl | (exfalso; omega) | split)); done))
def w_keepsOn_1_10 : VC := (([(0, 23), (0, 49), (0, 8), (1, 10), (0, 8), (0, 6), (0, 6), (0, 8), (0, 11), (1, 9), ((-2147483648), 2147483647), ((-2147483648), 2147483647), (0, 5), (0, 23), (0, 8), (0, 9), (0, 23), ((-2147483648), 2147483647), ((-2147483648), 2147483647), (1, 1), (0, 7), (0, 9), (0, 99), ((-9), 9), (0, 9), ((-9), 0), (0, 99), (100, 108)]), [(21, [(some 20, 0), (none, 99)], [38, 35]), (2, [(none, 99), (some 27, 0)], []), (3, [(some 27, 0), (none, 0)], []), (4, [(some 27, 0), (some 26, 0), (some 23, 0)], []), (20, [(some 26, 0), (some 20, 0)], [35]), (3, [(some 23, 0), (some 25, 0)], []), (9, [(some 25, 0), (some 24, 0)], []), (3, [(some 24, 0), (some 23, 0)], []), (21, [(some 15, 0), (none, 2)], [37, 36]), (20, [(some 24, 0), (some 15, 0)], [6]), (5, [(some 23, 0), (some 21, 0), (some 22, 0)], []), (20, [(some 22, 0), (some 20, 0)], [35]), (20, [(some 21, 0), (some 20, 0)], [4]), (20, [(some 20, 0), (some 15, 0)], [5]), (0, [(some 19, 0), (none, 1)], []), (20, [(some 19, 0), (some 15, 0)], [36]), (2, [(some 15, 0), (some 3, 0)], []), (0, [(none, 0), (none, 0)], []), (1, [(some 18, 0), (none, 1)], []), (10, [(some 18, 0), (some 17, 0), (none, 1)], []), (14, [(some 17, 0), (some 10, 0), (some 14, 0)], []), (0, [(some 16, 0), (some 13, 0)], []), (20, [(some 16, 0), (some 14, 0)], [17]), (20, [(some 15, 0), (some 14, 0)], [18]), (2, [(some 14, 0), (some 9, 0)], []), (96, [(some 14, 0), (some 3, 0), (some 10, 0), (some 13, 0)], [4, 5, 6, 17, 18, 19, 20, 21, 35, 36]), (3, [(some 9, 0), (some 14, 0)], [])], (3, [(some 9, 0), (some 14, 1)], []))
set_option maxRecDepth 20000 in
theorem v_keepsOn_1_10 {PT : PTy} (hp : HP5 PT) : vcOk PT w_keepsOn_1_10 := vc_iv [(3, 1, 10), (9, 1, 9), (10, (-2147483648), 2147483647), (13, 0, 23), (14, 0, 8), (15, 0, 9), (16, 0, 23), (17, (-2147483648), 2147483647), (18, (-2147483648), 2147483647), (19, 1, 1), (20, 0, 7), (21, 0, 9), (22, 0, 99), (23, (-9), 9), (24, 0, 9), (25, (-9), 0), (26, 0, 99), (27, 100, 108)] [4, 5, 6, 17, 18, 19, 20, 21, 35, 36, 37, 38] (by decide +kernel) (fun ρ α => by
  intro r3 g3 b3 r9 g9 b9 r10 g10 b10 r13 g13 b13 r14 g14 b14 r15 g15 b15 r16 g16 b16 r17 g17 b17 r18 g18 b18 r19 g19 b19 r20 g20 b20 r21 g21 b21 r22 g22 b22 r23 g23 b23 r24 g24 b24 r25 g25 b25 r26 g26 b26 r27 g27 b27 a4 h4 a5 h5 a6 h6 a17 h17 a18 h18 a19 h19 a20 h20 a21 h21 a35 h35 a36 h36 a37 h37 a38 h38 f0 f1 f2 f3 f4 f5 f6 f7 f8 f9 f10 f11 f12 f13 f14 f15 f16 f17 f18 f19 f20 f21 f22 f23 f24 f25 f26 tt
  clear f1 f2 f17
  have e96 : PT 96 = P_kp := pe96_5 hp
  simp only [hF0, hF1, hF2, hF3, hF4, hF5, hF9, hF10, hF14, hF20, hF21, hFp_96, e96, P_kp, den_s, den_c, Int.add_zero, List.map_cons, List.map_nil, g3.eq, g9.eq, g10.eq, g13.eq, g14.eq, g15.eq, g16.eq, g17.eq, g18.eq, g19.eq, g20.eq, g21.eq, g22.eq, g23.eq, g24.eq, g25.eq, g26.eq, g27.eq, h4, h5, h6, h17, h18, h19, h20, h21, h35, h36, h37, h38] at f0 f3 f4 f5 f6 f7 f8 f9 f10 f11 f12 f13 f14 f15 f16 f18 f19 f20 f21 f22 f23 f24 f25 f26 ⊢
  subst f0
  subst f3
  subst f4
  subst f6
  subst f8
  subst f9
  subst f10
  subst f11
  subst f12
  subst f13
  subst f15
  subst f19
  subst f20
  subst f22
  subst f23
  first
    | omega
    | (rw [show r9 = r14 by omega]; exact f25)
    | (rw [foldI_s (by omega), ← f25]; unfold kpS; (try dsimp only); rw [if_neg (by omega)]; done)
    | (rw [foldI_s (by omega), ← f25]; unfold kpS; (try dsimp only); rw [if_pos (by omega)]; unfold chF clF twF; (try dsimp only); (repeat' (first | rfl | (exfalso; omega) | split)); done))
def w_keepsOn_1_11 : VC := (([(0, 23), (0, 49), (0, 8), (1, 10), (0, 8), (0, 6), (0, 6), (0, 8), (0, 11), (1, 9), ((-2147483648), 2147483647), ((-2147483648), 2147483647), (0, 5), (0, 23), (0, 8), (0, 9), (0, 23), ((-2147483648), 2147483647), ((-2147483648), 2147483647), (1, 1), (0, 7), (0, 9), (0, 99), ((-9), 9), (0, 9), ((-9), 0), (0, 99), ((-9), (-1))]), [(21, [(some 20, 0), (none, 0)], [38, 35]), (2, [(some 27, 0), (none, 0)], []), (4, [(some 27, 0), (some 26, 0), (some 23, 0)], []), (20, [(some 26, 0), (some 20, 0)], [35]), (3, [(some 23, 0), (some 25, 0)], []), (9, [(some 25, 0), (some 24, 0)], []), (3, [(some 24, 0), (some 23, 0)], []), (21, [(some 15, 0), (none, 2)], [37, 36]), (20, [(some 24, 0), (some 15, 0)], [6]), (5, [(some 23, 0), (some 21, 0), (some 22, 0)], []), (20, [(some 22, 0), (some 20, 0)], [35]), (20, [(some 21, 0), (some 20, 0)], [4]), (20, [(some 20, 0), (some 15, 0)], [5]), (0, [(some 19, 0), (none, 1)], []), (20, [(some 19, 0), (some 15, 0)], [36]), (2, [(some 15, 0), (some 3, 0)], []), (0, [(none, 0), (none, 0)], []), (1, [(some 18, 0), (none, 1)], []), (10, [(some 18, 0), (some 17, 0), (none, 1)], []), (14, [(some 17, 0), (some 10, 0), (some 14, 0)], []), (0, [(some 16, 0), (some 13, 0)], []), (20, [(some 16, 0), (some 14, 0)], [17]), (20, [(some 15, 0), (some 14, 0)], [18]), (2, [(some 14, 0), (some 9, 0)], []), (96, [(some 14, 0), (some 3, 0), (some 10, 0), (some 13, 0)], [4, 5, 6, 17, 18, 19, 20, 21, 35, 36]), (3, [(some 9, 0), (some 14, 0)], [])], (96, [(some 14, 1), (some 3, 0), (some 10, 0), (some 13, 0)], [4, 5, 6, 17, 18, 19, 20, 21, 38, 37]))
set_option maxRecDepth 20000 in
theorem v_keepsOn_1_11 {PT : PTy} (hp : HP5 PT) : vcOk PT w_keepsOn_1_11 := vc_iv [(3, 1, 10), (9, 1, 9), (10, (-2147483648), 2147483647), (13, 0, 23), (14, 0, 8), (15, 0, 9), (16, 0, 23), (17, (-2147483648), 2147483647), (18, (-2147483648), 2147483647), (19, 1, 1), (20, 0, 7), (21, 0, 9), (22, 0, 99), (23, (-9), 9), (24, 0, 9), (25, (-9), 0), (26, 0, 99), (27, (-9), (-1))] [4, 5, 6, 17, 18, 19, 20, 21, 35, 36, 37, 38] (by decide +kernel) (fun ρ α => by
  intro r3 g3 b3 r9 g9 b9 r10 g10 b10 r13 g13 b13 r14 g14 b14 r15 g15 b15 r16 g16 b16 r17 g17 b17 r18 g18 b18 r19 g19 b19 r20 g20 b20 r21 g21 b21 r22 g22 b22 r23 g23 b23 r24 g24 b24 r25 g25 b25 r26 g26 b26 r27 g27 b27 a4 h4 a5 h5 a6 h6 a17 h17 a18 h18 a19 h19 a20 h20 a21 h21 a35 h35 a36 h36 a37 h37 a38 h38 f0 f1 f2 f3 f4 f5 f6 f7 f8 f9 f10 f11 f12 f13 f14 f15 f16 f17 f18 f19 f20 f21 f22 f23 f24 f25 tt
  clear f1 f16
  have e96 : PT 96 = P_kp := pe96_5 hp
  simp only [hF0, hF1, hF2, hF3, hF4, hF5, hF9, hF10, hF14, hF20, hF21, hFp_96, e96, P_kp, den_s, den_c, Int.add_zero, List.map_cons, List.map_nil, g3.eq, g9.eq, g10.eq, g13.eq, g14.eq, g15.eq, g16.eq, g17.eq, g18.eq, g19.eq, g20.eq, g21.eq, g22.eq, g23.eq, g24.eq, g25.eq, g26.eq, g27.eq, h4, h5, h6, h17, h18, h19, h20, h21, h35, h36, h37, h38] at f0 f2 f3 f4 f5 f6 f7 f8 f9 f10 f11 f12 f13 f14 f15 f17 f18 f19 f20 f21 f22 f23 f24 f25 ⊢
  subst f0
  subst f2
  subst f3
  subst f5
  subst f7
  subst f8
  subst f9
  subst f10
  subst f11
  subst f12
  subst f14
  subst f18
  subst f19
  subst f21
  subst f22
  first
    | omega
    | (rw [show r9 = r14 by omega]; exact f24)
    | (rw [foldI_s (by omega), ← f24]; unfold kpS; (try dsimp only); rw [if_neg (by omega)]; done)
    | (rw [foldI_s (by omega), ← f24]; unfold kpS; (try dsimp only); rw [if_pos (by omega)]; unfold chF clF twF; (try dsimp only); (repeat' (first | rfl | (exfalso; omega) | split)); done))
def w_keepsOn_1_12 : VC := (([(0, 23), (0, 49), (0, 8), (1, 10), (0, 8), (0, 6), (0, 6), (0, 8), (0, 11), (1, 9), ((-2147483648), 2147483647), ((-2147483648), 2147483647), (0, 5), (0, 23), (0, 8), (0, 9), (0, 23), ((-2147483648), 2147483647), ((-2147483648), 2147483647), (1, 1), (0, 7), (0, 9), (0, 99), ((-9), 9), (0, 9), ((-9), 0), (0, 99), ((-9), (-1))]), [(21, [(some 20, 0), (none, 0)], [38, 35]), (2, [(some 27, 0), (none, 0)], []), (4, [(some 27, 0), (some 26, 0), (some 23, 0)], []), (20, [(some 26, 0), (some 20, 0)], [35]), (3, [(some 23, 0), (some 25, 0)], []), (9, [(some 25, 0), (some 24, 0)], []), (3, [(some 24, 0), (some 23, 0)], []), (21, [(some 15, 0), (none, 2)], [37, 36]), (20, [(some 24, 0), (some 15, 0)], [6]), (5, [(some 23, 0), (some 21, 0), (some 22, 0)], []), (20, [(some 22, 0), (some 20, 0)], [35]), (20, [(some 21, 0), (some 20, 0)], [4]), (20, [(some 20, 0), (some 15, 0)], [5]), (0, [(some 19, 0), (none, 1)], []), (20, [(some 19, 0), (some 15, 0)], [36]), (2, [(some 15, 0), (some 3, 0)], []), (0, [(none, 0), (none, 0)], []), (1, [(some 18, 0), (none, 1)], []), (10, [(some 18, 0), (some 17, 0), (none, 1)], []), (14, [(some 17, 0), (some 10, 0), (some 14, 0)], []), (0, [(some 16, 0), (some 13, 0)], []), (20, [(some 16, 0), (some 14, 0)], [17]), (20, [(some 15, 0), (some 14, 0)], [18]), (2, [(some 14, 0), (some 9, 0)], []), (96, [(some 14, 0), (some 3, 0), (some 10, 0), (some 13, 0)], [4, 5, 6, 17, 18, 19, 20, 21, 35, 36]), (3, [(some 9, 0), (some 14, 0)], [])], (3, [(some 9, 0), (some 14, 1)], []))
set_option maxRecDepth 20000 in
theorem v_keepsOn_1_12 {PT : PTy} (hp : HP5 PT) : vcOk PT w_keepsOn_1_12 := vc_iv [(3, 1, 10), (9, 1, 9), (10, (-2147483648), 2147483647), (13, 0, 23), (14, 0, 8), (15, 0, 9), (16, 0, 23), (17, (-2147483648), 2147483647), (18, (-2147483648), 2147483647), (19, 1, 1), (20, 0, 7), (21, 0, 9), (22, 0, 99), (23, (-9), 9), (24, 0, 9), (25, (-9), 0), (26, 0, 99), (27, (-9), (-1))] [4, 5, 6, 17, 18, 19, 20, 21, 35, 36, 37, 38] (by decide +kernel) (fun ρ α => by
  intro r3 g3 b3 r9 g9 b9 r10 g10 b10 r13 g13 b13 r14 g14 b14 r15 g15 b15 r16 g16 b16 r17 g17 b17 r18 g18 b18 r19 g19 b19 r20 g20 b20 r21 g21 b21 r22 g22 b22 r23 g23 b23 r24 g24 b24 r25 g25 b25 r26 g26 b26 r27 g27 b27 a4 h4 a5 h5 a6 h6 a17 h17 a18 h18 a19 h19 a20 h20 a21 h21 a35 h35 a36 h36 a37 h37 a38 h38 f0 f1 f2 f3 f4 f5 f6 f7 f8 f9 f10 f11 f12 f13 f14 f15 f16 f17 f18 f19 f20 f21 f22 f23 f24 f25 tt
  clear f1 f16
  have e96 : PT 96 = P_kp := pe96_5 hp
  simp only [hF0, hF1, hF2, hF3, hF4, hF5, hF9, hF10, hF14, hF20, hF21, hFp_96, e96, P_kp, den_s, den_c, Int.add_zero, List.map_cons, List.map_nil, g3.eq, g9.eq, g10.eq, g13.eq, g14.eq, g15.eq, g16.eq, g17.eq, g18.eq, g19.eq, g20.eq, g21.eq, g22.eq, g23.eq, g24.eq, g25.eq, g26.eq, g27.eq, h4, h5, h6, h17, h18, h19, h20, h21, h35, h36, h37, h38] at f0 f2 f3 f4 f5 f6 f7 f8 f9 f10 f11 f12 f13 f14 f15 f17 f18 f19 f20 f21 f22 f23 f24 f25 ⊢
  subst f0
  subst f2
  subst f3
  subst f5
  subst f7
  subst f8
  subst f9
  subst f10
  subst f11
  subst f12
  subst f14
  subst f18
  subst f19
  subst f21
  subst f22
  first
    | omega
    | (rw [show r9 = r14 by omega]; exact f24)
    | (rw [foldI_s (by omega), ← f24]; unfold kpS; (try dsimp only); rw [if_neg (by omega)]; done)
    | (rw [foldI_s (by omega), ← f24]; unfold kpS; (try dsimp only); rw [if_pos (by omega)]; unfold chF clF twF; (try dsimp only); (repeat' (first | rfl | (exfalso; omega) | split)); done))
def w_keepsOn_1_13 : VC := (([(0, 23), (0, 49), (0, 8), (1, 10), (0, 8), (0, 6), (0, 6), (0, 8), (0, 11), (1, 9), ((-2147483648), 2147483647), ((-2147483648), 2147483647), (0, 5), (0, 23), (0, 8), (0, 9), (0, 23), ((-2147483648), 2147483647), ((-2147483648), 2147483647), (1, 1), (0, 7), (0, 9), (0, 99), ((-99), (-1)), (0, 9), ((-9), 0), ((-9), 0), (0, 99), (0, 99)]), [(21, [(some 20, 0), (some 28, 0)], [38, 35]), (3, [(none, 99), (some 28, 0)], []), (3, [(some 28, 0), (none, 0)], []), (4, [(some 28, 0), (some 27, 0), (some 26, 0)], []), (20, [(some 27, 0), (some 20, 0)], [35]), (9, [(some 26, 0), (some 24, 0)], []), (2, [(some 23, 0), (some 25, 0)], []), (9, [(some 25, 0), (some 24, 0)], []), (3, [(some 24, 0), (some 23, 0)], []), (21, [(some 15, 0), (none, 2)], [37, 36]), (20, [(some 24, 0), (some 15, 0)], [6]), (5, [(some 23, 0), (some 21, 0), (some 22, 0)], []), (20, [(some 22, 0), (some 20, 0)], [35]), (20, [(some 21, 0), (some 20, 0)], [4]), (20, [(some 20, 0), (some 15, 0)], [5]), (0, [(some 19, 0), (none, 1)], []), (20, [(some 19, 0), (some 15, 0)], [36]), (2, [(some 15, 0), (some 3, 0)], []), (0, [(none, 0), (none, 0)], []), (1, [(some 18, 0), (none, 1)], []), (10, [(some 18, 0), (some 17, 0), (none, 1)], []), (14, [(some 17, 0), (some 10, 0), (some 14, 0)], []), (0, [(some 16, 0), (some 13, 0)], []), (20, [(some 16, 0), (some 14, 0)], [17]), (20, [(some 15, 0), (some 14, 0)], [18]), (2, [(some 14, 0), (some 9, 0)], []), (96, [(some 14, 0), (some 3, 0), (some 10, 0), (some 13, 0)], [4, 5, 6, 17, 18, 19, 20, 21, 35, 36]), (3, [(some 9, 0), (some 14, 0)], [])], (96, [(some 14, 1), (some 3, 0), (some 10, 0), (some 13, 0)], [4, 5, 6, 17, 18, 19, 20, 21, 38, 37]))
set_option maxRecDepth 20000 in
theorem v_keepsOn_1_13 {PT : PTy} (hp : HP5 PT) : vcOk PT w_keepsOn_1_13 := vc_iv [(3, 1, 10), (9, 1, 9), (10, (-2147483648), 2147483647), (13, 0, 23), (14, 0, 8), (15, 0, 9), (16, 0, 23), (17, (-2147483648), 2147483647), (18, (-2147483648), 2147483647), (19, 1, 1), (20, 0, 7), (21, 0, 9), (22, 0, 99), (23, (-99), (-1)), (24, 0, 9), (25, (-9), 0), (26, (-9), 0), (27, 0, 99), (28, 0, 99)] [4, 5, 6, 17, 18, 19, 20, 21, 35, 36, 37, 38] (by decide +kernel) (fun ρ α => by
  intro r3 g3 b3 r9 g9 b9 r10 g10 b10 r13 g13 b13 r14 g14 b14 r15 g15 b15 r16 g16 b16 r17 g17 b17 r18 g18 b18 r19 g19 b19 r20 g20 b20 r21 g21 b21 r22 g22 b22 r23 g23 b23 r24 g24 b24 r25 g25 b25 r26 g26 b26 r27 g27 b27 r28 g28 b28 a4 h4 a5 h5 a6 h6 a17 h17 a18 h18 a19 h19 a20 h20 a21 h21 a35 h35 a36 h36 a37 h37 a38 h38 f0 f1 f2 f3 f4 f5 f6 f7 f8 f9 f10 f11 f12 f13 f14 f15 f16 f17 f18 f19 f20 f21 f22 f23 f24 f25 f26 f27 tt
  clear f1 f2 f18
  have e96 : PT 96 = P_kp := pe96_5 hp
  simp only [hF0, hF1, hF2, hF3, hF4, hF5, hF9, hF10, hF14, hF20, hF21, hFp_96, e96, P_kp, den_s, den_c, Int.add_zero, List.map_cons, List.map_nil, g3.eq, g9.eq, g10.eq, g13.eq, g14.eq, g15.eq, g16.eq, g17.eq, g18.eq, g19.eq, g20.eq, g21.eq, g22.eq, g23.eq, g24.eq, g25.eq, g26.eq, g27.eq, g28.eq, h4, h5, h6, h17, h18, h19, h20, h21, h35, h36, h37, h38] at f0 f3 f4 f5 f6 f7 f8 f9 f10 f11 f12 f13 f14 f15 f16 f17 f19 f20 f21 f22 f23 f24 f25 f26 f27 ⊢
  subst f0
  subst f3
  subst f4
  subst f5
  subst f7
  subst f9
  subst f10
  subst f11
  subst f12
  subst f13
  subst f14
  subst f16
  subst f20
  subst f21
  subst f23
  subst f24
  first
    | omega
    | (rw [show r9 = r14 by omega]; exact f26)
    | (rw [foldI_s (by omega), ← f26]; unfold kpS; (try dsimp only); rw [if_neg (by omega)]; done)
    | (rw [foldI_s (by omega), ← f26]; unfold kpS; (try dsimp only); rw [if_pos (by omega)]; unfold chF clF twF; (try dsimp only); (repeat' (first | rfl | (exfalso; omega) | split)); done))
def w_keepsOn_1_14 : VC := (([(0, 23), (0, 49), (0, 8), (1, 10), (0, 8), (0, 6), (0, 6), (0, 8), (0, 11), (1, 9), ((-2147483648), 2147483647), ((-2147483648), 2147483647), (0, 5), (0, 23), (0, 8), (0, 9), (0, 23), ((-2147483648), 2147483647), ((-2147483648), 2147483647), (1, 1), (0, 7), (0, 9), (0, 99), ((-99), (-1)), (0, 9), ((-9), 0), ((-9), 0), (0, 99), (0, 99)]), [(21, [(some 20, 0), (some 28, 0)], [38, 35]), (3, [(none, 99), (some 28, 0)], []), (3, [(some 28, 0), (none, 0)], []), (4, [(some 28, 0), (some 27, 0), (some 26, 0)], []), (20, [(some 27, 0), (some 20, 0)], [35]), (9, [(some 26, 0), (some 24, 0)], []), (2, [(some 23, 0), (some 25, 0)], []), (9, [(some 25, 0), (some 24, 0)], []), (3, [(some 24, 0), (some 23, 0)], []), (21, [(some 15, 0), (none, 2)], [37, 36]), (20, [(some 24, 0), (some 15, 0)], [6]), (5, [(some 23, 0), (some 21, 0), (some 22, 0)], []), (20, [(some 22, 0), (some 20, 0)], [35]), (20, [(some 21, 0), (some 20, 0)], [4]), (20, [(some 20, 0), (some 15, 0)], [5]), (0, [(some 19, 0), (none, 1)], []), (20, [(some 19, 0), (some 15, 0)], [36]), (2, [(some 15, 0), (some 3, 0)], []), (0, [(none, 0), (none, 0)], []), (1, [(some 18, 0), (none, 1)], []), (10, [(some 18, 0), (some 17, 0), (none, 1)], []), (14, [(some 17, 0), (some 10, 0), (some 14, 0)], []), (0, [(some 16, 0), (some 13, 0)], []), (20, [(some 16, 0), (some 14, 0)], [17]), (20, [(some 15, 0), (some 14, 0)], [18]), (2, [(some 14, 0), (some 9, 0)], []), (96, [(some 14, 0), (some 3, 0), (some 10, 0), (some 13, 0)], [4, 5, 6, 17, 18, 19, 20, 21, 35, 36]), (3, [(some 9, 0), (some 14, 0)], [])], (3, [(some 9, 0), (some 14, 1)], []))
set_option maxRecDepth 20000 in
theorem v_keepsOn_1_14 {PT : PTy} (hp : HP5 PT) : vcOk PT w_keepsOn_1_14 := vc_iv [(3, 1, 10), (9, 1, 9), (10, (-2147483648), 2147483647), (13, 0, 23), (14, 0, 8), (15, 0, 9), (16, 0, 23), (17, (-2147483648), 2147483647), (18, (-2147483648), 2147483647), (19, 1, 1), (20, 0, 7), (21, 0, 9), (22, 0, 99), (23, (-99), (-1)), (24, 0, 9), (25, (-9), 0), (26, (-9), 0), (27, 0, 99), (28, 0, 99)] [4, 5, 6, 17, 18, 19, 20, 21, 35, 36, 37, 38] (by decide +kernel) (fun ρ α => by
  intro r3 g3 b3 r9 g9 b9 r10 g10 b10 r13 g13 b13 r14 g14 b14 r15 g15 b15 r16 g16 b16 r17 g17 b17 r18 g18 b18 r19 g19 b19 r20 g20 b20 r21 g21 b21 r22 g22 b22 r23 g23 b23 r24 g24 b24 r25 g25 b25 r26 g26 b26 r27 g27 b27 r28 g28 b28 a4 h4 a5 h5 a6 h6 a17 h17 a18 h18 a19 h19 a20 h20 a21 h21 a35 h35 a36 h36 a37 h37 a38 h38 f0 f1 f2 f3 f4 f5 f6 f7 f8 f9 f10 f11 f12 f13 f14 f15 f16 f17 f18 f19 f20 f21 f22 f23 f24 f25 f26 f27 tt
  clear f1 f2 f18
  have e96 : PT 96 = P_kp := pe96_5 hp
  simp only [hF0, hF1, hF2, hF3, hF4, hF5, hF9, hF10, hF14, hF20, hF21, hFp_96, e96, P_kp, den_s, den_c, Int.add_zero, List.map_cons, List.map_nil, g3.eq, g9.eq, g10.eq, g13.eq, g14.eq, g15.eq, g16.eq, g17.eq, g18.eq, g19.eq, g20.eq, g21.eq, g22.eq, g23.eq, g24.eq, g25.eq, g26.eq, g27.eq, g28.eq, h4, h5, h6, h17, h18, h19, h20, h21, h35, h36, h37, h38] at f0 f3 f4 f5 f6 f7 f8 f9 f10 f11 f12 f13 f14 f15 f16 f17 f19 f20 f21 f22 f23 f24 f25 f26 f27 ⊢
  subst f0
  subst f3
  subst f4
  subst f5
  subst f7
  subst f9
  subst f10
  subst f11
  subst f12
  subst f13
  subst f14
  subst f16
  subst f20
  subst f21
  subst f23
  subst f24
  first
    | omega
    | (rw [show r9 = r14 by omega]; exact f26)
    | (rw [foldI_s (by omega), ← f26]; unfold kpS; (try dsimp only); rw [if_neg (by omega)]; done)
    | (rw [foldI_s (by omega), ← f26]; unfold kpS; (try dsimp only); rw [if_pos (by omega)]; unfold chF clF twF; (try dsimp only); (repeat' (first | rfl | (exfalso; omega) | split)); done))
def w_keepsOn_1_15 : VC := (([(0, 23), (0, 49), (0, 8), (1, 10), (0, 8), (0, 6), (0, 6), (0, 8), (0, 11), (1, 9), ((-2147483648), 2147483647), ((-2147483648), 2147483647), (0, 5), (0, 23), (0, 8), (0, 9), (0, 23), ((-2147483648), 2147483647), ((-2147483648), 2147483647), (1, 1), (0, 7), (0, 9), (0, 99), ((-99), (-1)), (0, 9), ((-9), 0), ((-9), 0), (0, 99), ((-9), (-1))]), [(21, [(some 20, 0), (none, 0)], [38, 35]), (2, [(some 28, 0), (none, 0)], []), (4, [(some 28, 0), (some 27, 0), (some 26, 0)], []), (20, [(some 27, 0), (some 20, 0)], [35]), (9, [(some 26, 0), (some 24, 0)], []), (2, [(some 23, 0), (some 25, 0)], []), (9, [(some 25, 0), (some 24, 0)], []), (3, [(some 24, 0), (some 23, 0)], []), (21, [(some 15, 0), (none, 2)], [37, 36]), (20, [(some 24, 0), (some 15, 0)], [6]), (5, [(some 23, 0), (some 21, 0), (some 22, 0)], []), (20, [(some 22, 0), (some 20, 0)], [35]), (20, [(some 21, 0), (some 20, 0)], [4]), (20, [(some 20, 0), (some 15, 0)], [5]), (0, [(some 19, 0), (none, 1)], []), (20, [(some 19, 0), (some 15, 0)], [36]), (2, [(some 15, 0), (some 3, 0)], []), (0, [(none, 0), (none, 0)], []), (1, [(some 18, 0), (none, 1)], []), (10, [(some 18, 0), (some 17, 0), (none, 1)], []), (14, [(some 17, 0), (some 10, 0), (some 14, 0)], []), (0, [(some 16, 0), (some 13, 0)], []), (20, [(some 16, 0), (some 14, 0)], [17]), (20, [(some 15, 0), (some 14, 0)], [18]), (2, [(some 14, 0), (some 9, 0)], []), (96, [(some 14, 0), (some 3, 0), (some 10, 0), (some 13, 0)], [4, 5, 6, 17, 18, 19, 20, 21, 35, 36]), (3, [(some 9, 0), (some 14, 0)], [])], (96, [(some 14, 1), (some 3, 0), (some 10, 0), (some 13, 0)], [4, 5, 6, 17, 18, 19, 20, 21, 38, 37]))
set_option maxRecDepth 20000 in
theorem v_keepsOn_1_15 {PT : PTy} (hp : HP5 PT) : vcOk PT w_keepsOn_1_15 := vc_iv [(3, 1, 10), (9, 1, 9), (10, (-2147483648), 2147483647), (13, 0, 23), (14, 0, 8), (15, 0, 9), (16, 0, 23), (17, (-2147483648), 2147483647), (18, (-2147483648), 2147483647), (19, 1, 1), (20, 0, 7), (21, 0, 9), (22, 0, 99), (23, (-99), (-1)), (24, 0, 9), (25, (-9), 0), (26, (-9), 0), (27, 0, 99), (28, (-9), (-1))] [4, 5, 6, 17, 18, 19, 20, 21, 35, 36, 37, 38] (by decide +kernel) (fun ρ α => by
  intro r3 g3 b3 r9 g9 b9 r10 g10 b10 r13 g13 b13 r14 g14 b14 r15 g15 b15 r16 g16 b16 r17 g17 b17 r18 g18 b18 r19 g19 b19 r20 g20 b20 r21 g21 b21 r22 g22 b22 r23 g23 b23 r24 g24 b24 r25 g25 b25 r26 g26 b26 r27 g27 b27 r28 g28 b28 a4 h4 a5 h5 a6 h6 a17 h17 a18 h18 a19 h19 a20 h20 a21 h21 a35 h35 a36 h36 a37 h37 a38 h38 f0 f1 f2 f3 f4 f5 f6 f7 f8 f9 f10 f11 f12 f13 f14 f15 f16 f17 f18 f19 f20 f21 f22 f23 f24 f25 f26 tt
  clear f1 f17
  have e96 : PT 96 = P_kp := pe96_5 hp
  simp only [hF0, hF1, hF2, hF3, hF4, hF5, hF9, hF10, hF14, hF20, hF21, hFp_96, e96, P_kp, den_s, den_c, Int.add_zero, List.map_cons, List.map_nil, g3.eq, g9.eq, g10.eq, g13.eq, g14.eq, g15.eq, g16.eq, g17.eq, g18.eq, g19.eq, g20.eq, g21.eq, g22.eq, g23.eq, g24.eq, g25.eq, g26.eq, g27.eq, g28.eq, h4, h5, h6, h17, h18, h19, h20, h21, h35, h36, h37, h38] at f0 f2 f3 f4 f5 f6 f7 f8 f9 f10 f11 f12 f13 f14 f15 f16 f18 f19 f20 f21 f22 f23 f24 f25 f26 ⊢
  subst f0
  subst f2
  subst f3
  subst f4
  subst f6
  subst f8
  subst f9
  subst f10
  subst f11
  subst f12
  subst f13
  subst f15
  subst f19
  subst f20
  subst f22
  subst f23
  first
    | omega
    | (rw [show r9 = r14 by omega]; exact f25)
    | (rw [foldI_s (by omega), ← f25]; unfold kpS; (try dsimp only); rw [if_neg (by omega)]; done)
    | (rw [foldI_s (by omega), ← f25]; unfold kpS; (try dsimp only); rw [if_pos (by omega)]; unfold chF clF twF; (try dsimp only); (repeat' (first | rfl | (exfalso; omega) | split)); done))
def w_keepsOn_1_16 : VC := (([(0, 23), (0, 49), (0, 8), (1, 10), (0, 8), (0, 6), (0, 6), (0, 8), (0, 11), (1, 9), ((-2147483648), 2147483647), ((-2147483648), 2147483647), (0, 5), (0, 23), (0, 8), (0, 9), (0, 23), ((-2147483648), 2147483647), ((-2147483648), 2147483647), (1, 1), (0, 7), (0, 9), (0, 99), ((-99), (-1)), (0, 9), ((-9), 0), ((-9), 0), (0, 99), ((-9), (-1))]), [(21, [(some 20, 0), (none, 0)], [38, 35]), (2, [(some 28, 0), (none, 0)], []), (4, [(some 28, 0), (some 27, 0), (some 26, 0)], []), (20, [(some 27, 0), (some 20, 0)], [35]), (9, [(some 26, 0), (some 24, 0)], []), (2, [(some 23, 0), (some 25, 0)], []), (9, [(some 25, 0), (some 24, 0)], []), (3, [(some 24, 0), (some 23, 0)], []), (21, [(some 15, 0), (none, 2)], [37, 36]), (20, [(some 24, 0), (some 15, 0)], [6]), (5, [(some 23, 0), (some 21, 0), (some 22, 0)], []), (20, [(some 22, 0), (some 20, 0)], [35]), (20, [(some 21, 0), (some 20, 0)], [4]), (20, [(some 20, 0), (some 15, 0)], [5]), (0, [(some 19, 0), (none, 1)], []), (20, [(some 19, 0), (some 15, 0)], [36]), (2, [(some 15, 0), (some 3, 0)], []), (0, [(none, 0), (none, 0)], []), (1, [(some 18, 0), (none, 1)], []), (10, [(some 18, 0), (some 17, 0), (none, 1)], []), (14, [(some 17, 0), (some 10, 0), (some 14, 0)], []), (0, [(some 16, 0), (some 13, 0)], []), (20, [(some 16, 0), (some 14, 0)], [17]), (20, [(some 15, 0), (some 14, 0)], [18]), (2, [(some 14, 0), (some 9, 0)], []), (96, [(some 14, 0), (some 3, 0), (some 10, 0), (some 13, 0)], [4, 5, 6, 17, 18, 19, 20, 21, 35, 36]), (3, [(some 9, 0), (some 14, 0)], [])], (3, [(some 9, 0), (some 14, 1)], []))
set_option maxRecDepth 20000 in
theorem v_keepsOn_1_16 {PT : PTy} (hp : HP5 PT) : vcOk PT w_keepsOn_1_16 := vc_iv [(3, 1, 10), (9, 1, 9), (10, (-2147483648), 2147483647), (13, 0, 23), (14, 0, 8), (15, 0, 9), (16, 0, 23), (17, (-2147483648), 2147483647), (18, (-2147483648), 2147483647), (19, 1, 1), (20, 0, 7), (21, 0, 9), (22, 0, 99), (23, (-99), (-1)), (24, 0, 9), (25, (-9), 0), (26, (-9), 0), (27, 0, 99), (28, (-9), (-1))] [4, 5, 6, 17, 18, 19, 20, 21, 35, 36, 37, 38] (by decide +kernel) (fun ρ α => by
  intro r3 g3 b3 r9 g9 b9 r10 g10 b10 r13 g13 b13 r14 g14 b14 r15 g15 b15 r16 g16 b16 r17 g17 b17 r18 g18 b18 r19 g19 b19 r20 g20 b20 r21 g21 b21 r22 g22 b22 r23 g23 b23 r24 g24 b24 r25 g25 b25 r26 g26 b26 r27 g27 b27 r28 g28 b28 a4 h4 a5 h5 a6 h6 a17 h17 a18 h18 a19 h19 a20 h20 a21 h21 a35 h35 a36 h36 a37 h37 a38 h38 f0 f1 f2 f3 f4 f5 f6 f7 f8 f9 f10 f11 f12 f13 f14 f15 f16 f17 f18 f19 f20 f21 f22 f23 f24 f25 f26 tt
  clear f1 f17
  have e96 : PT 96 = P_kp := pe96_5 hp
  simp only [hF0, hF1, hF2, hF3, hF4, hF5, hF9, hF10, hF14, hF20, hF21, hFp_96, e96, P_kp, den_s, den_c, Int.add_zero, List.map_cons, List.map_nil, g3.eq, g9.eq, g10.eq, g13.eq, g14.eq, g15.eq, g16.eq, g17.eq, g18.eq, g19.eq, g20.eq, g21.eq, g22.eq, g23.eq, g24.eq, g25.eq, g26.eq, g27.eq, g28.eq, h4, h5, h6, h17, h18, h19, h20, h21, h35, h36, h37, h38] at f0 f2 f3 f4 f5 f6 f7 f8 f9 f10 f11 f12 f13 f14 f15 f16 f18 f19 f20 f21 f22 f23 f24 f25 f26 ⊢
  subst f0
  subst f2
  subst f3
  subst f4
  subst f6
  subst f8
  subst f9
  subst f10
  subst f11
  subst f12
  subst f13
  subst f15
  subst f19
  subst f20
  subst f22
  subst f23
  first
    | omega
    | (rw [show r9 = r14 by omega]; exact f25)
    | (rw [foldI_s (by omega), ← f25]; unfold kpS; (try dsimp only); rw [if_neg (by omega)]; done)
    | (rw [foldI_s (by omega), ← f25]; unfold kpS; (try dsimp only); rw [if_pos (by omega)]; unfold chF clF twF; (try dsimp only); (repeat' (first | rfl | (exfalso; omega) | split)); done))
def w_keepsOn_1_17 : VC := (([(0, 23), (0, 49), (0, 8), (1, 10), (0, 8), (0, 6), (0, 6), (0, 8), (0, 11), (1, 9), ((-2147483648), 2147483647), ((-2147483648), 2147483647), (0, 5), (0, 23), (0, 8), (0, 9), (0, 23), ((-2147483648), 2147483647), ((-2147483648), 2147483647), (1, 1), (0, 7), (0, 9), (0, 99), (1, 9), (0, 8), (0, 99), (0, 99)]), [(21, [(some 20, 0), (some 26, 0)], [38, 35]), (3, [(none, 99), (some 26, 0)], []), (3, [(some 26, 0), (none, 0)], []), (4, [(some 26, 0), (some 25, 0), (some 24, 0)], []), (20, [(some 25, 0), (some 20, 0)], [35]), (2, [(some 24, 0), (some 23, 0)], []), (21, [(some 15, 0), (none, 2)], [37, 36]), (20, [(some 24, 0), (some 15, 0)], [6]), (5, [(some 23, 0), (some 21, 0), (some 22, 0)], []), (20, [(some 22, 0), (some 20, 0)], [35]), (20, [(some 21, 0), (some 20, 0)], [4]), (20, [(some 20, 0), (some 15, 0)], [5]), (0, [(some 19, 0), (none, 1)], []), (20, [(some 19, 0), (some 15, 0)], [36]), (2, [(some 15, 0), (some 3, 0)], []), (0, [(none, 0), (none, 0)], []), (1, [(some 18, 0), (none, 1)], []), (10, [(some 18, 0), (some 17, 0), (none, 1)], []), (14, [(some 17, 0), (some 10, 0), (some 14, 0)], []), (0, [(some 16, 0), (some 13, 0)], []), (20, [(some 16, 0), (some 14, 0)], [17]), (20, [(some 15, 0), (some 14, 0)], [18]), (2, [(some 14, 0), (some 9, 0)], []), (96, [(some 14, 0), (some 3, 0), (some 10, 0), (some 13, 0)], [4, 5, 6, 17, 18, 19, 20, 21, 35, 36]), (3, [(some 9, 0), (some 14, 0)], [])], (96, [(some 14, 1), (some 3, 0), (some 10, 0), (some 13, 0)], [4, 5, 6, 17, 18, 19, 20, 21, 38, 37]))
set_option maxRecDepth 20000 in
theorem v_keepsOn_1_17 {PT : PTy} (hp : HP5 PT) : vcOk PT w_keepsOn_1_17 := vc_iv [(3, 1, 10), (9, 1, 9), (10, (-2147483648), 2147483647), (13, 0, 23), (14, 0, 8), (15, 0, 9), (16, 0, 23), (17, (-2147483648), 2147483647), (18, (-2147483648), 2147483647), (19, 1, 1), (20, 0, 7), (21, 0, 9), (22, 0, 99), (23, 1, 9), (24, 0, 8), (25, 0, 99), (26, 0, 99)] [4, 5, 6, 17, 18, 19, 20, 21, 35, 36, 37, 38] (by decide +kernel) (fun ρ α => by
  intro r3 g3 b3 r9 g9 b9 r10 g10 b10 r13 g13 b13 r14 g14 b14 r15 g15 b15 r16 g16 b16 r17 g17 b17 r18 g18 b18 r19 g19 b19 r20 g20 b20 r21 g21 b21 r22 g22 b22 r23 g23 b23 r24 g24 b24 r25 g25 b25 r26 g26 b26 a4 h4 a5 h5 a6 h6 a17 h17 a18 h18 a19 h19 a20 h20 a21 h21 a35 h35 a36 h36 a37 h37 a38 h38 f0 f1 f2 f3 f4 f5 f6 f7 f8 f9 f10 f11 f12 f13 f14 f15 f16 f17 f18 f19 f20 f21 f22 f23 f24 tt
  clear f1 f2 f15
  have e96 : PT 96 = P_kp := pe96_5 hp
  simp only [hF0, hF1, hF2, hF3, hF4, hF5, hF10, hF14, hF20, hF21, hFp_96, e96, P_kp, den_s, den_c, Int.add_zero, List.map_cons, List.map_nil, g3.eq, g9.eq, g10.eq, g13.eq, g14.eq, g15.eq, g16.eq, g17.eq, g18.eq, g19.eq, g20.eq, g21.eq, g22.eq, g23.eq, g24.eq, g25.eq, g26.eq, h4, h5, h6, h17, h18, h19, h20, h21, h35, h36, h37, h38] at f0 f3 f4 f5 f6 f7 f8 f9 f10 f11 f12 f13 f14 f16 f17 f18 f19 f20 f21 f22 f23 f24 ⊢
  subst f0
  subst f3
  subst f4
  subst f6
  subst f7
  subst f8
  subst f9
  subst f10
  subst f11
  subst f13
  subst f17
  subst f18
  subst f20
  subst f21
  first
    | omega
    | (rw [show r9 = r14 by omega]; exact f23)
    | (rw [foldI_s (by omega), ← f23]; unfold kpS; (try dsimp only); rw [if_neg (by omega)]; done)
    | (rw [foldI_s (by omega), ← f23]; unfold kpS; (try dsimp only); rw [if_pos (by omega)]; unfold chF clF twF; (try dsimp only); (repeat' (first | rfl | (exfalso; omega) | split)); done))
def w_keepsOn_1_18 : VC := (([(0, 23), (0, 49), (0, 8), (1, 10), (0, 8), (0, 6), (0, 6), (0, 8), (0, 11), (1, 9), ((-2147483648), 2147483647), ((-2147483648), 2147483647), (0, 5), (0, 23), (0, 8), (0, 9), (0, 23), ((-2147483648), 2147483647), ((-2147483648), 2147483647), (1, 1), (0, 7), (0, 9), (0, 99), (1, 9), (0, 8), (0, 99), (0, 99)]), [(21, [(some 20, 0), (some 26, 0)], [38, 35]), (3, [(none, 99), (some 26, 0)], []), (3, [(some 26, 0), (none, 0)], []), (4, [(some 26, 0), (some 25, 0), (some 24, 0)], []), (20, [(some 25, 0), (some 20, 0)], [35]), (2, [(some 24, 0), (some 23, 0)], []), (21, [(some 15, 0), (none, 2)], [37, 36]), (20, [(some 24, 0), (some 15, 0)], [6]), (5, [(some 23, 0), (some 21, 0), (some 22, 0)], []), (20, [(some 22, 0), (some 20, 0)], [35]), (20, [(some 21, 0), (some 20, 0)], [4]), (20, [(some 20, 0), (some 15, 0)], [5]), (0, [(some 19, 0), (none, 1)], []), (20, [(some 19, 0), (some 15, 0)], [36]), (2, [(some 15, 0), (some 3, 0)], []), (0, [(none, 0), (none, 0)], []), (1, [(some 18, 0), (none, 1)], []), (10, [(some 18, 0), (some 17, 0), (none, 1)], []), (14, [(some 17, 0), (some 10, 0), (some 14, 0)], []), (0, [(some 16, 0), (some 13, 0)], []), (20, [(some 16, 0), (some 14, 0)], [17]), (20, [(some 15, 0), (some 14, 0)], [18]), (2, [(some 14, 0), (some 9, 0)], []), (96, [(some 14, 0), (some 3, 0), (some 10, 0), (some 13, 0)], [4, 5, 6, 17, 18, 19, 20, 21, 35, 36]), (3, [(some 9, 0), (some 14, 0)], [])], (3, [(some 9, 0), (some 14, 1)], []))
set_option maxRecDepth 20000 in
theorem v_keepsOn_1_18 {PT : PTy} (hp : HP5 PT) : vcOk PT w_keepsOn_1_18 := vc_iv [(3, 1, 10), (9, 1, 9), (10, (-2147483648), 2147483647), (13, 0, 23), (14, 0, 8), (15, 0, 9), (16, 0, 23), (17, (-2147483648), 2147483647), (18, (-2147483648), 2147483647), (19, 1, 1), (20, 0, 7), (21, 0, 9), (22, 0, 99), (23, 1, 9), (24, 0, 8), (25, 0, 99), (26, 0, 99)] [4, 5, 6, 17, 18, 19, 20, 21, 35, 36, 37, 38] (by decide +kernel) (fun ρ α => by
  intro r3 g3 b3 r9 g9 b9 r10 g10 b10 r13 g13 b13 r14 g14 b14 r15 g15 b15 r16 g16 b16 r17 g17 b17 r18 g18 b18 r19 g19 b19 r20 g20 b20 r21 g21 b21 r22 g22 b22 r23 g23 b23 r24 g24 b24 r25 g25 b25 r26 g26 b26 a4 h4 a5 h5 a6 h6 a17 h17 a18 h18 a19 h19 a20 h20 a21 h21 a35 h35 a36 h36 a37 h37 a38 h38 f0 f1 f2 f3 f4 f5 f6 f7 f8 f9 f10 f11 f12 f13 f14 f15 f16 f17 f18 f19 f20 f21 f22 f23 f24 tt
  clear f1 f2 f15
  have e96 : PT 96 = P_kp := pe96_5 hp
  simp only [hF0, hF1, hF2, hF3, hF4, hF5, hF10, hF14, hF20, hF21, hFp_96, e96, P_kp, den_s, den_c, Int.add_zero, List.map_cons, List.map_nil, g3.eq, g9.eq, g10.eq, g13.eq, g14.eq, g15.eq, g16.eq, g17.eq, g18.eq, g19.eq, g20.eq, g21.eq, g22.eq, g23.eq, g24.eq, g25.eq, g26.eq, h4, h5, h6, h17, h18, h19, h20, h21, h35, h36, h37, h38] at f0 f3 f4 f5 f6 f7 f8 f9 f10 f11 f12 f13 f14 f16 f17 f18 f19 f20 f21 f22 f23 f24 ⊢
  subst f0
  subst f3
  subst f4
  subst f6
  subst f7
  subst f8
  subst f9
  subst f10
  subst f11
  subst f13
  subst f17
  subst f18
  subst f20
  subst f21
  first
    | omega
    | (rw [show r9 = r14 by omega]; exact f23)
    | (rw [foldI_s (by omega), ← f23]; unfold kpS; (try dsimp only); rw [if_neg (by omega)]; done)
    | (rw [foldI_s (by omega), ← f23]; unfold kpS; (try dsimp only); rw [if_pos (by omega)]; unfold chF clF twF; (try dsimp only); (repeat' (first | rfl | (exfalso; omega) | split)); done))
def w_keepsOn_1_19 : VC := (([(0, 23), (0, 49), (0, 8), (1, 10), (0, 8), (0, 6), (0, 6), (0, 8), (0, 11), (1, 9), ((-2147483648), 2147483647), ((-2147483648), 2147483647), (0, 5), (0, 23), (0, 8), (0, 9), (0, 23), ((-2147483648), 2147483647), ((-2147483648), 2147483647), (1, 1), (0, 7), (0, 9), (0, 99), (1, 9), (0, 8), (0, 99), (100, 107)]), [(21, [(some 20, 0), (none, 99)], [38, 35]), (2, [(none, 99), (some 26, 0)], []), (3, [(some 26, 0), (none, 0)], []), (4, [(some 26, 0), (some 25, 0), (some 24, 0)], []), (20, [(some 25, 0), (some 20, 0)], [35]), (2, [(some 24, 0), (some 23, 0)], []), (21, [(some 15, 0), (none, 2)], [37, 36]), (20, [(some 24, 0), (some 15, 0)], [6]), (5, [(some 23, 0), (some 21, 0), (some 22, 0)], []), (20, [(some 22, 0), (some 20, 0)], [35]), (20, [(some 21, 0), (some 20, 0)], [4]), (20, [(some 20, 0), (some 15, 0)], [5]), (0, [(some 19, 0), (none, 1)], []), (20, [(some 19, 0), (some 15, 0)], [36]), (2, [(some 15, 0), (some 3, 0)], []), (0, [(none, 0), (none, 0)], []), (1, [(some 18, 0), (none, 1)], []), (10, [(some 18, 0), (some 17, 0), (none, 1)], []), (14, [(some 17, 0), (some 10, 0), (some 14, 0)], []), (0, [(some 16, 0), (some 13, 0)], []), (20, [(some 16, 0), (some 14, 0)], [17]), (20, [(some 15, 0), (some 14, 0)], [18]), (2, [(some 14, 0), (some 9, 0)], []), (96, [(some 14, 0), (some 3, 0), (some 10, 0), (some 13, 0)], [4, 5, 6, 17, 18, 19, 20, 21, 35, 36]), (3, [(some 9, 0), (some 14, 0)], [])], (96, [(some 14, 1), (some 3, 0), (some 10, 0), (some 13, 0)], [4, 5, 6, 17, 18, 19, 20, 21, 38, 37]))
set_option maxRecDepth 20000 in
theorem v_keepsOn_1_19 {PT : PTy} (hp : HP5 PT) : vcOk PT w_keepsOn_1_19 := vc_iv [(3, 1, 10), (9, 1, 9), (10, (-2147483648), 2147483647), (13, 0, 23), (14, 0, 8), (15, 0, 9), (16, 0, 23), (17, (-2147483648), 2147483647), (18, (-2147483648), 2147483647), (19, 1, 1), (20, 0, 7), (21, 0, 9), (22, 0, 99), (23, 1, 9), (24, 0, 8), (25, 0, 99), (26, 100, 107)] [4, 5, 6, 17, 18, 19, 20, 21, 35, 36, 37, 38] (by decide +kernel) (fun ρ α => by
  intro r3 g3 b3 r9 g9 b9 r10 g10 b10 r13 g13 b13 r14 g14 b14 r15 g15 b15 r16 g16 b16 r17 g17 b17 r18 g18 b18 r19 g19 b19 r20 g20 b20 r21 g21 b21 r22 g22 b22 r23 g23 b23 r24 g24 b24 r25 g25 b25 r26 g26 b26 a4 h4 a5 h5 a6 h6 a17 h17 a18 h18 a19 h19 a20 h20 a21 h21 a35 h35 a36 h36 a37 h37 a38 h38 f0 f1 f2 f3 f4 f5 f6 f7 f8 f9 f10 f11 f12 f13 f14 f15 f16 f17 f18 f19 f20 f21 f22 f23 f24 tt
  clear f1 f2 f15
  have e96 : PT 96 = P_kp := pe96_5 hp
  simp only [hF0, hF1, hF2, hF3, hF4, hF5, hF10, hF14, hF20, hF21, hFp_96, e96, P_kp, den_s, den_c, Int.add_zero, List.map_cons, List.map_nil, g3.eq, g9.eq, g10.eq, g13.eq, g14.eq, g15.eq, g16.eq, g17.eq, g18.eq, g19.eq, g20.eq, g21.eq, g22.eq, g23.eq, g24.eq, g25.eq, g26.eq, h4, h5, h6, h17, h18, h19, h20, h21, h35, h36, h37, h38] at f0 f3 f4 f5 f6 f7 f8 f9 f10 f11 f12 f13 f14 f16 f17 f18 f19 f20 f21 f22 f23 f24 ⊢
  subst f0
  subst f3
  subst f4
  subst f6
  subst f7
  subst f8
  subst f9
  subst f10
  subst f11
  subst f13
  subst f17
  subst f18
  subst f20
  subst f21
  first
    | omega
    | (rw [show r9 = r14 by omega]; exact f23)
    | (rw [foldI_s (by omega), ← f23]; unfold kpS; (try dsimp only); rw [if_neg (by omega)]; done)
    | (rw [foldI_s (by omega), ← f23]; unfold kpS; (try dsimp only); rw [if_pos (by omega)]; unfold chF clF twF; (try dsimp only); (repeat' (first | rfl | (exfalso; omega) | split)); done))
def w_keepsOn_1_20 : VC := (([(0, 23), (0, 49), (0, 8), (1, 10), (0, 8), (0, 6), (0, 6), (0, 8), (0, 11), (1, 9), ((-2147483648), 2147483647), ((-2147483648), 2147483647), (0, 5), (0, 23), (0, 8), (0, 9), (0, 23), ((-2147483648), 2147483647), ((-2147483648), 2147483647), (1, 1), (0, 7), (0, 9), (0, 99), (1, 9), (0, 8), (0, 99), (100, 107)]), [(21, [(some 20, 0), (none, 99)], [38, 35]), (2, [(none, 99), (some 26, 0)], []), (3, [(some 26, 0), (none, 0)], []), (4, [(some 26, 0), (some 25, 0), (some 24, 0)], []), (20, [(some 25, 0), (some 20, 0)], [35]), (2, [(some 24, 0), (some 23, 0)], []), (21, [(some 15, 0), (none, 2)], [37, 36]), (20, [(some 24, 0), (some 15, 0)], [6]), (5, [(some 23, 0), (some 21, 0), (some 22, 0)], []), (20, [(some 22, 0), (some 20, 0)], [35]), (20, [(some 21, 0), (some 20, 0)], [4]), (20, [(some 20, 0), (some 15, 0)], [5]), (0, [(some 19, 0), (none, 1)], []), (20, [(some 19, 0), (some 15, 0)], [36]), (2, [(some 15, 0), (some 3, 0)], []), (0, [(none, 0), (none, 0)], []), (1, [(some 18, 0), (none, 1)], []), (10, [(some 18, 0), (some 17, 0), (none, 1)], []), (14, [(some 17, 0), (some 10, 0), (some 14, 0)], []), (0, [(some 16, 0), (some 13, 0)], []), (20, [(some 16, 0), (some 14, 0)], [17]), (20, [(some 15, 0), (some 14, 0)], [18]), (2, [(some 14, 0), (some 9, 0)], []), (96, [(some 14, 0), (some 3, 0), (some 10, 0), (some 13, 0)], [4, 5, 6, 17, 18, 19, 20, 21, 35, 36]), (3, [(some 9, 0), (some 14, 0)], [])], (3, [(some 9, 0), (some 14, 1)], []))
set_option maxRecDepth 20000 in
theorem v_keepsOn_1_20 {PT : PTy} (hp : HP5 PT) : vcOk PT w_keepsOn_1_20 := vc_iv [(3, 1, 10), (9, 1, 9), (10, (-2147483648), 2147483647), (13, 0, 23), (14, 0, 8), (15, 0, 9), (16, 0, 23), (17, (-2147483648), 2147483647), (18, (-2147483648), 2147483647), (19, 1, 1), (20, 0, 7), (21, 0, 9), (22, 0, 99), (23, 1, 9), (24, 0, 8), (25, 0, 99), (26, 100, 107)] [4, 5, 6, 17, 18, 19, 20, 21, 35, 36, 37, 38] (by decide +kernel) (fun ρ α => by
  intro r3 g3 b3 r9 g9 b9 r10 g10 b10 r13 g13 b13 r14 g14 b14 r15 g15 b15 r16 g16 b16 r17 g17 b17 r18 g18 b18 r19 g19 b19 r20 g20 b20 r21 g21 b21 r22 g22 b22 r23 g23 b23 r24 g24 b24 r25 g25 b25 r26 g26 b26 a4 h4 a5 h5 a6 h6 a17 h17 a18 h18 a19 h19 a20 h20 a21 h21 a35 h35 a36 h36 a37 h37 a38 h38 f0 f1 f2 f3 f4 f5 f6 f7 f8 f9 f10 f11 f12 f13 f14 f15 f16 f17 f18 f19 f20 f21 f22 f23 f24 tt
  clear f1 f2 f15
  have e96 : PT 96 = P_kp := pe96_5 hp
  simp only [hF0, hF1, hF2, hF3, hF4, hF5, hF10, hF14, hF20, hF21, hFp_96, e96, P_kp, den_s, den_c, Int.add_zero, List.map_cons, List.map_nil, g3.eq, g9.eq, g10.eq, g13.eq, g14.eq, g15.eq, g16.eq, g17.eq, g18.eq, g19.eq, g20.eq, g21.eq, g22.eq, g23.eq, g24.eq, g25.eq, g26.eq, h4, h5, h6, h17, h18, h19, h20, h21, h35, h36, h37, h38] at f0 f3 f4 f5 f6 f7 f8 f9 f10 f11 f12 f13 f14 f16 f17 f18 f19 f20 f21 f22 f23 f24 ⊢
  subst f0
  subst f3
  subst f4
  subst f6
  subst f7
  subst f8
  subst f9
  subst f10
  subst f11
  subst f13
  subst f17
  subst f18
  subst f20
  subst f21
  first
    | omega
    | (rw [show r9 = r14 by omega]; exact f23)
    | (rw [foldI_s (by omega), ← f23]; unfold kpS; (try dsimp only); rw [if_neg (by omega)]; done)
    | (rw [foldI_s (by omega), ← f23]; unfold kpS; (try dsimp only); rw [if_pos (by omega)]; unfold chF clF twF; (try dsimp only); (repeat' (first | rfl | (exfalso; omega) | split)); done))
def w_keepsOn_1_21 : VC := (([(0, 23), (0, 49), (0, 8), (0, 10), (0, 8), (0, 6), (0, 6), (0, 8), (0, 11), (1, 9), ((-2147483648), 2147483647), ((-2147483648), 2147483647), (0, 5), (0, 23), (0, 8), (0, 9), (0, 23), ((-2147483648), 2147483647), (1, 1)]), [(1, [(none, 1), (none, 0)], []), (0, [(some 18, 0), (none, 1)], []), (10, [(some 18, 0), (some 17, 0), (none, 1)], []), (14, [(some 17, 0), (some 10, 0), (some 14, 0)], []), (0, [(some 16, 0), (some 13, 0)], []), (20, [(some 16, 0), (some 14, 0)], [17]), (20, [(some 15, 0), (some 14, 0)], [18]), (2, [(some 14, 0), (some 9, 0)], []), (96, [(some 14, 0), (some 3, 0), (some 10, 0), (some 13, 0)], [4, 5, 6, 17, 18, 19, 20, 21, 35, 36]), (3, [(some 9, 0), (some 14, 0)], [])], (96, [(some 14, 1), (some 3, 0), (some 10, 0), (some 13, 0)], [4, 5, 6, 17, 18, 19, 20, 21, 35, 36]))
set_option maxRecDepth 20000 in
theorem v_keepsOn_1_21 {PT : PTy} (hp : HP5 PT) : vcOk PT w_keepsOn_1_21 := vc_iv [(3, 0, 10), (9, 1, 9), (10, (-2147483648), 2147483647), (13, 0, 23), (14, 0, 8), (15, 0, 9), (16, 0, 23), (17, (-2147483648), 2147483647), (18, 1, 1)] [4, 5, 6, 17, 18, 19, 20, 21, 35, 36] (by decide +kernel) (fun ρ α => by
  intro r3 g3 b3 r9 g9 b9 r10 g10 b10 r13 g13 b13 r14 g14 b14 r15 g15 b15 r16 g16 b16 r17 g17 b17 r18 g18 b18 a4 h4 a5 h5 a6 h6 a17 h17 a18 h18 a19 h19 a20 h20 a21 h21 a35 h35 a36 h36 f0 f1 f2 f3 f4 f5 f6 f7 f8 f9 tt
  clear f0
  have e96 : PT 96 = P_kp := pe96_5 hp
  simp only [hF0, hF2, hF3, hF10, hF14, hF20, hFp_96, e96, P_kp, den_s, den_c, Int.add_zero, List.map_cons, List.map_nil, g3.eq, g9.eq, g10.eq, g13.eq, g14.eq, g15.eq, g16.eq, g17.eq, g18.eq, h4, h5, h6, h17, h18, h19, h20, h21, h35, h36] at f1 f2 f3 f4 f5 f6 f7 f8 f9 ⊢
  subst f2
  subst f3
  subst f5
  subst f6
  first
    | omega
    | (rw [show r9 = r14 by omega]; exact f8)
    | (rw [foldI_s (by omega), ← f8]; unfold kpS; (try dsimp only); rw [if_neg (by omega)]; done)
    | (rw [foldI_s (by omega), ← f8]; unfold kpS; (try dsimp only); rw [if_pos (by omega)]; unfold chF clF twF; (try dsimp only); (repeat' (first | rfl | (exfalso; omega) | split)); done))
def w_keepsOn_1_22 : VC := (([(0, 23), (0, 49), (0, 8), (0, 10), (0, 8), (0, 6), (0, 6), (0, 8), (0, 11), (1, 9), ((-2147483648), 2147483647), ((-2147483648), 2147483647), (0, 5), (0, 23), (0, 8), (0, 9), (0, 23), ((-2147483648), 2147483647), (1, 1)]), [(1, [(none, 1), (none, 0)], []), (0, [(some 18, 0), (none, 1)], []), (10, [(some 18, 0), (some 17, 0), (none, 1)], []), (14, [(some 17, 0), (some 10, 0), (some 14, 0)], []), (0, [(some 16, 0), (some 13, 0)], []), (20, [(some 16, 0), (some 14, 0)], [17]), (20, [(some 15, 0), (some 14, 0)], [18]), (2, [(some 14, 0), (some 9, 0)], []), (96, [(some 14, 0), (some 3, 0), (some 10, 0), (some 13, 0)], [4, 5, 6, 17, 18, 19, 20, 21, 35, 36]), (3, [(some 9, 0), (some 14, 0)], [])], (3, [(some 9, 0), (some 14, 1)], []))
set_option maxRecDepth 20000 in
theorem v_keepsOn_1_22 {PT : PTy} (hp : HP5 PT) : vcOk PT w_keepsOn_1_22 := vc_iv [(3, 0, 10), (9, 1, 9), (10, (-2147483648), 2147483647), (13, 0, 23), (14, 0, 8), (15, 0, 9), (16, 0, 23), (17, (-2147483648), 2147483647), (18, 1, 1)] [4, 5, 6, 17, 18, 19, 20, 21, 35, 36] (by decide +kernel) (fun ρ α => by
  intro r3 g3 b3 r9 g9 b9 r10 g10 b10 r13 g13 b13 r14 g14 b14 r15 g15 b15 r16 g16 b16 r17 g17 b17 r18 g18 b18 a4 h4 a5 h5 a6 h6 a17 h17 a18 h18 a19 h19 a20 h20 a21 h21 a35 h35 a36 h36 f0 f1 f2 f3 f4 f5 f6 f7 f8 f9 tt
  clear f0
  have e96 : PT 96 = P_kp := pe96_5 hp
  simp only [hF0, hF2, hF3, hF10, hF14, hF20, hFp_96, e96, P_kp, den_s, den_c, Int.add_zero, List.map_cons, List.map_nil, g3.eq, g9.eq, g10.eq, g13.eq, g14.eq, g15.eq, g16.eq, g17.eq, g18.eq, h4, h5, h6, h17, h18, h19, h20, h21, h35, h36] at f1 f2 f3 f4 f5 f6 f7 f8 f9 ⊢
  subst f2
  subst f3
  subst f5
  subst f6
  first
    | omega
    | (rw [show r9 = r14 by omega]; exact f8)
    | (rw [foldI_s (by omega), ← f8]; unfold kpS; (try dsimp only); rw [if_neg (by omega)]; done)
    | (rw [foldI_s (by omega), ← f8]; unfold kpS; (try dsimp only); rw [if_pos (by omega)]; unfold chF clF twF; (try dsimp only); (repeat' (first | rfl | (exfalso; omega) | split)); done))
set_option maxRecDepth 1000000 in
theorem k_keepsOn {PT : PTy} (hp : HP5 PT) : wfX c_keepsOn = true ∧ xcOk PT c_keepsOn := xctr (xl0) c_keepsOn 122 mX7_keepsOn rfl h_keepsOn (by decide +kernel) (by decide +kernel) (by decide) (vcs_by [w_keepsOn_0_0, w_keepsOn_0_1] (by decide +kernel) (vc (v_keepsOn_0_0 hp) (vc (v_keepsOn_0_1 hp) vn))) (fmc (vcs_by [w_keepsOn_1_0, w_keepsOn_1_1, w_keepsOn_1_2, w_keepsOn_1_3, w_keepsOn_1_4, w_keepsOn_1_5, w_keepsOn_1_6, w_keepsOn_1_7, w_keepsOn_1_8, w_keepsOn_1_9, w_keepsOn_1_10, w_keepsOn_1_11, w_keepsOn_1_12, w_keepsOn_1_13, w_keepsOn_1_14, w_keepsOn_1_15, w_keepsOn_1_16, w_keepsOn_1_17, w_keepsOn_1_18, w_keepsOn_1_19, w_keepsOn_1_20, w_keepsOn_1_21, w_keepsOn_1_22] (by decide +kernel) (vc (v_keepsOn_1_0 hp) (vc (v_keepsOn_1_1 hp) (vc (v_keepsOn_1_2 hp) (vc (v_keepsOn_1_3 hp) (vc (v_keepsOn_1_4 hp) (vc (v_keepsOn_1_5 hp) (vc (v_keepsOn_1_6 hp) (vc (v_keepsOn_1_7 hp) (vc (v_keepsOn_1_8 hp) (vc (v_keepsOn_1_9 hp) (vc (v_keepsOn_1_10 hp) (vc (v_keepsOn_1_11 hp) (vc (v_keepsOn_1_12 hp) (vc (v_keepsOn_1_13 hp) (vc (v_keepsOn_1_14 hp) (vc (v_keepsOn_1_15 hp) (vc (v_keepsOn_1_16 hp) (vc (v_keepsOn_1_17 hp) (vc (v_keepsOn_1_18 hp) (vc (v_keepsOn_1_19 hp) (vc (v_keepsOn_1_20 hp) (vc (v_keepsOn_1_21 hp) (vc (v_keepsOn_1_22 hp) vn)))))))))))))))))))))))) fmn)
def c_breaks : XC := (138, 1, (bY ++ [(0, 23)]), [.inr (.inl 0), .inl (some 13, 0)], gY2, [], [((bY ++ [(0, 23)]), none, gY2, (ansT 35 [(19, 35), (20, 36), (21, 37)]), 38, [(97, [(some 8, 0), (some 13, 0)], [3, 5, 6, 8, 19, 20, 21, 35, 36, 37])])])
def h_breaks : List XH := [(2, (bY ++ [(0, 23), (0, 11)]), [some (.inr (.inl 0)), some (.inl (some 13, 0)), some (.inl (some 14, 0)), none], gY2, (ansT 35 [(19, 35), (20, 36), (21, 37)]), 38, [(97, [(some 14, 0), (some 13, 0)], [3, 5, 6, 8, 19, 20, 21, 35, 36, 37]), (3, [(some 8, 0), (some 14, 0)], [])], [(true, (none, 1)), (true, (some 14, 0))])]
def w_breaks_0_0 : VC := ((bY ++ [(0, 23)]), [], (97, [(none, 0), (some 13, 0)], [3, 5, 6, 8, 19, 20, 21, 19, 20, 21]))
theorem pe97_5 {PT : PTy} (hp : HP5 PT) : PT 97 = P_br := hp.2.2.2.1
set_option maxRecDepth 20000 in
theorem v_breaks_0_0 {PT : PTy} (hp : HP5 PT) : vcOk PT w_breaks_0_0 := vc_in [(13, 0, 23)] (by decide +kernel) (fun ρ α => by
  intro b13 tt
  have e97 : PT 97 = P_br := pe97_5 hp
  simp only [hFp_97, e97, P_br, den_s, den_c, Int.add_zero, List.map_cons, List.map_nil] at ⊢
  first | rfl | omega)
def w_breaks_0_1 : VC := ((bY ++ [(0, 23)]), [], (3, [(some 8, 0), (none, 0)], []))
set_option maxRecDepth 20000 in
theorem v_breaks_0_1 {PT : PTy} (hp : HP5 PT) : vcOk PT w_breaks_0_1 := vc_in [(8, 0, 11)] (by decide +kernel) (fun ρ α => by
  intro b8 tt
  simp only [hF3, den_s, den_c, Int.add_zero, List.map_cons, List.map_nil] at ⊢
  first | rfl | omega)
def w_breaks_1_0 : VC := ((bY ++ [(0, 23), (0, 11)]), [(3, [(some 14, 0), (some 8, 0)], []), (97, [(some 14, 0), (some 13, 0)], [3, 5, 6, 8, 19, 20, 21, 35, 36, 37]), (3, [(some 8, 0), (some 14, 0)], [])], (97, [(some 8, 0), (some 13, 0)], [3, 5, 6, 8, 19, 20, 21, 35, 36, 37]))
set_option maxRecDepth 20000 in
theorem v_breaks_1_0 {PT : PTy} (hp : HP5 PT) : vcOk PT w_breaks_1_0 := vc_iv [(8, 0, 11), (13, 0, 23), (14, 0, 11)] [3, 5, 6, 8, 19, 20, 21, 35, 36, 37] (by decide +kernel) (fun ρ α => by
  intro r8 g8 b8 r13 g13 b13 r14 g14 b14 a3 h3 a5 h5 a6 h6 a8 h8 a19 h19 a20 h20 a21 h21 a35 h35 a36 h36 a37 h37 f0 f1 f2 tt
  have e97 : PT 97 = P_br := pe97_5 hp
  simp only [hF3, hFp_97, e97, P_br, den_s, den_c, Int.add_zero, List.map_cons, List.map_nil, g8.eq, g13.eq, g14.eq, h3, h5, h6, h8, h19, h20, h21, h35, h36, h37] at f0 f1 f2 ⊢
  first
    | omega
    | (rw [show r8 = r14 by omega]; exact f1)
    | (rw [foldI_s (by omega), ← f1]; unfold brS; (try dsimp only); rw [if_neg (by omega)]; done)
    | (rw [foldI_s (by omega), ← f1]; unfold brS; (try dsimp only); rw [if_pos (by omega)]; unfold chF clF lnF; (try dsimp only); (repeat' (first | rfl | (exfalso; omega) | split)); done))
def w_breaks_1_1 : VC := (([(0, 23), (0, 49), (0, 8), (0, 10), (0, 8), (0, 6), (0, 6), (0, 8), (1, 11), (0, 9), ((-2147483648), 2147483647), ((-2147483648), 2147483647), (0, 5), (0, 23), (0, 10), ((-1), 23)]), [(1, [(some 15, 0), (some 13, 0)], []), (20, [(some 15, 0), (some 14, 0)], [8]), (2, [(some 14, 0), (some 8, 0)], []), (97, [(some 14, 0), (some 13, 0)], [3, 5, 6, 8, 19, 20, 21, 35, 36, 37]), (3, [(some 8, 0), (some 14, 0)], [])], (97, [(some 14, 1), (some 13, 0)], [3, 5, 6, 8, 19, 20, 21, 35, 36, 37]))
set_option maxRecDepth 20000 in
theorem v_breaks_1_1 {PT : PTy} (hp : HP5 PT) : vcOk PT w_breaks_1_1 := vc_iv [(8, 1, 11), (13, 0, 23), (14, 0, 10), (15, (-1), 23)] [3, 5, 6, 8, 19, 20, 21, 35, 36, 37] (by decide +kernel) (fun ρ α => by
  intro r8 g8 b8 r13 g13 b13 r14 g14 b14 r15 g15 b15 a3 h3 a5 h5 a6 h6 a8 h8 a19 h19 a20 h20 a21 h21 a35 h35 a36 h36 a37 h37 f0 f1 f2 f3 f4 tt
  have e97 : PT 97 = P_br := pe97_5 hp
  simp only [hF1, hF2, hF3, hF20, hFp_97, e97, P_br, den_s, den_c, Int.add_zero, List.map_cons, List.map_nil, g8.eq, g13.eq, g14.eq, g15.eq, h3, h5, h6, h8, h19, h20, h21, h35, h36, h37] at f0 f1 f2 f3 f4 ⊢
  subst f1
  first
    | omega
    | (rw [show r8 = r14 by omega]; exact f3)
    | (rw [foldI_s (by omega), ← f3]; unfold brS; (try dsimp only); rw [if_neg (by omega)]; done)
    | (rw [foldI_s (by omega), ← f3]; unfold brS; (try dsimp only); rw [if_pos (by omega)]; unfold chF clF lnF; (try dsimp only); (repeat' (first | rfl | (exfalso; omega) | split)); done))
def w_breaks_1_2 : VC := (([(0, 23), (0, 49), (0, 8), (0, 10), (0, 8), (0, 6), (0, 6), (0, 8), (1, 11), (0, 9), ((-2147483648), 2147483647), ((-2147483648), 2147483647), (0, 5), (0, 23), (0, 10), ((-1), 23)]), [(1, [(some 15, 0), (some 13, 0)], []), (20, [(some 15, 0), (some 14, 0)], [8]), (2, [(some 14, 0), (some 8, 0)], []), (97, [(some 14, 0), (some 13, 0)], [3, 5, 6, 8, 19, 20, 21, 35, 36, 37]), (3, [(some 8, 0), (some 14, 0)], [])], (3, [(some 8, 0), (some 14, 1)], []))
set_option maxRecDepth 20000 in
theorem v_breaks_1_2 {PT : PTy} (hp : HP5 PT) : vcOk PT w_breaks_1_2 := vc_iv [(8, 1, 11), (13, 0, 23), (14, 0, 10), (15, (-1), 23)] [3, 5, 6, 8, 19, 20, 21, 35, 36, 37] (by decide +kernel) (fun ρ α => by
  intro r8 g8 b8 r13 g13 b13 r14 g14 b14 r15 g15 b15 a3 h3 a5 h5 a6 h6 a8 h8 a19 h19 a20 h20 a21 h21 a35 h35 a36 h36 a37 h37 f0 f1 f2 f3 f4 tt
  have e97 : PT 97 = P_br := pe97_5 hp
  simp only [hF1, hF2, hF3, hF20, hFp_97, e97, P_br, den_s, den_c, Int.add_zero, List.map_cons, List.map_nil, g8.eq, g13.eq, g14.eq, g15.eq, h3, h5, h6, h8, h19, h20, h21, h35, h36, h37] at f0 f1 f2 f3 f4 ⊢
  subst f1
  first
    | omega
    | (rw [show r8 = r14 by omega]; exact f3)
    | (rw [foldI_s (by omega), ← f3]; unfold brS; (try dsimp only); rw [if_neg (by omega)]; done)
    | (rw [foldI_s (by omega), ← f3]; unfold brS; (try dsimp only); rw [if_pos (by omega)]; unfold chF clF lnF; (try dsimp only); (repeat' (first | rfl | (exfalso; omega) | split)); done))
def w_breaks_1_3 : VC := (([(0, 23), (0, 49), (0, 8), (0, 10), (0, 8), (0, 6), (0, 6), (0, 8), (1, 11), (0, 9), ((-2147483648), 2147483647), ((-2147483648), 2147483647), (0, 5), (0, 23), (0, 10), (0, 23), (0, 3)]), [(1, [(some 16, 0), (none, 1)], []), (20, [(some 16, 0), (some 14, 0)], [37]), (0, [(some 15, 0), (some 13, 0)], []), (20, [(some 15, 0), (some 14, 0)], [8]), (2, [(some 14, 0), (some 8, 0)], []), (97, [(some 14, 0), (some 13, 0)], [3, 5, 6, 8, 19, 20, 21, 35, 36, 37]), (3, [(some 8, 0), (some 14, 0)], [])], (97, [(some 14, 1), (some 13, 0)], [3, 5, 6, 8, 19, 20, 21, 35, 36, 37]))
set_option maxRecDepth 20000 in
theorem v_breaks_1_3 {PT : PTy} (hp : HP5 PT) : vcOk PT w_breaks_1_3 := vc_iv [(8, 1, 11), (13, 0, 23), (14, 0, 10), (15, 0, 23), (16, 0, 3)] [3, 5, 6, 8, 19, 20, 21, 35, 36, 37] (by decide +kernel) (fun ρ α => by
  intro r8 g8 b8 r13 g13 b13 r14 g14 b14 r15 g15 b15 r16 g16 b16 a3 h3 a5 h5 a6 h6 a8 h8 a19 h19 a20 h20 a21 h21 a35 h35 a36 h36 a37 h37 f0 f1 f2 f3 f4 f5 f6 tt
  have e97 : PT 97 = P_br := pe97_5 hp
  simp only [hF0, hF1, hF2, hF3, hF20, hFp_97, e97, P_br, den_s, den_c, Int.add_zero, List.map_cons, List.map_nil, g8.eq, g13.eq, g14.eq, g15.eq, g16.eq, h3, h5, h6, h8, h19, h20, h21, h35, h36, h37] at f0 f1 f2 f3 f4 f5 f6 ⊢
  subst f1
  subst f3
  first
    | omega
    | (rw [show r8 = r14 by omega]; exact f5)
    | (rw [foldI_s (by omega), ← f5]; unfold brS; (try dsimp only); rw [if_neg (by omega)]; done)
    | (rw [foldI_s (by omega), ← f5]; unfold brS; (try dsimp only); rw [if_pos (by omega)]; unfold chF clF lnF; (try dsimp only); (repeat' (first | rfl | (exfalso; omega) | split)); done))
def w_breaks_1_4 : VC := (([(0, 23), (0, 49), (0, 8), (0, 10), (0, 8), (0, 6), (0, 6), (0, 8), (1, 11), (0, 9), ((-2147483648), 2147483647), ((-2147483648), 2147483647), (0, 5), (0, 23), (0, 10), (0, 23), (0, 3)]), [(1, [(some 16, 0), (none, 1)], []), (20, [(some 16, 0), (some 14, 0)], [37]), (0, [(some 15, 0), (some 13, 0)], []), (20, [(some 15, 0), (some 14, 0)], [8]), (2, [(some 14, 0), (some 8, 0)], []), (97, [(some 14, 0), (some 13, 0)], [3, 5, 6, 8, 19, 20, 21, 35, 36, 37]), (3, [(some 8, 0), (some 14, 0)], [])], (3, [(some 8, 0), (some 14, 1)], []))
set_option maxRecDepth 20000 in
theorem v_breaks_1_4 {PT : PTy} (hp : HP5 PT) : vcOk PT w_breaks_1_4 := vc_iv [(8, 1, 11), (13, 0, 23), (14, 0, 10), (15, 0, 23), (16, 0, 3)] [3, 5, 6, 8, 19, 20, 21, 35, 36, 37] (by decide +kernel) (fun ρ α => by
  intro r8 g8 b8 r13 g13 b13 r14 g14 b14 r15 g15 b15 r16 g16 b16 a3 h3 a5 h5 a6 h6 a8 h8 a19 h19 a20 h20 a21 h21 a35 h35 a36 h36 a37 h37 f0 f1 f2 f3 f4 f5 f6 tt
  have e97 : PT 97 = P_br := pe97_5 hp
  simp only [hF0, hF1, hF2, hF3, hF20, hFp_97, e97, P_br, den_s, den_c, Int.add_zero, List.map_cons, List.map_nil, g8.eq, g13.eq, g14.eq, g15.eq, g16.eq, h3, h5, h6, h8, h19, h20, h21, h35, h36, h37] at f0 f1 f2 f3 f4 f5 f6 ⊢
  subst f1
  subst f3
  first
    | omega
    | (rw [show r8 = r14 by omega]; exact f5)
    | (rw [foldI_s (by omega), ← f5]; unfold brS; (try dsimp only); rw [if_neg (by omega)]; done)
    | (rw [foldI_s (by omega), ← f5]; unfold brS; (try dsimp only); rw [if_pos (by omega)]; unfold chF clF lnF; (try dsimp only); (repeat' (first | rfl | (exfalso; omega) | split)); done))
def w_breaks_1_5 : VC := (([(0, 23), (0, 49), (0, 8), (0, 10), (0, 8), (0, 6), (0, 6), (0, 8), (1, 11), (0, 9), ((-2147483648), 2147483647), ((-2147483648), 2147483647), (0, 5), (0, 23), (0, 10), (0, 23), (1, 1), (0, 7), (0, 7), (2, 2), (0, 9), ((-9), 0), (0, 1), (0, 99), (0, 99), ((-2147483648), 2147483647), ((-2147483648), 2147483647)]), [(21, [(some 17, 0), (some 26, 0)], [40, 36]), (16, [(some 26, 0), (some 25, 0), (none, 1)], []), (20, [(some 25, 0), (some 17, 0)], [36]), (21, [(some 17, 0), (some 24, 0)], [39, 35]), (3, [(none, 99), (some 24, 0)], []), (3, [(some 24, 0), (none, 0)], []), (4, [(some 24, 0), (some 23, 0), (some 21, 0)], []), (20, [(some 23, 0), (some 17, 0)], [35]), (1, [(some 22, 0), (none, 2)], []), (20, [(some 22, 0), (some 17, 0)], [3]), (9, [(some 21, 0), (some 20, 0)], []), (20, [(some 20, 0), (some 14, 0)], [6]), (1, [(some 19, 0), (none, 1)], []), (1, [(some 19, 0), (none, 0)], []), (20, [(some 19, 0), (some 18, 0)], [3]), (20, [(some 18, 0), (some 14, 0)], [5]), (21, [(some 14, 0), (none, 3)], [38, 37]), (20, [(some 17, 0), (some 14, 0)], [5]), (0, [(some 16, 0), (none, 1)], []), (20, [(some 16, 0), (some 14, 0)], [37]), (0, [(some 15, 0), (some 13, 0)], []), (20, [(some 15, 0), (some 14, 0)], [8]), (2, [(some 14, 0), (some 8, 0)], []), (97, [(some 14, 0), (some 13, 0)], [3, 5, 6, 8, 19, 20, 21, 35, 36, 37]), (3, [(some 8, 0), (some 14, 0)], [])], (97, [(some 14, 1), (some 13, 0)], [3, 5, 6, 8, 19, 20, 21, 39, 40, 38]))
set_option maxRecDepth 20000 in
theorem v_breaks_1_5 {PT : PTy} (hp : HP5 PT) : vcOk PT w_breaks_1_5 := vc_iv [(8, 1, 11), (13, 0, 23), (14, 0, 10), (15, 0, 23), (16, 1, 1), (17, 0, 7), (18, 0, 7), (19, 2, 2), (20, 0, 9), (21, (-9), 0), (22, 0, 1), (23, 0, 99), (24, 0, 99), (25, (-2147483648), 2147483647), (26, (-2147483648), 2147483647)] [3, 5, 6, 8, 19, 20, 21, 35, 36, 37, 38, 39, 40] (by decide +kernel) (fun ρ α => by
  intro r8 g8 b8 r13 g13 b13 r14 g14 b14 r15 g15 b15 r16 g16 b16 r17 g17 b17 r18 g18 b18 r19 g19 b19 r20 g20 b20 r21 g21 b21 r22 g22 b22 r23 g23 b23 r24 g24 b24 r25 g25 b25 r26 g26 b26 a3 h3 a5 h5 a6 h6 a8 h8 a19 h19 a20 h20 a21 h21 a35 h35 a36 h36 a37 h37 a38 h38 a39 h39 a40 h40 f0 f1 f2 f3 f4 f5 f6 f7 f8 f9 f10 f11 f12 f13 f14 f15 f16 f17 f18 f19 f20 f21 f22 f23 f24 tt
  clear f4 f5 f8 f12 f13
  have e97 : PT 97 = P_br := pe97_5 hp
  simp only [hF0, hF2, hF3, hF4, hF9, hF16, hF20, hF21, hFp_97, e97, P_br, den_s, den_c, Int.add_zero, List.map_cons, List.map_nil, g8.eq, g13.eq, g14.eq, g15.eq, g16.eq, g17.eq, g18.eq, g19.eq, g20.eq, g21.eq, g22.eq, g23.eq, g24.eq, g25.eq, g26.eq, h3, h5, h6, h8, h19, h20, h21, h35, h36, h37, h38, h39, h40] at f0 f1 f2 f3 f6 f7 f9 f10 f11 f14 f15 f16 f17 f18 f19 f20 f21 f22 f23 f24 ⊢
  subst f0
  subst f1
  subst f2
  subst f3
  subst f6
  subst f7
  subst f9
  subst f10
  subst f11
  subst f14
  subst f15
  subst f16
  subst f17
  subst f19
  subst f21
  first
    | omega
    | (rw [show r8 = r14 by omega]; exact f23)
    | (rw [foldI_s (by omega), ← f23]; unfold brS; (try dsimp only); rw [if_neg (by omega)]; done)
    | (rw [foldI_s (by omega), ← f23]; unfold brS; (try dsimp only); rw [if_pos (by omega)]; unfold chF clF lnF; (try dsimp only); (repeat' (first | rfl | (exfalso; omega) | split)); done))
def w_breaks_1_6 : VC := (([(0, 23), (0, 49), (0, 8), (0, 10), (0, 8), (0, 6), (0, 6), (0, 8), (1, 11), (0, 9), ((-2147483648), 2147483647), ((-2147483648), 2147483647), (0, 5), (0, 23), (0, 10), (0, 23), (1, 1), (0, 7), (0, 7), (2, 2), (0, 9), ((-9), 0), (0, 1), (0, 99), (0, 99), ((-2147483648), 2147483647), ((-2147483648), 2147483647)]), [(21, [(some 17, 0), (some 26, 0)], [40, 36]), (16, [(some 26, 0), (some 25, 0), (none, 1)], []), (20, [(some 25, 0), (some 17, 0)], [36]), (21, [(some 17, 0), (some 24, 0)], [39, 35]), (3, [(none, 99), (some 24, 0)], []), (3, [(some 24, 0), (none, 0)], []), (4, [(some 24, 0), (some 23, 0), (some 21, 0)], []), (20, [(some 23, 0), (some 17, 0)], [35]), (1, [(some 22, 0), (none, 2)], []), (20, [(some 22, 0), (some 17, 0)], [3]), (9, [(some 21, 0), (some 20, 0)], []), (20, [(some 20, 0), (some 14, 0)], [6]), (1, [(some 19, 0), (none, 1)], []), (1, [(some 19, 0), (none, 0)], []), (20, [(some 19, 0), (some 18, 0)], [3]), (20, [(some 18, 0), (some 14, 0)], [5]), (21, [(some 14, 0), (none, 3)], [38, 37]), (20, [(some 17, 0), (some 14, 0)], [5]), (0, [(some 16, 0), (none, 1)], []), (20, [(some 16, 0), (some 14, 0)], [37]), (0, [(some 15, 0), (some 13, 0)], []), (20, [(some 15, 0), (some 14, 0)], [8]), (2, [(some 14, 0), (some 8, 0)], []), (97, [(some 14, 0), (some 13, 0)], [3, 5, 6, 8, 19, 20, 21, 35, 36, 37]), (3, [(some 8, 0), (some 14, 0)], [])], (3, [(some 8, 0), (some 14, 1)], []))
set_option maxRecDepth 20000 in
theorem v_breaks_1_6 {PT : PTy} (hp : HP5 PT) : vcOk PT w_breaks_1_6 := vc_iv [(8, 1, 11), (13, 0, 23), (14, 0, 10), (15, 0, 23), (16, 1, 1), (17, 0, 7), (18, 0, 7), (19, 2, 2), (20, 0, 9), (21, (-9), 0), (22, 0, 1), (23, 0, 99), (24, 0, 99), (25, (-2147483648), 2147483647), (26, (-2147483648), 2147483647)] [3, 5, 6, 8, 19, 20, 21, 35, 36, 37, 38, 39, 40] (by decide +kernel) (fun ρ α => by
  intro r8 g8 b8 r13 g13 b13 r14 g14 b14 r15 g15 b15 r16 g16 b16 r17 g17 b17 r18 g18 b18 r19 g19 b19 r20 g20 b20 r21 g21 b21 r22 g22 b22 r23 g23 b23 r24 g24 b24 r25 g25 b25 r26 g26 b26 a3 h3 a5 h5 a6 h6 a8 h8 a19 h19 a20 h20 a21 h21 a35 h35 a36 h36 a37 h37 a38 h38 a39 h39 a40 h40 f0 f1 f2 f3 f4 f5 f6 f7 f8 f9 f10 f11 f12 f13 f14 f15 f16 f17 f18 f19 f20 f21 f22 f23 f24 tt
  clear f4 f5 f8 f12 f13
  have e97 : PT 97 = P_br := pe97_5 hp
  simp only [hF0, hF2, hF3, hF4, hF9, hF16, hF20, hF21, hFp_97, e97, P_br, den_s, den_c, Int.add_zero, List.map_cons, List.map_nil, g8.eq, g13.eq, g14.eq, g15.eq, g16.eq, g17.eq, g18.eq, g19.eq, g20.eq, g21.eq, g22.eq, g23.eq, g24.eq, g25.eq, g26.eq, h3, h5, h6, h8, h19, h20, h21, h35, h36, h37, h38, h39, h40] at f0 f1 f2 f3 f6 f7 f9 f10 f11 f14 f15 f16 f17 f18 f19 f20 f21 f22 f23 f24 ⊢
  subst f0
  subst f1
  subst f2
  subst f3
  subst f6
  subst f7
  subst f9
  subst f10
  subst f11
  subst f14
  subst f15
  subst f16
  subst f17
  subst f19
  subst f21
  first
    | omega
    | (rw [show r8 = r14 by omega]; exact f23)
    | (rw [foldI_s (by omega), ← f23]; unfold brS; (try dsimp only); rw [if_neg (by omega)]; done)
    | (rw [foldI_s (by omega), ← f23]; unfold brS; (try dsimp only); rw [if_pos (by omega)]; unfold chF clF lnF; (try dsimp only); (repeat' (first | rfl | (exfalso; omega) | split)); done))
def w_breaks_1_7 : VC := (([(0, 23), (0, 49), (0, 8), (0, 10), (0, 8), (0, 6), (0, 6), (0, 8), (1, 11), (0, 9), ((-2147483648), 2147483647), ((-2147483648), 2147483647), (0, 5), (0, 23), (0, 10), (0, 23), (1, 1), (0, 7), (0, 7), (2, 2), (0, 9), ((-9), 0), (0, 1), (0, 99), ((-9), (-1)), ((-2147483648), 2147483647), ((-2147483648), 2147483647)]), [(21, [(some 17, 0), (some 26, 0)], [40, 36]), (16, [(some 26, 0), (some 25, 0), (none, 1)], []), (20, [(some 25, 0), (some 17, 0)], [36]), (21, [(some 17, 0), (none, 0)], [39, 35]), (2, [(some 24, 0), (none, 0)], []), (4, [(some 24, 0), (some 23, 0), (some 21, 0)], []), (20, [(some 23, 0), (some 17, 0)], [35]), (1, [(some 22, 0), (none, 2)], []), (20, [(some 22, 0), (some 17, 0)], [3]), (9, [(some 21, 0), (some 20, 0)], []), (20, [(some 20, 0), (some 14, 0)], [6]), (1, [(some 19, 0), (none, 1)], []), (1, [(some 19, 0), (none, 0)], []), (20, [(some 19, 0), (some 18, 0)], [3]), (20, [(some 18, 0), (some 14, 0)], [5]), (21, [(some 14, 0), (none, 3)], [38, 37]), (20, [(some 17, 0), (some 14, 0)], [5]), (0, [(some 16, 0), (none, 1)], []), (20, [(some 16, 0), (some 14, 0)], [37]), (0, [(some 15, 0), (some 13, 0)], []), (20, [(some 15, 0), (some 14, 0)], [8]), (2, [(some 14, 0), (some 8, 0)], []), (97, [(some 14, 0), (some 13, 0)], [3, 5, 6, 8, 19, 20, 21, 35, 36, 37]), (3, [(some 8, 0), (some 14, 0)], [])], (97, [(some 14, 1), (some 13, 0)], [3, 5, 6, 8, 19, 20, 21, 39, 40, 38]))
set_option maxRecDepth 20000 in
theorem v_breaks_1_7 {PT : PTy} (hp : HP5 PT) : vcOk PT w_breaks_1_7 := vc_iv [(8, 1, 11), (13, 0, 23), (14, 0, 10), (15, 0, 23), (16, 1, 1), (17, 0, 7), (18, 0, 7), (19, 2, 2), (20, 0, 9), (21, (-9), 0), (22, 0, 1), (23, 0, 99), (24, (-9), (-1)), (25, (-2147483648), 2147483647), (26, (-2147483648), 2147483647)] [3, 5, 6, 8, 19, 20, 21, 35, 36, 37, 38, 39, 40] (by decide +kernel) (fun ρ α => by
  intro r8 g8 b8 r13 g13 b13 r14 g14 b14 r15 g15 b15 r16 g16 b16 r17 g17 b17 r18 g18 b18 r19 g19 b19 r20 g20 b20 r21 g21 b21 r22 g22 b22 r23 g23 b23 r24 g24 b24 r25 g25 b25 r26 g26 b26 a3 h3 a5 h5 a6 h6 a8 h8 a19 h19 a20 h20 a21 h21 a35 h35 a36 h36 a37 h37 a38 h38 a39 h39 a40 h40 f0 f1 f2 f3 f4 f5 f6 f7 f8 f9 f10 f11 f12 f13 f14 f15 f16 f17 f18 f19 f20 f21 f22 f23 tt
  clear f4 f7 f11 f12
  have e97 : PT 97 = P_br := pe97_5 hp
  simp only [hF0, hF2, hF3, hF4, hF9, hF16, hF20, hF21, hFp_97, e97, P_br, den_s, den_c, Int.add_zero, List.map_cons, List.map_nil, g8.eq, g13.eq, g14.eq, g15.eq, g16.eq, g17.eq, g18.eq, g19.eq, g20.eq, g21.eq, g22.eq, g23.eq, g24.eq, g25.eq, g26.eq, h3, h5, h6, h8, h19, h20, h21, h35, h36, h37, h38, h39, h40] at f0 f1 f2 f3 f5 f6 f8 f9 f10 f13 f14 f15 f16 f17 f18 f19 f20 f21 f22 f23 ⊢
  subst f0
  subst f1
  subst f2
  subst f3
  subst f5
  subst f6
  subst f8
  subst f9
  subst f10
  subst f13
  subst f14
  subst f15
  subst f16
  subst f18
  subst f20
  first
    | omega
    | (rw [show r8 = r14 by omega]; exact f22)
    | (rw [foldI_s (by omega), ← f22]; unfold brS; (try dsimp only); rw [if_neg (by omega)]; done)
    | (rw [foldI_s (by omega), ← f22]; unfold brS; (try dsimp only); rw [if_pos (by omega)]; unfold chF clF lnF; (try dsimp only); (repeat' (first | rfl | (exfalso; omega) | split)); done))
def w_breaks_1_8 : VC := (([(0, 23), (0, 49), (0, 8), (0, 10), (0, 8), (0, 6), (0, 6), (0, 8), (1, 11), (0, 9), ((-2147483648), 2147483647), ((-2147483648), 2147483647), (0, 5), (0, 23), (0, 10), (0, 23), (1, 1), (0, 7), (0, 7), (2, 2), (0, 9), ((-9), 0), (0, 1), (0, 99), ((-9), (-1)), ((-2147483648), 2147483647), ((-2147483648), 2147483647)]), [(21, [(some 17, 0), (some 26, 0)], [40, 36]), (16, [(some 26, 0), (some 25, 0), (none, 1)], []), (20, [(some 25, 0), (some 17, 0)], [36]), (21, [(some 17, 0), (none, 0)], [39, 35]), (2, [(some 24, 0), (none, 0)], []), (4, [(some 24, 0), (some 23, 0), (some 21, 0)], []), (20, [(some 23, 0), (some 17, 0)], [35]), (1, [(some 22, 0), (none, 2)], []), (20, [(some 22, 0), (some 17, 0)], [3]), (9, [(some 21, 0), (some 20, 0)], []), (20, [(some 20, 0), (some 14, 0)], [6]), (1, [(some 19, 0), (none, 1)], []), (1, [(some 19, 0), (none, 0)], []), (20, [(some 19, 0), (some 18, 0)], [3]), (20, [(some 18, 0), (some 14, 0)], [5]), (21, [(some 14, 0), (none, 3)], [38, 37]), (20, [(some 17, 0), (some 14, 0)], [5]), (0, [(some 16, 0), (none, 1)], []), (20, [(some 16, 0), (some 14, 0)], [37]), (0, [(some 15, 0), (some 13, 0)], []), (20, [(some 15, 0), (some 14, 0)], [8]), (2, [(some 14, 0), (some 8, 0)], []), (97, [(some 14, 0), (some 13, 0)], [3, 5, 6, 8, 19, 20, 21, 35, 36, 37]), (3, [(some 8, 0), (some 14, 0)], [])], (3, [(some 8, 0), (some 14, 1)], []))
set_option maxRecDepth 20000 in
theorem v_breaks_1_8 {PT : PTy} (hp : HP5 PT) : vcOk PT w_breaks_1_8 := vc_iv [(8, 1, 11), (13, 0, 23), (14, 0, 10), (15, 0, 23), (16, 1, 1), (17, 0, 7), (18, 0, 7), (19, 2, 2), (20, 0, 9), (21, (-9), 0), (22, 0, 1), (23, 0, 99), (24, (-9), (-1)), (25, (-2147483648), 2147483647), (26, (-2147483648), 2147483647)] [3, 5, 6, 8, 19, 20, 21, 35, 36, 37, 38, 39, 40] (by decide +kernel) (fun ρ α => by
  intro r8 g8 b8 r13 g13 b13 r14 g14 b14 r15 g15 b15 r16 g16 b16 r17 g17 b17 r18 g18 b18 r19 g19 b19 r20 g20 b20 r21 g21 b21 r22 g22 b22 r23 g23 b23 r24 g24 b24 r25 g25 b25 r26 g26 b26 a3 h3 a5 h5 a6 h6 a8 h8 a19 h19 a20 h20 a21 h21 a35 h35 a36 h36 a37 h37 a38 h38 a39 h39 a40 h40 f0 f1 f2 f3 f4 f5 f6 f7 f8 f9 f10 f11 f12 f13 f14 f15 f16 f17 f18 f19 f20 f21 f22 f23 tt
  clear f4 f7 f11 f12
  have e97 : PT 97 = P_br := pe97_5 hp
  simp only [hF0, hF2, hF3, hF4, hF9, hF16, hF20, hF21, hFp_97, e97, P_br, den_s, den_c, Int.add_zero, List.map_cons, List.map_nil, g8.eq, g13.eq, g14.eq, g15.eq, g16.eq, g17.eq, g18.eq, g19.eq, g20.eq, g21.eq, g22.eq, g23.eq, g24.eq, g25.eq, g26.eq, h3, h5, h6, h8, h19, h20, h21, h35, h36, h37, h38, h39, h40] at f0 f1 f2 f3 f5 f6 f8 f9 f10 f13 f14 f15 f16 f17 f18 f19 f20 f21 f22 f23 ⊢
  subst f0
  subst f1
  subst f2
  subst f3
  subst f5
  subst f6
  subst f8
  subst f9
  subst f10
  subst f13
  subst f14
  subst f15
  subst f16
  subst f18
  subst f20
  first
    | omega
    | (rw [show r8 = r14 by omega]; exact f22)
    | (rw [foldI_s (by omega), ← f22]; unfold brS; (try dsimp only); rw [if_neg (by omega)]; done)
    | (rw [foldI_s (by omega), ← f22]; unfold brS; (try dsimp only); rw [if_pos (by omega)]; unfold chF clF lnF; (try dsimp only); (repeat' (first | rfl | (exfalso; omega) | split)); done))
def w_breaks_1_9 : VC := (([(0, 23), (0, 49), (0, 8), (0, 10), (0, 8), (0, 6), (0, 6), (0, 8), (1, 11), (0, 9), ((-2147483648), 2147483647), ((-2147483648), 2147483647), (0, 5), (0, 23), (0, 10), (0, 23), (1, 1), (0, 7), (0, 7), (2, 2), (0, 9), ((-9), 0), (2, 2), (0, 99), (0, 97), ((-2147483648), 2147483647), ((-2147483648), 2147483647)]), [(21, [(some 17, 0), (some 26, 0)], [40, 36]), (16, [(some 26, 0), (some 25, 0), (none, 1)], []), (20, [(some 25, 0), (some 17, 0)], [36]), (21, [(some 17, 0), (some 24, 0)], [39, 35]), (3, [(none, 99), (some 24, 0)], []), (3, [(some 24, 0), (none, 0)], []), (4, [(some 24, 0), (some 23, 0), (some 21, (-2))], []), (20, [(some 23, 0), (some 17, 0)], [35]), (0, [(some 22, 0), (none, 2)], []), (20, [(some 22, 0), (some 17, 0)], [3]), (9, [(some 21, 0), (some 20, 0)], []), (20, [(some 20, 0), (some 14, 0)], [6]), (1, [(some 19, 0), (none, 1)], []), (1, [(some 19, 0), (none, 0)], []), (20, [(some 19, 0), (some 18, 0)], [3]), (20, [(some 18, 0), (some 14, 0)], [5]), (21, [(some 14, 0), (none, 3)], [38, 37]), (20, [(some 17, 0), (some 14, 0)], [5]), (0, [(some 16, 0), (none, 1)], []), (20, [(some 16, 0), (some 14, 0)], [37]), (0, [(some 15, 0), (some 13, 0)], []), (20, [(some 15, 0), (some 14, 0)], [8]), (2, [(some 14, 0), (some 8, 0)], []), (97, [(some 14, 0), (some 13, 0)], [3, 5, 6, 8, 19, 20, 21, 35, 36, 37]), (3, [(some 8, 0), (some 14, 0)], [])], (97, [(some 14, 1), (some 13, 0)], [3, 5, 6, 8, 19, 20, 21, 39, 40, 38]))
set_option maxRecDepth 20000 in
theorem v_breaks_1_9 {PT : PTy} (hp : HP5 PT) : vcOk PT w_breaks_1_9 := vc_iv [(8, 1, 11), (13, 0, 23), (14, 0, 10), (15, 0, 23), (16, 1, 1), (17, 0, 7), (18, 0, 7), (19, 2, 2), (20, 0, 9), (21, (-9), 0), (22, 2, 2), (23, 0, 99), (24, 0, 97), (25, (-2147483648), 2147483647), (26, (-2147483648), 2147483647)] [3, 5, 6, 8, 19, 20, 21, 35, 36, 37, 38, 39, 40] (by decide +kernel) (fun ρ α => by
  intro r8 g8 b8 r13 g13 b13 r14 g14 b14 r15 g15 b15 r16 g16 b16 r17 g17 b17 r18 g18 b18 r19 g19 b19 r20 g20 b20 r21 g21 b21 r22 g22 b22 r23 g23 b23 r24 g24 b24 r25 g25 b25 r26 g26 b26 a3 h3 a5 h5 a6 h6 a8 h8 a19 h19 a20 h20 a21 h21 a35 h35 a36 h36 a37 h37 a38 h38 a39 h39 a40 h40 f0 f1 f2 f3 f4 f5 f6 f7 f8 f9 f10 f11 f12 f13 f14 f15 f16 f17 f18 f19 f20 f21 f22 f23 f24 tt
  clear f4 f5 f12 f13
  have e97 : PT 97 = P_br := pe97_5 hp
  simp only [hF0, hF2, hF3, hF4, hF9, hF16, hF20, hF21, hFp_97, e97, P_br, den_s, den_c, Int.add_zero, List.map_cons, List.map_nil, g8.eq, g13.eq, g14.eq, g15.eq, g16.eq, g17.eq, g18.eq, g19.eq, g20.eq, g21.eq, g22.eq, g23.eq, g24.eq, g25.eq, g26.eq, h3, h5, h6, h8, h19, h20, h21, h35, h36, h37, h38, h39, h40] at f0 f1 f2 f3 f6 f7 f8 f9 f10 f11 f14 f15 f16 f17 f18 f19 f20 f21 f22 f23 f24 ⊢
  subst f0
  subst f1
  subst f2
  subst f3
  subst f6
  subst f7
  subst f9
  subst f10
  subst f11
  subst f14
  subst f15
  subst f16
  subst f17
  subst f19
  subst f21
  first
    | omega
    | (rw [show r8 = r14 by omega]; exact f23)
    | (rw [foldI_s (by omega), ← f23]; unfold brS; (try dsimp only); rw [if_neg (by omega)]; done)
    | (rw [foldI_s (by omega), ← f23]; unfold brS; (try dsimp only); rw [if_pos (by omega)]; unfold chF clF lnF; (try dsimp only); (repeat' (first | rfl | (exfalso; omega) | split)); done))
def w_breaks_1_10 : VC := (([(0, 23), (0, 49), (0, 8), (0, 10), (0, 8), (0, 6), (0, 6), (0, 8), (1, 11), (0, 9), ((-2147483648), 2147483647), ((-2147483648), 2147483647), (0, 5), (0, 23), (0, 10), (0, 23), (1, 1), (0, 7), (0, 7), (2, 2), (0, 9), ((-9), 0), (2, 2), (0, 99), (0, 97), ((-2147483648), 2147483647), ((-2147483648), 2147483647)]), [(21, [(some 17, 0), (some 26, 0)], [40, 36]), (16, [(some 26, 0), (some 25, 0), (none, 1)], []), (20, [(some 25, 0), (some 17, 0)], [36]), (21, [(some 17, 0), (some 24, 0)], [39, 35]), (3, [(none, 99), (some 24, 0)], []), (3, [(some 24, 0), (none, 0)], []), (4, [(some 24, 0), (some 23, 0), (some 21, (-2))], []), (20, [(some 23, 0), (some 17, 0)], [35]), (0, [(some 22, 0), (none, 2)], []), (20, [(some 22, 0), (some 17, 0)], [3]), (9, [(some 21, 0), (some 20, 0)], []), (20, [(some 20, 0), (some 14, 0)], [6]), (1, [(some 19, 0), (none, 1)], []), (1, [(some 19, 0), (none, 0)], []), (20, [(some 19, 0), (some 18, 0)], [3]), (20, [(some 18, 0), (some 14, 0)], [5]), (21, [(some 14, 0), (none, 3)], [38, 37]), (20, [(some 17, 0), (some 14, 0)], [5]), (0, [(some 16, 0), (none, 1)], []), (20, [(some 16, 0), (some 14, 0)], [37]), (0, [(some 15, 0), (some 13, 0)], []), (20, [(some 15, 0), (some 14, 0)], [8]), (2, [(some 14, 0), (some 8, 0)], []), (97, [(some 14, 0), (some 13, 0)], [3, 5, 6, 8, 19, 20, 21, 35, 36, 37]), (3, [(some 8, 0), (some 14, 0)], [])], (3, [(some 8, 0), (some 14, 1)], []))
set_option maxRecDepth 20000 in
theorem v_breaks_1_10 {PT : PTy} (hp : HP5 PT) : vcOk PT w_breaks_1_10 := vc_iv [(8, 1, 11), (13, 0, 23), (14, 0, 10), (15, 0, 23), (16, 1, 1), (17, 0, 7), (18, 0, 7), (19, 2, 2), (20, 0, 9), (21, (-9), 0), (22, 2, 2), (23, 0, 99), (24, 0, 97), (25, (-2147483648), 2147483647), (26, (-2147483648), 2147483647)] [3, 5, 6, 8, 19, 20, 21, 35, 36, 37, 38, 39, 40] (by decide +kernel) (fun ρ α => by
  intro r8 g8 b8 r13 g13 b13 r14 g14 b14 r15 g15 b15 r16 g16 b16 r17 g17 b17 r18 g18 b18 r19 g19 b19 r20 g20 b20 r21 g21 b21 r22 g22 b22 r23 g23 b23 r24 g24 b24 r25 g25 b25 r26 g26 b26 a3 h3 a5 h5 a6 h6 a8 h8 a19 h19 a20 h20 a21 h21 a35 h35 a36 h36 a37 h37 a38 h38 a39 h39 a40 h40 f0 f1 f2 f3 f4 f5 f6 f7 f8 f9 f10 f11 f12 f13 f14 f15 f16 f17 f18 f19 f20 f21 f22 f23 f24 tt
  clear f4 f5 f12 f13
  have e97 : PT 97 = P_br := pe97_5 hp
  simp only [hF0, hF2, hF3, hF4, hF9, hF16, hF20, hF21, hFp_97, e97, P_br, den_s, den_c, Int.add_zero, List.map_cons, List.map_nil, g8.eq, g13.eq, g14.eq, g15.eq, g16.eq, g17.eq, g18.eq, g19.eq, g20.eq, g21.eq, g22.eq, g23.eq, g24.eq, g25.eq, g26.eq, h3, h5, h6, h8, h19, h20, h21, h35, h36, h37, h38, h39, h40] at f0 f1 f2 f3 f6 f7 f8 f9 f10 f11 f14 f15 f16 f17 f18 f19 f20 f21 f22 f23 f24 ⊢
  subst f0
  subst f1
  subst f2
  subst f3
  subst f6
  subst f7
  subst f9
  subst f10
  subst f11
  subst f14
  subst f15
  subst f16
  subst f17
  subst f19
  subst f21
  first
    | omega
    | (rw [show r8 = r14 by omega]; exact f23)
    | (rw [foldI_s (by omega), ← f23]; unfold brS; (try dsimp only); rw [if_neg (by omega)]; done)
    | (rw [foldI_s (by omega), ← f23]; unfold brS; (try dsimp only); rw [if_pos (by omega)]; unfold chF clF lnF; (try dsimp only); (repeat' (first | rfl | (exfalso; omega) | split)); done))
def w_breaks_1_11 : VC := (([(0, 23), (0, 49), (0, 8), (0, 10), (0, 8), (0, 6), (0, 6), (0, 8), (1, 11), (0, 9), ((-2147483648), 2147483647), ((-2147483648), 2147483647), (0, 5), (0, 23), (0, 10), (0, 23), (1, 1), (0, 7), (0, 7), (2, 2), (0, 9), ((-9), 0), (2, 2), (0, 99), ((-11), (-1)), ((-2147483648), 2147483647), ((-2147483648), 2147483647)]), [(21, [(some 17, 0), (some 26, 0)], [40, 36]), (16, [(some 26, 0), (some 25, 0), (none, 1)], []), (20, [(some 25, 0), (some 17, 0)], [36]), (21, [(some 17, 0), (none, 0)], [39, 35]), (2, [(some 24, 0), (none, 0)], []), (4, [(some 24, 0), (some 23, 0), (some 21, (-2))], []), (20, [(some 23, 0), (some 17, 0)], [35]), (0, [(some 22, 0), (none, 2)], []), (20, [(some 22, 0), (some 17, 0)], [3]), (9, [(some 21, 0), (some 20, 0)], []), (20, [(some 20, 0), (some 14, 0)], [6]), (1, [(some 19, 0), (none, 1)], []), (1, [(some 19, 0), (none, 0)], []), (20, [(some 19, 0), (some 18, 0)], [3]), (20, [(some 18, 0), (some 14, 0)], [5]), (21, [(some 14, 0), (none, 3)], [38, 37]), (20, [(some 17, 0), (some 14, 0)], [5]), (0, [(some 16, 0), (none, 1)], []), (20, [(some 16, 0), (some 14, 0)], [37]), (0, [(some 15, 0), (some 13, 0)], []), (20, [(some 15, 0), (some 14, 0)], [8]), (2, [(some 14, 0), (some 8, 0)], []), (97, [(some 14, 0), (some 13, 0)], [3, 5, 6, 8, 19, 20, 21, 35, 36, 37]), (3, [(some 8, 0), (some 14, 0)], [])], (97, [(some 14, 1), (some 13, 0)], [3, 5, 6, 8, 19, 20, 21, 39, 40, 38]))
set_option maxRecDepth 20000 in
theorem v_breaks_1_11 {PT : PTy} (hp : HP5 PT) : vcOk PT w_breaks_1_11 := vc_iv [(8, 1, 11), (13, 0, 23), (14, 0, 10), (15, 0, 23), (16, 1, 1), (17, 0, 7), (18, 0, 7), (19, 2, 2), (20, 0, 9), (21, (-9), 0), (22, 2, 2), (23, 0, 99), (24, (-11), (-1)), (25, (-2147483648), 2147483647), (26, (-2147483648), 2147483647)] [3, 5, 6, 8, 19, 20, 21, 35, 36, 37, 38, 39, 40] (by decide +kernel) (fun ρ α => by
  intro r8 g8 b8 r13 g13 b13 r14 g14 b14 r15 g15 b15 r16 g16 b16 r17 g17 b17 r18 g18 b18 r19 g19 b19 r20 g20 b20 r21 g21 b21 r22 g22 b22 r23 g23 b23 r24 g24 b24 r25 g25 b25 r26 g26 b26 a3 h3 a5 h5 a6 h6 a8 h8 a19 h19 a20 h20 a21 h21 a35 h35 a36 h36 a37 h37 a38 h38 a39 h39 a40 h40 f0 f1 f2 f3 f4 f5 f6 f7 f8 f9 f10 f11 f12 f13 f14 f15 f16 f17 f18 f19 f20 f21 f22 f23 tt
  clear f4 f11 f12
  have e97 : PT 97 = P_br := pe97_5 hp
  simp only [hF0, hF2, hF3, hF4, hF9, hF16, hF20, hF21, hFp_97, e97, P_br, den_s, den_c, Int.add_zero, List.map_cons, List.map_nil, g8.eq, g13.eq, g14.eq, g15.eq, g16.eq, g17.eq, g18.eq, g19.eq, g20.eq, g21.eq, g22.eq, g23.eq, g24.eq, g25.eq, g26.eq, h3, h5, h6, h8, h19, h20, h21, h35, h36, h37, h38, h39, h40] at f0 f1 f2 f3 f5 f6 f7 f8 f9 f10 f13 f14 f15 f16 f17 f18 f19 f20 f21 f22 f23 ⊢
  subst f0
  subst f1
  subst f2
  subst f3
  subst f5
  subst f6
  subst f8
  subst f9
  subst f10
  subst f13
  subst f14
  subst f15
  subst f16
  subst f18
  subst f20
  first
    | omega
    | (rw [show r8 = r14 by omega]; exact f22)
    | (rw [foldI_s (by omega), ← f22]; unfold brS; (try dsimp only); rw [if_neg (by omega)]; done)
    | (rw [foldI_s (by omega), ← f22]; unfold brS; (try dsimp only); rw [if_pos (by omega)]; unfold chF clF lnF; (try dsimp only); (repeat' (first | rfl | (exfalso; omega) | split)); done))
def w_breaks_1_12 : VC := (([(0, 23), (0, 49), (0, 8), (0, 10), (0, 8), (0, 6), (0, 6), (0, 8), (1, 11), (0, 9), ((-2147483648), 2147483647), ((-2147483648), 2147483647), (0, 5), (0, 23), (0, 10), (0, 23), (1, 1), (0, 7), (0, 7), (2, 2), (0, 9), ((-9), 0), (2, 2), (0, 99), ((-11), (-1)), ((-2147483648), 2147483647), ((-2147483648), 2147483647)]), [(21, [(some 17, 0), (some 26, 0)], [40, 36]), (16, [(some 26, 0), (some 25, 0), (none, 1)], []), (20, [(some 25, 0), (some 17, 0)], [36]), (21, [(some 17, 0), (none, 0)], [39, 35]), (2, [(some 24, 0), (none, 0)], []), (4, [(some 24, 0), (some 23, 0), (some 21, (-2))], []), (20, [(some 23, 0), (some 17, 0)], [35]), (0, [(some 22, 0), (none, 2)], []), (20, [(some 22, 0), (some 17, 0)], [3]), (9, [(some 21, 0), (some 20, 0)], []), (20, [(some 20, 0), (some 14, 0)], [6]), (1, [(some 19, 0), (none, 1)], []), (1, [(some 19, 0), (none, 0)], []), (20, [(some 19, 0), (some 18, 0)], [3]), (20, [(some 18, 0), (some 14, 0)], [5]), (21, [(some 14, 0), (none, 3)], [38, 37]), (20, [(some 17, 0), (some 14, 0)], [5]), (0, [(some 16, 0), (none, 1)], []), (20, [(some 16, 0), (some 14, 0)], [37]), (0, [(some 15, 0), (some 13, 0)], []), (20, [(some 15, 0), (some 14, 0)], [8]), (2, [(some 14, 0), (some 8, 0)], []), (97, [(some 14, 0), (some 13, 0)], [3, 5, 6, 8, 19, 20, 21, 35, 36, 37]), (3, [(some 8, 0), (some 14, 0)], [])], (3, [(some 8, 0), (some 14, 1)], []))
set_option maxRecDepth 20000 in
theorem v_breaks_1_12 {PT : PTy} (hp : HP5 PT) : vcOk PT w_breaks_1_12 := vc_iv [(8, 1, 11), (13, 0, 23), (14, 0, 10), (15, 0, 23), (16, 1, 1), (17, 0, 7), (18, 0, 7), (19, 2, 2), (20, 0, 9), (21, (-9), 0), (22, 2, 2), (23, 0, 99), (24, (-11), (-1)), (25, (-2147483648), 2147483647), (26, (-2147483648), 2147483647)] [3, 5, 6, 8, 19, 20, 21, 35, 36, 37, 38, 39, 40] (by decide +kernel) (fun ρ α => by
  intro r8 g8 b8 r13 g13 b13 r14 g14 b14 r15 g15 b15 r16 g16 b16 r17 g17 b17 r18 g18 b18 r19 g19 b19 r20 g20 b20 r21 g21 b21 r22 g22 b22 r23 g23 b23 r24 g24 b24 r25 g25 b25 r26 g26 b26 a3 h3 a5 h5 a6 h6 a8 h8 a19 h19 a20 h20 a21 h21 a35 h35 a36 h36 a37 h37 a38 h38 a39 h39 a40 h40 f0 f1 f2 f3 f4 f5 f6 f7 f8 f9 f10 f11 f12 f13 f14 f15 f16 f17 f18 f19 f20 f21 f22 f23 tt
  clear f4 f11 f12
  have e97 : PT 97 = P_br := pe97_5 hp
  simp only [hF0, hF2, hF3, hF4, hF9, hF16, hF20, hF21, hFp_97, e97, P_br, den_s, den_c, Int.add_zero, List.map_cons, List.map_nil, g8.eq, g13.eq, g14.eq, g15.eq, g16.eq, g17.eq, g18.eq, g19.eq, g20.eq, g21.eq, g22.eq, g23.eq, g24.eq, g25.eq, g26.eq, h3, h5, h6, h8, h19, h20, h21, h35, h36, h37, h38, h39, h40] at f0 f1 f2 f3 f5 f6 f7 f8 f9 f10 f13 f14 f15 f16 f17 f18 f19 f20 f21 f22 f23 ⊢
  subst f0
  subst f1
  subst f2
  subst f3
  subst f5
  subst f6
  subst f8
  subst f9
  subst f10
  subst f13
  subst f14
  subst f15
  subst f16
  subst f18
  subst f20
  first
    | omega
    | (rw [show r8 = r14 by omega]; exact f22)
    | (rw [foldI_s (by omega), ← f22]; unfold brS; (try dsimp only); rw [if_neg (by omega)]; done)
    | (rw [foldI_s (by omega), ← f22]; unfold brS; (try dsimp only); rw [if_pos (by omega)]; unfold chF clF lnF; (try dsimp only); (repeat' (first | rfl | (exfalso; omega) | split)); done))
def w_breaks_1_13 : VC := (([(0, 23), (0, 49), (0, 8), (0, 10), (0, 8), (0, 6), (0, 6), (0, 8), (1, 11), (0, 9), ((-2147483648), 2147483647), ((-2147483648), 2147483647), (0, 5), (0, 23), (0, 10), (0, 23), (1, 1), (0, 7), (0, 7), (1, 1), (0, 9), (0, 18), ((-18), 0), (0, 1), (0, 99), (0, 99), ((-2147483648), 2147483647), ((-2147483648), 2147483647)]), [(21, [(some 17, 0), (some 27, 0)], [40, 36]), (16, [(some 27, 0), (some 26, 0), (none, 1)], []), (20, [(some 26, 0), (some 17, 0)], [36]), (21, [(some 17, 0), (some 25, 0)], [39, 35]), (3, [(none, 99), (some 25, 0)], []), (3, [(some 25, 0), (none, 0)], []), (4, [(some 25, 0), (some 24, 0), (some 22, 0)], []), (20, [(some 24, 0), (some 17, 0)], [35]), (1, [(some 23, 0), (none, 2)], []), (20, [(some 23, 0), (some 17, 0)], [3]), (9, [(some 22, 0), (some 21, 0)], []), (6, [(some 21, 0), (none, 2), (some 20, 0)], []), (20, [(some 20, 0), (some 14, 0)], [6]), (0, [(some 19, 0), (none, 1)], []), (1, [(some 19, 0), (none, 0)], []), (20, [(some 19, 0), (some 18, 0)], [3]), (20, [(some 18, 0), (some 14, 0)], [5]), (21, [(some 14, 0), (none, 3)], [38, 37]), (20, [(some 17, 0), (some 14, 0)], [5]), (0, [(some 16, 0), (none, 1)], []), (20, [(some 16, 0), (some 14, 0)], [37]), (0, [(some 15, 0), (some 13, 0)], []), (20, [(some 15, 0), (some 14, 0)], [8]), (2, [(some 14, 0), (some 8, 0)], []), (97, [(some 14, 0), (some 13, 0)], [3, 5, 6, 8, 19, 20, 21, 35, 36, 37]), (3, [(some 8, 0), (some 14, 0)], [])], (97, [(some 14, 1), (some 13, 0)], [3, 5, 6, 8, 19, 20, 21, 39, 40, 38]))
set_option maxRecDepth 20000 in
theorem v_breaks_1_13 {PT : PTy} (hp : HP5 PT) : vcOk PT w_breaks_1_13 := vc_iv [(8, 1, 11), (13, 0, 23), (14, 0, 10), (15, 0, 23), (16, 1, 1), (17, 0, 7), (18, 0, 7), (19, 1, 1), (20, 0, 9), (21, 0, 18), (22, (-18), 0), (23, 0, 1), (24, 0, 99), (25, 0, 99), (26, (-2147483648), 2147483647), (27, (-2147483648), 2147483647)] [3, 5, 6, 8, 19, 20, 21, 35, 36, 37, 38, 39, 40] (by decide +kernel) (fun ρ α => by
  intro r8 g8 b8 r13 g13 b13 r14 g14 b14 r15 g15 b15 r16 g16 b16 r17 g17 b17 r18 g18 b18 r19 g19 b19 r20 g20 b20 r21 g21 b21 r22 g22 b22 r23 g23 b23 r24 g24 b24 r25 g25 b25 r26 g26 b26 r27 g27 b27 a3 h3 a5 h5 a6 h6 a8 h8 a19 h19 a20 h20 a21 h21 a35 h35 a36 h36 a37 h37 a38 h38 a39 h39 a40 h40 f0 f1 f2 f3 f4 f5 f6 f7 f8 f9 f10 f11 f12 f13 f14 f15 f16 f17 f18 f19 f20 f21 f22 f23 f24 f25 tt
  clear f4 f5 f8 f14
  have e97 : PT 97 = P_br := pe97_5 hp
  simp only [hF0, hF2, hF3, hF4, hF6, hF9, hF16, hF20, hF21, hFp_97, e97, P_br, den_s, den_c, Int.add_zero, List.map_cons, List.map_nil, g8.eq, g13.eq, g14.eq, g15.eq, g16.eq, g17.eq, g18.eq, g19.eq, g20.eq, g21.eq, g22.eq, g23.eq, g24.eq, g25.eq, g26.eq, g27.eq, h3, h5, h6, h8, h19, h20, h21, h35, h36, h37, h38, h39, h40] at f0 f1 f2 f3 f6 f7 f9 f10 f11 f12 f13 f15 f16 f17 f18 f19 f20 f21 f22 f23 f24 f25 ⊢
  subst f0
  subst f1
  subst f2
  subst f3
  subst f6
  subst f7
  subst f9
  subst f10
  subst f11
  subst f12
  subst f15
  subst f16
  subst f17
  subst f18
  subst f20
  subst f22
  first
    | omega
    | (rw [show r8 = r14 by omega]; exact f24)
    | (rw [foldI_s (by omega), ← f24]; unfold brS; (try dsimp only); rw [if_neg (by omega)]; done)
    | (rw [foldI_s (by omega), ← f24]; unfold brS; (try dsimp only); rw [if_pos (by omega)]; unfold chF clF lnF; (try dsimp only); (repeat' (first | rfl | (exfalso; omega) | split)); done))
def w_breaks_1_14 : VC := (([(0, 23), (0, 49), (0, 8), (0, 10), (0, 8), (0, 6), (0, 6), (0, 8), (1, 11), (0, 9), ((-2147483648), 2147483647), ((-2147483648), 2147483647), (0, 5), (0, 23), (0, 10), (0, 23), (1, 1), (0, 7), (0, 7), (1, 1), (0, 9), (0, 18), ((-18), 0), (0, 1), (0, 99), (0, 99), ((-2147483648), 2147483647), ((-2147483648), 2147483647)]), [(21, [(some 17, 0), (some 27, 0)], [40, 36]), (16, [(some 27, 0), (some 26, 0), (none, 1)], []), (20, [(some 26, 0), (some 17, 0)], [36]), (21, [(some 17, 0), (some 25, 0)], [39, 35]), (3, [(none, 99), (some 25, 0)], []), (3, [(some 25, 0), (none, 0)], []), (4, [(some 25, 0), (some 24, 0), (some 22, 0)], []), (20, [(some 24, 0), (some 17, 0)], [35]), (1, [(some 23, 0), (none, 2)], []), (20, [(some 23, 0), (some 17, 0)], [3]), (9, [(some 22, 0), (some 21, 0)], []), (6, [(some 21, 0), (none, 2), (some 20, 0)], []), (20, [(some 20, 0), (some 14, 0)], [6]), (0, [(some 19, 0), (none, 1)], []), (1, [(some 19, 0), (none, 0)], []), (20, [(some 19, 0), (some 18, 0)], [3]), (20, [(some 18, 0), (some 14, 0)], [5]), (21, [(some 14, 0), (none, 3)], [38, 37]), (20, [(some 17, 0), (some 14, 0)], [5]), (0, [(some 16, 0), (none, 1)], []), (20, [(some 16, 0), (some 14, 0)], [37]), (0, [(some 15, 0), (some 13, 0)], []), (20, [(some 15, 0), (some 14, 0)], [8]), (2, [(some 14, 0), (some 8, 0)], []), (97, [(some 14, 0), (some 13, 0)], [3, 5, 6, 8, 19, 20, 21, 35, 36, 37]), (3, [(some 8, 0), (some 14, 0)], [])], (3, [(some 8, 0), (some 14, 1)], []))
set_option maxRecDepth 20000 in
theorem v_breaks_1_14 {PT : PTy} (hp : HP5 PT) : vcOk PT w_breaks_1_14 := vc_iv [(8, 1, 11), (13, 0, 23), (14, 0, 10), (15, 0, 23), (16, 1, 1), (17, 0, 7), (18, 0, 7), (19, 1, 1), (20, 0, 9), (21, 0, 18), (22, (-18), 0), (23, 0, 1), (24, 0, 99), (25, 0, 99), (26, (-2147483648), 2147483647), (27, (-2147483648), 2147483647)] [3, 5, 6, 8, 19, 20, 21, 35, 36, 37, 38, 39, 40] (by decide +kernel) (fun ρ α => by
  intro r8 g8 b8 r13 g13 b13 r14 g14 b14 r15 g15 b15 r16 g16 b16 r17 g17 b17 r18 g18 b18 r19 g19 b19 r20 g20 b20 r21 g21 b21 r22 g22 b22 r23 g23 b23 r24 g24 b24 r25 g25 b25 r26 g26 b26 r27 g27 b27 a3 h3 a5 h5 a6 h6 a8 h8 a19 h19 a20 h20 a21 h21 a35 h35 a36 h36 a37 h37 a38 h38 a39 h39 a40 h40 f0 f1 f2 f3 f4 f5 f6 f7 f8 f9 f10 f11 f12 f13 f14 f15 f16 f17 f18 f19 f20 f21 f22 f23 f24 f25 tt
  clear f4 f5 f8 f14
  have e97 : PT 97 = P_br := pe97_5 hp
  simp only [hF0, hF2, hF3, hF4, hF6, hF9, hF16, hF20, hF21, hFp_97, e97, P_br, den_s, den_c, Int.add_zero, List.map_cons, List.map_nil, g8.eq, g13.eq, g14.eq, g15.eq, g16.eq, g17.eq, g18.eq, g19.eq, g20.eq, g21.eq, g22.eq, g23.eq, g24.eq, g25.eq, g26.eq, g27.eq, h3, h5, h6, h8, h19, h20, h21, h35, h36, h37, h38, h39, h40] at f0 f1 f2 f3 f6 f7 f9 f10 f11 f12 f13 f15 f16 f17 f18 f19 f20 f21 f22 f23 f24 f25 ⊢
  subst f0
  subst f1
  subst f2
  subst f3
  subst f6
  subst f7
  subst f9
  subst f10
  subst f11
  subst f12
  subst f15
  subst f16
  subst f17
  subst f18
  subst f20
  subst f22
  first
    | omega
    | (rw [show r8 = r14 by omega]; exact f24)
    | (rw [foldI_s (by omega), ← f24]; unfold brS; (try dsimp only); rw [if_neg (by omega)]; done)
    | (rw [foldI_s (by omega), ← f24]; unfold brS; (try dsimp only); rw [if_pos (by omega)]; unfold chF clF lnF; (try dsimp only); (repeat' (first | rfl | (exfalso; omega) | split)); done))
def w_breaks_1_15 : VC := (([(0, 23), (0, 49), (0, 8), (0, 10), (0, 8), (0, 6), (0, 6), (0, 8), (1, 11), (0, 9), ((-2147483648), 2147483647), ((-2147483648), 2147483647), (0, 5), (0, 23), (0, 10), (0, 23), (1, 1), (0, 7), (0, 7), (1, 1), (0, 9), (0, 18), ((-18), 0), (0, 1), (0, 99), ((-18), (-1)), ((-2147483648), 2147483647), ((-2147483648), 2147483647)]), [(21, [(some 17, 0), (some 27, 0)], [40, 36]), (16, [(some 27, 0), (some 26, 0), (none, 1)], []), (20, [(some 26, 0), (some 17, 0)], [36]), (21, [(some 17, 0), (none, 0)], [39, 35]), (2, [(some 25, 0), (none, 0)], []), (4, [(some 25, 0), (some 24, 0), (some 22, 0)], []), (20, [(some 24, 0), (some 17, 0)], [35]), (1, [(some 23, 0), (none, 2)], []), (20, [(some 23, 0), (some 17, 0)], [3]), (9, [(some 22, 0), (some 21, 0)], []), (6, [(some 21, 0), (none, 2), (some 20, 0)], []), (20, [(some 20, 0), (some 14, 0)], [6]), (0, [(some 19, 0), (none, 1)], []), (1, [(some 19, 0), (none, 0)], []), (20, [(some 19, 0), (some 18, 0)], [3]), (20, [(some 18, 0), (some 14, 0)], [5]), (21, [(some 14, 0), (none, 3)], [38, 37]), (20, [(some 17, 0), (some 14, 0)], [5]), (0, [(some 16, 0), (none, 1)], []), (20, [(some 16, 0), (some 14, 0)], [37]), (0, [(some 15, 0), (some 13, 0)], []), (20, [(some 15, 0), (some 14, 0)], [8]), (2, [(some 14, 0), (some 8, 0)], []), (97, [(some 14, 0), (some 13, 0)], [3, 5, 6, 8, 19, 20, 21, 35, 36, 37]), (3, [(some 8, 0), (some 14, 0)], [])], (97, [(some 14, 1), (some 13, 0)], [3, 5, 6, 8, 19, 20, 21, 39, 40, 38]))
set_option maxRecDepth 20000 in
theorem v_breaks_1_15 {PT : PTy} (hp : HP5 PT) : vcOk PT w_breaks_1_15 := vc_iv [(8, 1, 11), (13, 0, 23), (14, 0, 10), (15, 0, 23), (16, 1, 1), (17, 0, 7), (18, 0, 7), (19, 1, 1), (20, 0, 9), (21, 0, 18), (22, (-18), 0), (23, 0, 1), (24, 0, 99), (25, (-18), (-1)), (26, (-2147483648), 2147483647), (27, (-2147483648), 2147483647)] [3, 5, 6, 8, 19, 20, 21, 35, 36, 37, 38, 39, 40] (by decide +kernel) (fun ρ α => by
  intro r8 g8 b8 r13 g13 b13 r14 g14 b14 r15 g15 b15 r16 g16 b16 r17 g17 b17 r18 g18 b18 r19 g19 b19 r20 g20 b20 r21 g21 b21 r22 g22 b22 r23 g23 b23 r24 g24 b24 r25 g25 b25 r26 g26 b26 r27 g27 b27 a3 h3 a5 h5 a6 h6 a8 h8 a19 h19 a20 h20 a21 h21 a35 h35 a36 h36 a37 h37 a38 h38 a39 h39 a40 h40 f0 f1 f2 f3 f4 f5 f6 f7 f8 f9 f10 f11 f12 f13 f14 f15 f16 f17 f18 f19 f20 f21 f22 f23 f24 tt
  clear f4 f7 f13
  have e97 : PT 97 = P_br := pe97_5 hp
  simp only [hF0, hF2, hF3, hF4, hF6, hF9, hF16, hF20, hF21, hFp_97, e97, P_br, den_s, den_c, Int.add_zero, List.map_cons, List.map_nil, g8.eq, g13.eq, g14.eq, g15.eq, g16.eq, g17.eq, g18.eq, g19.eq, g20.eq, g21.eq, g22.eq, g23.eq, g24.eq, g25.eq, g26.eq, g27.eq, h3, h5, h6, h8, h19, h20, h21, h35, h36, h37, h38, h39, h40] at f0 f1 f2 f3 f5 f6 f8 f9 f10 f11 f12 f14 f15 f16 f17 f18 f19 f20 f21 f22 f23 f24 ⊢
  subst f0
  subst f1
  subst f2
  subst f3
  subst f5
  subst f6
  subst f8
  subst f9
  subst f10
  subst f11
  subst f14
  subst f15
  subst f16
  subst f17
  subst f19
  subst f21
  first
    | omega
    | (rw [show r8 = r14 by omega]; exact f23)
    | (rw [foldI_s (by omega), ← f23]; unfold brS; (try dsimp only); rw [if_neg (by omega)]; done)
    | (rw [foldI_s (by omega), ← f23]; unfold brS; (try dsimp only); rw [if_pos (by omega)]; unfold chF clF lnF; (try dsimp only); (repeat' (first | rfl | (exfalso; omega) | split)); done))
def w_breaks_1_16 : VC := (([(0, 23), (0, 49), (0, 8), (0, 10), (0, 8), (0, 6), (0, 6), (0, 8), (1, 11), (0, 9), ((-2147483648), 2147483647), ((-2147483648), 2147483647), (0, 5), (0, 23), (0, 10), (0, 23), (1, 1), (0, 7), (0, 7), (1, 1), (0, 9), (0, 18), ((-18), 0), (0, 1), (0, 99), ((-18), (-1)), ((-2147483648), 2147483647), ((-2147483648), 2147483647)]), [(21, [(some 17, 0), (some 27, 0)], [40, 36]), (16, [(some 27, 0), (some 26, 0), (none, 1)], []), (20, [(some 26, 0), (some 17, 0)], [36]), (21, [(some 17, 0), (none, 0)], [39, 35]), (2, [(some 25, 0), (none, 0)], []), (4, [(some 25, 0), (some 24, 0), (some 22, 0)], []), (20, [(some 24, 0), (some 17, 0)], [35]), (1, [(some 23, 0), (none, 2)], []), (20, [(some 23, 0), (some 17, 0)], [3]), (9, [(some 22, 0), (some 21, 0)], []), (6, [(some 21, 0), (none, 2), (some 20, 0)], []), (20, [(some 20, 0), (some 14, 0)], [6]), (0, [(some 19, 0), (none, 1)], []), (1, [(some 19, 0), (none, 0)], []), (20, [(some 19, 0), (some 18, 0)], [3]), (20, [(some 18, 0), (some 14, 0)], [5]), (21, [(some 14, 0), (none, 3)], [38, 37]), (20, [(some 17, 0), (some 14, 0)], [5]), (0, [(some 16, 0), (none, 1)], []), (20, [(some 16, 0), (some 14, 0)], [37]), (0, [(some 15, 0), (some 13, 0)], []), (20, [(some 15, 0), (some 14, 0)], [8]), (2, [(some 14, 0), (some 8, 0)], []), (97, [(some 14, 0), (some 13, 0)], [3, 5, 6, 8, 19, 20, 21, 35, 36, 37]), (3, [(some 8, 0), (some 14, 0)], [])], (3, [(some 8, 0), (some 14, 1)], []))
set_option maxRecDepth 20000 in
theorem v_breaks_1_16 {PT : PTy} (hp : HP5 PT) : vcOk PT w_breaks_1_16 := vc_iv [(8, 1, 11), (13, 0, 23), (14, 0, 10), (15, 0, 23), (16, 1, 1), (17, 0, 7), (18, 0, 7), (19, 1, 1), (20, 0, 9), (21, 0, 18), (22, (-18), 0), (23, 0, 1), (24, 0, 99), (25, (-18), (-1)), (26, (-2147483648), 2147483647), (27, (-2147483648), 2147483647)] [3, 5, 6, 8, 19, 20, 21, 35, 36, 37, 38, 39, 40] (by decide +kernel) (fun ρ α => by
  intro r8 g8 b8 r13 g13 b13 r14 g14 b14 r15 g15 b15 r16 g16 b16 r17 g17 b17 r18 g18 b18 r19 g19 b19 r20 g20 b20 r21 g21 b21 r22 g22 b22 r23 g23 b23 r24 g24 b24 r25 g25 b25 r26 g26 b26 r27 g27 b27 a3 h3 a5 h5 a6 h6 a8 h8 a19 h19 a20 h20 a21 h21 a35 h35 a36 h36 a37 h37 a38 h38 a39 h39 a40 h40 f0 f1 f2 f3 f4 f5 f6 f7 f8 f9 f10 f11 f12 f13 f14 f15 f16 f17 f18 f19 f20 f21 f22 f23 f24 tt
  clear f4 f7 f13
  have e97 : PT 97 = P_br := pe97_5 hp
  simp only [hF0, hF2, hF3, hF4, hF6, hF9, hF16, hF20, hF21, hFp_97, e97, P_br, den_s, den_c, Int.add_zero, List.map_cons, List.map_nil, g8.eq, g13.eq, g14.eq, g15.eq, g16.eq, g17.eq, g18.eq, g19.eq, g20.eq, g21.eq, g22.eq, g23.eq, g24.eq, g25.eq, g26.eq, g27.eq, h3, h5, h6, h8, h19, h20, h21, h35, h36, h37, h38, h39, h40] at f0 f1 f2 f3 f5 f6 f8 f9 f10 f11 f12 f14 f15 f16 f17 f18 f19 f20 f21 f22 f23 f24 ⊢
  subst f0
  subst f1
  subst f2
  subst f3
  subst f5
  subst f6
  subst f8
  subst f9
  subst f10
  subst f11
  subst f14
  subst f15
  subst f16
  subst f17
  subst f19
  subst f21
  first
    | omega
    | (rw [show r8 = r14 by omega]; exact f23)
    | (rw [foldI_s (by omega), ← f23]; unfold brS; (try dsimp only); rw [if_neg (by omega)]; done)
    | (rw [foldI_s (by omega), ← f23]; unfold brS; (try dsimp only); rw [if_pos (by omega)]; unfold chF clF lnF; (try dsimp only); (repeat' (first | rfl | (exfalso; omega) | split)); done))
def w_breaks_1_17 : VC := (([(0, 23), (0, 49), (0, 8), (0, 10), (0, 8), (0, 6), (0, 6), (0, 8), (1, 11), (0, 9), ((-2147483648), 2147483647), ((-2147483648), 2147483647), (0, 5), (0, 23), (0, 10), (0, 23), (1, 1), (0, 7), (0, 7), (1, 1), (0, 9), (0, 18), ((-18), 0), (2, 2), (0, 99), (0, 97), ((-2147483648), 2147483647), ((-2147483648), 2147483647)]), [(21, [(some 17, 0), (some 27, 0)], [40, 36]), (16, [(some 27, 0), (some 26, 0), (none, 1)], []), (20, [(some 26, 0), (some 17, 0)], [36]), (21, [(some 17, 0), (some 25, 0)], [39, 35]), (3, [(none, 99), (some 25, 0)], []), (3, [(some 25, 0), (none, 0)], []), (4, [(some 25, 0), (some 24, 0), (some 22, (-2))], []), (20, [(some 24, 0), (some 17, 0)], [35]), (0, [(some 23, 0), (none, 2)], []), (20, [(some 23, 0), (some 17, 0)], [3]), (9, [(some 22, 0), (some 21, 0)], []), (6, [(some 21, 0), (none, 2), (some 20, 0)], []), (20, [(some 20, 0), (some 14, 0)], [6]), (0, [(some 19, 0), (none, 1)], []), (1, [(some 19, 0), (none, 0)], []), (20, [(some 19, 0), (some 18, 0)], [3]), (20, [(some 18, 0), (some 14, 0)], [5]), (21, [(some 14, 0), (none, 3)], [38, 37]), (20, [(some 17, 0), (some 14, 0)], [5]), (0, [(some 16, 0), (none, 1)], []), (20, [(some 16, 0), (some 14, 0)], [37]), (0, [(some 15, 0), (some 13, 0)], []), (20, [(some 15, 0), (some 14, 0)], [8]), (2, [(some 14, 0), (some 8, 0)], []), (97, [(some 14, 0), (some 13, 0)], [3, 5, 6, 8, 19, 20, 21, 35, 36, 37]), (3, [(some 8, 0), (some 14, 0)], [])], (97, [(some 14, 1), (some 13, 0)], [3, 5, 6, 8, 19, 20, 21, 39, 40, 38]))
set_option maxRecDepth 20000 in
theorem v_breaks_1_17 {PT : PTy} (hp : HP5 PT) : vcOk PT w_breaks_1_17 := vc_iv [(8, 1, 11), (13, 0, 23), (14, 0, 10), (15, 0, 23), (16, 1, 1), (17, 0, 7), (18, 0, 7), (19, 1, 1), (20, 0, 9), (21, 0, 18), (22, (-18), 0), (23, 2, 2), (24, 0, 99), (25, 0, 97), (26, (-2147483648), 2147483647), (27, (-2147483648), 2147483647)] [3, 5, 6, 8, 19, 20, 21, 35, 36, 37, 38, 39, 40] (by decide +kernel) (fun ρ α => by
  intro r8 g8 b8 r13 g13 b13 r14 g14 b14 r15 g15 b15 r16 g16 b16 r17 g17 b17 r18 g18 b18 r19 g19 b19 r20 g20 b20 r21 g21 b21 r22 g22 b22 r23 g23 b23 r24 g24 b24 r25 g25 b25 r26 g26 b26 r27 g27 b27 a3 h3 a5 h5 a6 h6 a8 h8 a19 h19 a20 h20 a21 h21 a35 h35 a36 h36 a37 h37 a38 h38 a39 h39 a40 h40 f0 f1 f2 f3 f4 f5 f6 f7 f8 f9 f10 f11 f12 f13 f14 f15 f16 f17 f18 f19 f20 f21 f22 f23 f24 f25 tt
  clear f4 f5 f14
  have e97 : PT 97 = P_br := pe97_5 hp
  simp only [hF0, hF2, hF3, hF4, hF6, hF9, hF16, hF20, hF21, hFp_97, e97, P_br, den_s, den_c, Int.add_zero, List.map_cons, List.map_nil, g8.eq, g13.eq, g14.eq, g15.eq, g16.eq, g17.eq, g18.eq, g19.eq, g20.eq, g21.eq, g22.eq, g23.eq, g24.eq, g25.eq, g26.eq, g27.eq, h3, h5, h6, h8, h19, h20, h21, h35, h36, h37, h38, h39, h40] at f0 f1 f2 f3 f6 f7 f8 f9 f10 f11 f12 f13 f15 f16 f17 f18 f19 f20 f21 f22 f23 f24 f25 ⊢
  subst f0
  subst f1
  subst f2
  subst f3
  subst f6
  subst f7
  subst f9
  subst f10
  subst f11
  subst f12
  subst f15
  subst f16
  subst f17
  subst f18
  subst f20
  subst f22
  first
    | omega
    | (rw [show r8 = r14 by omega]; exact f24)
    | (rw [foldI_s (by omega), ← f24]; unfold brS; (try dsimp only); rw [if_neg (by omega)]; done)
    | (rw [foldI_s (by omega), ← f24]; unfold brS; (try dsimp only); rw [if_pos (by omega)]; unfold chF clF lnF; (try dsimp only); (repeat' (first | rfl | (exfalso; omega) | split)); done))
def w_breaks_1_18 : VC := (([(0, 23), (0, 49), (0, 8), (0, 10), (0, 8), (0, 6), (0, 6), (0, 8), (1, 11), (0, 9), ((-2147483648), 2147483647), ((-2147483648), 2147483647), (0, 5), (0, 23), (0, 10), (0, 23), (1, 1), (0, 7), (0, 7), (1, 1), (0, 9), (0, 18), ((-18), 0), (2, 2), (0, 99), (0, 97), ((-2147483648), 2147483647), ((-2147483648), 2147483647)]), [(21, [(some 17, 0), (some 27, 0)], [40, 36]), (16, [(some 27, 0), (some 26, 0), (none, 1)], []), (20, [(some 26, 0), (some 17, 0)], [36]), (21, [(some 17, 0), (some 25, 0)], [39, 35]), (3, [(none, 99), (some 25, 0)], []), (3, [(some 25, 0), (none, 0)], []), (4, [(some 25, 0), (some 24, 0), (some 22, (-2))], []), (20, [(some 24, 0), (some 17, 0)], [35]), (0, [(some 23, 0), (none, 2)], []), (20, [(some 23, 0), (some 17, 0)], [3]), (9, [(some 22, 0), (some 21, 0)], []), (6, [(some 21, 0), (none, 2), (some 20, 0)], []), (20, [(some 20, 0), (some 14, 0)], [6]), (0, [(some 19, 0), (none, 1)], []), (1, [(some 19, 0), (none, 0)], []), (20, [(some 19, 0), (some 18, 0)], [3]), (20, [(some 18, 0), (some 14, 0)], [5]), (21, [(some 14, 0), (none, 3)], [38, 37]), (20, [(some 17, 0), (some 14, 0)], [5]), (0, [(some 16, 0), (none, 1)], []), (20, [(some 16, 0), (some 14, 0)], [37]), (0, [(some 15, 0), (some 13, 0)], []), (20, [(some 15, 0), (some 14, 0)], [8]), (2, [(some 14, 0), (some 8, 0)], []), (97, [(some 14, 0), (some 13, 0)], [3, 5, 6, 8, 19, 20, 21, 35, 36, 37]), (3, [(some 8, 0), (some 14, 0)], [])], (3, [(some 8, 0), (some 14, 1)], []))
set_option maxRecDepth 20000 in
theorem v_breaks_1_18 {PT : PTy} (hp : HP5 PT) : vcOk PT w_breaks_1_18 := vc_iv [(8, 1, 11), (13, 0, 23), (14, 0, 10), (15, 0, 23), (16, 1, 1), (17, 0, 7), (18, 0, 7), (19, 1, 1), (20, 0, 9), (21, 0, 18), (22, (-18), 0), (23, 2, 2), (24, 0, 99), (25, 0, 97), (26, (-2147483648), 2147483647), (27, (-2147483648), 2147483647)] [3, 5, 6, 8, 19, 20, 21, 35, 36, 37, 38, 39, 40] (by decide +kernel) (fun ρ α => by
  intro r8 g8 b8 r13 g13 b13 r14 g14 b14 r15 g15 b15 r16 g16 b16 r17 g17 b17 r18 g18 b18 r19 g19 b19 r20 g20 b20 r21 g21 b21 r22 g22 b22 r23 g23 b23 r24 g24 b24 r25 g25 b25 r26 g26 b26 r27 g27 b27 a3 h3 a5 h5 a6 h6 a8 h8 a19 h19 a20 h20 a21 h21 a35 h35 a36 h36 a37 h37 a38 h38 a39 h39 a40 h40 f0 f1 f2 f3 f4 f5 f6 f7 f8 f9 f10 f11 f12 f13 f14 f15 f16 f17 f18 f19 f20 f21 f22 f23 f24 f25 tt
  clear f4 f5 f14
  have e97 : PT 97 = P_br := pe97_5 hp
  simp only [hF0, hF2, hF3, hF4, hF6, hF9, hF16, hF20, hF21, hFp_97, e97, P_br, den_s, den_c, Int.add_zero, List.map_cons, List.map_nil, g8.eq, g13.eq, g14.eq, g15.eq, g16.eq, g17.eq, g18.eq, g19.eq, g20.eq, g21.eq, g22.eq, g23.eq, g24.eq, g25.eq, g26.eq, g27.eq, h3, h5, h6, h8, h19, h20, h21, h35, h36, h37, h38, h39, h40] at f0 f1 f2 f3 f6 f7 f8 f9 f10 f11 f12 f13 f15 f16 f17 f18 f19 f20 f21 f22 f23 f24 f25 ⊢
  subst f0
  subst f1
  subst f2
  subst f3
  subst f6
  subst f7
  subst f9
  subst f10
  subst f11
  subst f12
  subst f15
  subst f16
  subst f17
  subst f18
  subst f20
  subst f22
  first
    | omega
    | (rw [show r8 = r14 by omega]; exact f24)
    | (rw [foldI_s (by omega), ← f24]; unfold brS; (try dsimp only); rw [if_neg (by omega)]; done)
    | (rw [foldI_s (by omega), ← f24]; unfold brS; (try dsimp only); rw [if_pos (by omega)]; unfold chF clF lnF; (try dsimp only); (repeat' (first | rfl | (exfalso; omega) | split)); done))
def w_breaks_1_19 : VC := (([(0, 23), (0, 49), (0, 8), (0, 10), (0, 8), (0, 6), (0, 6), (0, 8), (1, 11), (0, 9), ((-2147483648), 2147483647), ((-2147483648), 2147483647), (0, 5), (0, 23), (0, 10), (0, 23), (1, 1), (0, 7), (0, 7), (1, 1), (0, 9), (0, 18), ((-18), 0), (2, 2), (0, 99), ((-20), (-1)), ((-2147483648), 2147483647), ((-2147483648), 2147483647)]), [(21, [(some 17, 0), (some 27, 0)], [40, 36]), (16, [(some 27, 0), (some 26, 0), (none, 1)], []), (20, [(some 26, 0), (some 17, 0)], [36]), (21, [(some 17, 0), (none, 0)], [39, 35]), (2, [(some 25, 0), (none, 0)], []), (4, [(some 25, 0), (some 24, 0), (some 22, (-2))], []), (20, [(some 24, 0), (some 17, 0)], [35]), (0, [(some 23, 0), (none, 2)], []), (20, [(some 23, 0), (some 17, 0)], [3]), (9, [(some 22, 0), (some 21, 0)], []), (6, [(some 21, 0), (none, 2), (some 20, 0)], []), (20, [(some 20, 0), (some 14, 0)], [6]), (0, [(some 19, 0), (none, 1)], []), (1, [(some 19, 0), (none, 0)], []), (20, [(some 19, 0), (some 18, 0)], [3]), (20, [(some 18, 0), (some 14, 0)], [5]), (21, [(some 14, 0), (none, 3)], [38, 37]), (20, [(some 17, 0), (some 14, 0)], [5]), (0, [(some 16, 0), (none, 1)], []), (20, [(some 16, 0), (some 14, 0)], [37]), (0, [(some 15, 0), (some 13, 0)], []), (20, [(some 15, 0), (some 14, 0)], [8]), (2, [(some 14, 0), (some 8, 0)], []), (97, [(some 14, 0), (some 13, 0)], [3, 5, 6, 8, 19, 20, 21, 35, 36, 37]), (3, [(some 8, 0), (some 14, 0)], [])], (97, [(some 14, 1), (some 13, 0)], [3, 5, 6, 8, 19, 20, 21, 39, 40, 38]))
set_option maxRecDepth 20000 in
theorem v_breaks_1_19 {PT : PTy} (hp : HP5 PT) : vcOk PT w_breaks_1_19 := vc_iv [(8, 1, 11), (13, 0, 23), (14, 0, 10), (15, 0, 23), (16, 1, 1), (17, 0, 7), (18, 0, 7), (19, 1, 1), (20, 0, 9), (21, 0, 18), (22, (-18), 0), (23, 2, 2), (24, 0, 99), (25, (-20), (-1)), (26, (-2147483648), 2147483647), (27, (-2147483648), 2147483647)] [3, 5, 6, 8, 19, 20, 21, 35, 36, 37, 38, 39, 40] (by decide +kernel) (fun ρ α => by
  intro r8 g8 b8 r13 g13 b13 r14 g14 b14 r15 g15 b15 r16 g16 b16 r17 g17 b17 r18 g18 b18 r19 g19 b19 r20 g20 b20 r21 g21 b21 r22 g22 b22 r23 g23 b23 r24 g24 b24 r25 g25 b25 r26 g26 b26 r27 g27 b27 a3 h3 a5 h5 a6 h6 a8 h8 a19 h19 a20 h20 a21 h21 a35 h35 a36 h36 a37 h37 a38 h38 a39 h39 a40 h40 f0 f1 f2 f3 f4 f5 f6 f7 f8 f9 f10 f11 f12 f13 f14 f15 f16 f17 f18 f19 f20 f21 f22 f23 f24 tt
  clear f4 f13
  have e97 : PT 97 = P_br := pe97_5 hp
  simp only [hF0, hF2, hF3, hF4, hF6, hF9, hF16, hF20, hF21, hFp_97, e97, P_br, den_s, den_c, Int.add_zero, List.map_cons, List.map_nil, g8.eq, g13.eq, g14.eq, g15.eq, g16.eq, g17.eq, g18.eq, g19.eq, g20.eq, g21.eq, g22.eq, g23.eq, g24.eq, g25.eq, g26.eq, g27.eq, h3, h5, h6, h8, h19, h20, h21, h35, h36, h37, h38, h39, h40] at f0 f1 f2 f3 f5 f6 f7 f8 f9 f10 f11 f12 f14 f15 f16 f17 f18 f19 f20 f21 f22 f23 f24 ⊢
  subst f0
  subst f1
  subst f2
  subst f3
  subst f5
  subst f6
  subst f8
  subst f9
  subst f10
  subst f11
  subst f14
  subst f15
  subst f16
  subst f17
  subst f19
  subst f21
  first
    | omega
    | (rw [show r8 = r14 by omega]; exact f23)
    | (rw [foldI_s (by omega), ← f23]; unfold brS; (try dsimp only); rw [if_neg (by omega)]; done)
    | (rw [foldI_s (by omega), ← f23]; unfold brS; (try dsimp only); rw [if_pos (by omega)]; unfold chF clF lnF; (try dsimp only); (repeat' (first | rfl | (exfalso; omega) | split)); done))
def w_breaks_1_20 : VC := (([(0, 23), (0, 49), (0, 8), (0, 10), (0, 8), (0, 6), (0, 6), (0, 8), (1, 11), (0, 9), ((-2147483648), 2147483647), ((-2147483648), 2147483647), (0, 5), (0, 23), (0, 10), (0, 23), (1, 1), (0, 7), (0, 7), (1, 1), (0, 9), (0, 18), ((-18), 0), (2, 2), (0, 99), ((-20), (-1)), ((-2147483648), 2147483647), ((-2147483648), 2147483647)]), [(21, [(some 17, 0), (some 27, 0)], [40, 36]), (16, [(some 27, 0), (some 26, 0), (none, 1)], []), (20, [(some 26, 0), (some 17, 0)], [36]), (21, [(some 17, 0), (none, 0)], [39, 35]), (2, [(some 25, 0), (none, 0)], []), (4, [(some 25, 0), (some 24, 0), (some 22, (-2))], []), (20, [(some 24, 0), (some 17, 0)], [35]), (0, [(some 23, 0), (none, 2)], []), (20, [(some 23, 0), (some 17, 0)], [3]), (9, [(some 22, 0), (some 21, 0)], []), (6, [(some 21, 0), (none, 2), (some 20, 0)], []), (20, [(some 20, 0), (some 14, 0)], [6]), (0, [(some 19, 0), (none, 1)], []), (1, [(some 19, 0), (none, 0)], []), (20, [(some 19, 0), (some 18, 0)], [3]), (20, [(some 18, 0), (some 14, 0)], [5]), (21, [(some 14, 0), (none, 3)], [38, 37]), (20, [(some 17, 0), (some 14, 0)], [5]), (0, [(some 16, 0), (none, 1)], []), (20, [(some 16, 0), (some 14, 0)], [37]), (0, [(some 15, 0), (some 13, 0)], []), (20, [(some 15, 0), (some 14, 0)], [8]), (2, [(some 14, 0), (some 8, 0)], []), (97, [(some 14, 0), (some 13, 0)], [3, 5, 6, 8, 19, 20, 21, 35, 36, 37]), (3, [(some 8, 0), (some 14, 0)], [])], (3, [(some 8, 0), (some 14, 1)], []))
set_option maxRecDepth 20000 in
theorem v_breaks_1_20 {PT : PTy} (hp : HP5 PT) : vcOk PT w_breaks_1_20 := vc_iv [(8, 1, 11), (13, 0, 23), (14, 0, 10), (15, 0, 23), (16, 1, 1), (17, 0, 7), (18, 0, 7), (19, 1, 1), (20, 0, 9), (21, 0, 18), (22, (-18), 0), (23, 2, 2), (24, 0, 99), (25, (-20), (-1)), (26, (-2147483648), 2147483647), (27, (-2147483648), 2147483647)] [3, 5, 6, 8, 19, 20, 21, 35, 36, 37, 38, 39, 40] (by decide +kernel) (fun ρ α => by
  intro r8 g8 b8 r13 g13 b13 r14 g14 b14 r15 g15 b15 r16 g16 b16 r17 g17 b17 r18 g18 b18 r19 g19 b19 r20 g20 b20 r21 g21 b21 r22 g22 b22 r23 g23 b23 r24 g24 b24 r25 g25 b25 r26 g26 b26 r27 g27 b27 a3 h3 a5 h5 a6 h6 a8 h8 a19 h19 a20 h20 a21 h21 a35 h35 a36 h36 a37 h37 a38 h38 a39 h39 a40 h40 f0 f1 f2 f3 f4 f5 f6 f7 f8 f9 f10 f11 f12 f13 f14 f15 f16 f17 f18 f19 f20 f21 f22 f23 f24 tt
  clear f4 f13
  have e97 : PT 97 = P_br := pe97_5 hp
  simp only [hF0, hF2, hF3, hF4, hF6, hF9, hF16, hF20, hF21, hFp_97, e97, P_br, den_s, den_c, Int.add_zero, List.map_cons, List.map_nil, g8.eq, g13.eq, g14.eq, g15.eq, g16.eq, g17.eq, g18.eq, g19.eq, g20.eq, g21.eq, g22.eq, g23.eq, g24.eq, g25.eq, g26.eq, g27.eq, h3, h5, h6, h8, h19, h20, h21, h35, h36, h37, h38, h39, h40] at f0 f1 f2 f3 f5 f6 f7 f8 f9 f10 f11 f12 f14 f15 f16 f17 f18 f19 f20 f21 f22 f23 f24 ⊢
  subst f0
  subst f1
  subst f2
  subst f3
  subst f5
  subst f6
  subst f8
  subst f9
  subst f10
  subst f11
  subst f14
  subst f15
  subst f16
  subst f17
  subst f19
  subst f21
  first
    | omega
    | (rw [show r8 = r14 by omega]; exact f23)
    | (rw [foldI_s (by omega), ← f23]; unfold brS; (try dsimp only); rw [if_neg (by omega)]; done)
    | (rw [foldI_s (by omega), ← f23]; unfold brS; (try dsimp only); rw [if_pos (by omega)]; unfold chF clF lnF; (try dsimp only); (repeat' (first | rfl | (exfalso; omega) | split)); done))
def w_breaks_1_21 : VC := (([(0, 23), (0, 49), (0, 8), (0, 10), (0, 8), (0, 6), (0, 6), (0, 8), (1, 11), (0, 9), ((-2147483648), 2147483647), ((-2147483648), 2147483647), (0, 5), (0, 23), (0, 10), (0, 23), (1, 1), (0, 7), (0, 7), (0, 0), (0, 9), (0, 9), ((-9), 0), (0, 1), (0, 99), (0, 99), ((-2147483648), 2147483647), ((-2147483648), 2147483647)]), [(21, [(some 17, 0), (some 27, 0)], [40, 36]), (16, [(some 27, 0), (some 26, 0), (none, 1)], []), (20, [(some 26, 0), (some 17, 0)], [36]), (21, [(some 17, 0), (some 25, 0)], [39, 35]), (3, [(none, 99), (some 25, 0)], []), (3, [(some 25, 0), (none, 0)], []), (4, [(some 25, 0), (some 24, 0), (some 22, 0)], []), (20, [(some 24, 0), (some 17, 0)], [35]), (1, [(some 23, 0), (none, 2)], []), (20, [(some 23, 0), (some 17, 0)], [3]), (9, [(some 22, 0), (some 21, 0)], []), (7, [(some 21, 0), (some 20, 0), (none, 2)], []), (20, [(some 20, 0), (some 14, 0)], [6]), (0, [(some 19, 0), (none, 0)], []), (20, [(some 19, 0), (some 18, 0)], [3]), (20, [(some 18, 0), (some 14, 0)], [5]), (21, [(some 14, 0), (none, 3)], [38, 37]), (20, [(some 17, 0), (some 14, 0)], [5]), (0, [(some 16, 0), (none, 1)], []), (20, [(some 16, 0), (some 14, 0)], [37]), (0, [(some 15, 0), (some 13, 0)], []), (20, [(some 15, 0), (some 14, 0)], [8]), (2, [(some 14, 0), (some 8, 0)], []), (97, [(some 14, 0), (some 13, 0)], [3, 5, 6, 8, 19, 20, 21, 35, 36, 37]), (3, [(some 8, 0), (some 14, 0)], [])], (97, [(some 14, 1), (some 13, 0)], [3, 5, 6, 8, 19, 20, 21, 39, 40, 38]))
set_option maxRecDepth 20000 in
theorem v_breaks_1_21 {PT : PTy} (hp : HP5 PT) : vcOk PT w_breaks_1_21 := vc_iv [(8, 1, 11), (13, 0, 23), (14, 0, 10), (15, 0, 23), (16, 1, 1), (17, 0, 7), (18, 0, 7), (19, 0, 0), (20, 0, 9), (21, 0, 9), (22, (-9), 0), (23, 0, 1), (24, 0, 99), (25, 0, 99), (26, (-2147483648), 2147483647), (27, (-2147483648), 2147483647)] [3, 5, 6, 8, 19, 20, 21, 35, 36, 37, 38, 39, 40] (by decide +kernel) (fun ρ α => by
  intro r8 g8 b8 r13 g13 b13 r14 g14 b14 r15 g15 b15 r16 g16 b16 r17 g17 b17 r18 g18 b18 r19 g19 b19 r20 g20 b20 r21 g21 b21 r22 g22 b22 r23 g23 b23 r24 g24 b24 r25 g25 b25 r26 g26 b26 r27 g27 b27 a3 h3 a5 h5 a6 h6 a8 h8 a19 h19 a20 h20 a21 h21 a35 h35 a36 h36 a37 h37 a38 h38 a39 h39 a40 h40 f0 f1 f2 f3 f4 f5 f6 f7 f8 f9 f10 f11 f12 f13 f14 f15 f16 f17 f18 f19 f20 f21 f22 f23 f24 tt
  clear f4 f5 f8
  have e97 : PT 97 = P_br := pe97_5 hp
  simp only [hF0, hF2, hF3, hF4, hF7, hF9, hF16, hF20, hF21, hFp_97, e97, P_br, den_s, den_c, Int.add_zero, List.map_cons, List.map_nil, g8.eq, g13.eq, g14.eq, g15.eq, g16.eq, g17.eq, g18.eq, g19.eq, g20.eq, g21.eq, g22.eq, g23.eq, g24.eq, g25.eq, g26.eq, g27.eq, h3, h5, h6, h8, h19, h20, h21, h35, h36, h37, h38, h39, h40] at f0 f1 f2 f3 f6 f7 f9 f10 f11 f12 f13 f14 f15 f16 f17 f18 f19 f20 f21 f22 f23 f24 ⊢
  subst f0
  subst f1
  subst f2
  subst f3
  subst f6
  subst f7
  subst f9
  subst f10
  subst f11
  subst f12
  subst f14
  subst f15
  subst f16
  subst f17
  subst f19
  subst f21
  first
    | omega
    | (rw [show r8 = r14 by omega]; exact f23)
    | (rw [foldI_s (by omega), ← f23]; unfold brS; (try dsimp only); rw [if_neg (by omega)]; done)
    | (rw [foldI_s (by omega), ← f23]; unfold brS; (try dsimp only); rw [if_pos (by omega)]; unfold chF clF lnF; (try dsimp only); (repeat' (first | rfl | (exfalso; omega) | split)); done))
def w_breaks_1_22 : VC := (([(0, 23), (0, 49), (0, 8), (0, 10), (0, 8), (0, 6), (0, 6), (0, 8), (1, 11), (0, 9), ((-2147483648), 2147483647), ((-2147483648), 2147483647), (0, 5), (0, 23), (0, 10), (0, 23), (1, 1), (0, 7), (0, 7), (0, 0), (0, 9), (0, 9), ((-9), 0), (0, 1), (0, 99), (0, 99), ((-2147483648), 2147483647), ((-2147483648), 2147483647)]), [(21, [(some 17, 0), (some 27, 0)], [40, 36]), (16, [(some 27, 0), (some 26, 0), (none, 1)], []), (20, [(some 26, 0), (some 17, 0)], [36]), (21, [(some 17, 0), (some 25, 0)], [39, 35]), (3, [(none, 99), (some 25, 0)], []), (3, [(some 25, 0), (none, 0)], []), (4, [(some 25, 0), (some 24, 0), (some 22, 0)], []), (20, [(some 24, 0), (some 17, 0)], [35]), (1, [(some 23, 0), (none, 2)], []), (20, [(some 23, 0), (some 17, 0)], [3]), (9, [(some 22, 0), (some 21, 0)], []), (7, [(some 21, 0), (some 20, 0), (none, 2)], []), (20, [(some 20, 0), (some 14, 0)], [6]), (0, [(some 19, 0), (none, 0)], []), (20, [(some 19, 0), (some 18, 0)], [3]), (20, [(some 18, 0), (some 14, 0)], [5]), (21, [(some 14, 0), (none, 3)], [38, 37]), (20, [(some 17, 0), (some 14, 0)], [5]), (0, [(some 16, 0), (none, 1)], []), (20, [(some 16, 0), (some 14, 0)], [37]), (0, [(some 15, 0), (some 13, 0)], []), (20, [(some 15, 0), (some 14, 0)], [8]), (2, [(some 14, 0), (some 8, 0)], []), (97, [(some 14, 0), (some 13, 0)], [3, 5, 6, 8, 19, 20, 21, 35, 36, 37]), (3, [(some 8, 0), (some 14, 0)], [])], (3, [(some 8, 0), (some 14, 1)], []))
set_option maxRecDepth 20000 in
theorem v_breaks_1_22 {PT : PTy} (hp : HP5 PT) : vcOk PT w_breaks_1_22 := vc_iv [(8, 1, 11), (13, 0, 23), (14, 0, 10), (15, 0, 23), (16, 1, 1), (17, 0, 7), (18, 0, 7), (19, 0, 0), (20, 0, 9), (21, 0, 9), (22, (-9), 0), (23, 0, 1), (24, 0, 99), (25, 0, 99), (26, (-2147483648), 2147483647), (27, (-2147483648), 2147483647)] [3, 5, 6, 8, 19, 20, 21, 35, 36, 37, 38, 39, 40] (by decide +kernel) (fun ρ α => by
  intro r8 g8 b8 r13 g13 b13 r14 g14 b14 r15 g15 b15 r16 g16 b16 r17 g17 b17 r18 g18 b18 r19 g19 b19 r20 g20 b20 r21 g21 b21 r22 g22 b22 r23 g23 b23 r24 g24 b24 r25 g25 b25 r26 g26 b26 r27 g27 b27 a3 h3 a5 h5 a6 h6 a8 h8 a19 h19 a20 h20 a21 h21 a35 h35 a36 h36 a37 h37 a38 h38 a39 h39 a40 h40 f0 f1 f2 f3 f4 f5 f6 f7 f8 f9 f10 f11 f12 f13 f14 f15 f16 f17 f18 f19 f20 f21 f22 f23 f24 tt
  clear f4 f5 f8
  have e97 : PT 97 = P_br := pe97_5 hp
  simp only [hF0, hF2, hF3, hF4, hF7, hF9, hF16, hF20, hF21, hFp_97, e97, P_br, den_s, den_c, Int.add_zero, List.map_cons, List.map_nil, g8.eq, g13.eq, g14.eq, g15.eq, g16.eq, g17.eq, g18.eq, g19.eq, g20.eq, g21.eq, g22.eq, g23.eq, g24.eq, g25.eq, g26.eq, g27.eq, h3, h5, h6, h8, h19, h20, h21, h35, h36, h37, h38, h39, h40] at f0 f1 f2 f3 f6 f7 f9 f10 f11 f12 f13 f14 f15 f16 f17 f18 f19 f20 f21 f22 f23 f24 ⊢
  subst f0
  subst f1
  subst f2
  subst f3
  subst f6
  subst f7
  subst f9
  subst f10
  subst f11
  subst f12
  subst f14
  subst f15
  subst f16
  subst f17
  subst f19
  subst f21
  first
    | omega
    | (rw [show r8 = r14 by omega]; exact f23)
    | (rw [foldI_s (by omega), ← f23]; unfold brS; (try dsimp only); rw [if_neg (by omega)]; done)
    | (rw [foldI_s (by omega), ← f23]; unfold brS; (try dsimp only); rw [if_pos (by omega)]; unfold chF clF lnF; (try dsimp only); (repeat' (first | rfl | (exfalso; omega) | split)); done))
def w_breaks_1_23 : VC := (([(0, 23), (0, 49), (0, 8), (0, 10), (0, 8), (0, 6), (0, 6), (0, 8), (1, 11), (0, 9), ((-2147483648), 2147483647), ((-2147483648), 2147483647), (0, 5), (0, 23), (0, 10), (0, 23), (1, 1), (0, 7), (0, 7), (0, 0), (0, 9), (0, 9), ((-9), 0), (0, 1), (0, 99), ((-9), (-1)), ((-2147483648), 2147483647), ((-2147483648), 2147483647)]), [(21, [(some 17, 0), (some 27, 0)], [40, 36]), (16, [(some 27, 0), (some 26, 0), (none, 1)], []), (20, [(some 26, 0), (some 17, 0)], [36]), (21, [(some 17, 0), (none, 0)], [39, 35]), (2, [(some 25, 0), (none, 0)], []), (4, [(some 25, 0), (some 24, 0), (some 22, 0)], []), (20, [(some 24, 0), (some 17, 0)], [35]), (1, [(some 23, 0), (none, 2)], []), (20, [(some 23, 0), (some 17, 0)], [3]), (9, [(some 22, 0), (some 21, 0)], []), (7, [(some 21, 0), (some 20, 0), (none, 2)], []), (20, [(some 20, 0), (some 14, 0)], [6]), (0, [(some 19, 0), (none, 0)], []), (20, [(some 19, 0), (some 18, 0)], [3]), (20, [(some 18, 0), (some 14, 0)], [5]), (21, [(some 14, 0), (none, 3)], [38, 37]), (20, [(some 17, 0), (some 14, 0)], [5]), (0, [(some 16, 0), (none, 1)], []), (20, [(some 16, 0), (some 14, 0)], [37]), (0, [(some 15, 0), (some 13, 0)], []), (20, [(some 15, 0), (some 14, 0)], [8]), (2, [(some 14, 0), (some 8, 0)], []), (97, [(some 14, 0), (some 13, 0)], [3, 5, 6, 8, 19, 20, 21, 35, 36, 37]), (3, [(some 8, 0), (some 14, 0)], [])], (97, [(some 14, 1), (some 13, 0)], [3, 5, 6, 8, 19, 20, 21, 39, 40, 38]))
set_option maxRecDepth 20000 in
theorem v_breaks_1_23 {PT : PTy} (hp : HP5 PT) : vcOk PT w_breaks_1_23 := vc_iv [(8, 1, 11), (13, 0, 23), (14, 0, 10), (15, 0, 23), (16, 1, 1), (17, 0, 7), (18, 0, 7), (19, 0, 0), (20, 0, 9), (21, 0, 9), (22, (-9), 0), (23, 0, 1), (24, 0, 99), (25, (-9), (-1)), (26, (-2147483648), 2147483647), (27, (-2147483648), 2147483647)] [3, 5, 6, 8, 19, 20, 21, 35, 36, 37, 38, 39, 40] (by decide +kernel) (fun ρ α => by
  intro r8 g8 b8 r13 g13 b13 r14 g14 b14 r15 g15 b15 r16 g16 b16 r17 g17 b17 r18 g18 b18 r19 g19 b19 r20 g20 b20 r21 g21 b21 r22 g22 b22 r23 g23 b23 r24 g24 b24 r25 g25 b25 r26 g26 b26 r27 g27 b27 a3 h3 a5 h5 a6 h6 a8 h8 a19 h19 a20 h20 a21 h21 a35 h35 a36 h36 a37 h37 a38 h38 a39 h39 a40 h40 f0 f1 f2 f3 f4 f5 f6 f7 f8 f9 f10 f11 f12 f13 f14 f15 f16 f17 f18 f19 f20 f21 f22 f23 tt
  clear f4 f7
  have e97 : PT 97 = P_br := pe97_5 hp
  simp only [hF0, hF2, hF3, hF4, hF7, hF9, hF16, hF20, hF21, hFp_97, e97, P_br, den_s, den_c, Int.add_zero, List.map_cons, List.map_nil, g8.eq, g13.eq, g14.eq, g15.eq, g16.eq, g17.eq, g18.eq, g19.eq, g20.eq, g21.eq, g22.eq, g23.eq, g24.eq, g25.eq, g26.eq, g27.eq, h3, h5, h6, h8, h19, h20, h21, h35, h36, h37, h38, h39, h40] at f0 f1 f2 f3 f5 f6 f8 f9 f10 f11 f12 f13 f14 f15 f16 f17 f18 f19 f20 f21 f22 f23 ⊢
  subst f0
  subst f1
  subst f2
  subst f3
  subst f5
  subst f6
  subst f8
  subst f9
  subst f10
  subst f11
  subst f13
  subst f14
  subst f15
  subst f16
  subst f18
  subst f20
  first
    | omega
    | (rw [show r8 = r14 by omega]; exact f22)
    | (rw [foldI_s (by omega), ← f22]; unfold brS; (try dsimp only); rw [if_neg (by omega)]; done)
    | (rw [foldI_s (by omega), ← f22]; unfold brS; (try dsimp only); rw [if_pos (by omega)]; unfold chF clF lnF; (try dsimp only); (repeat' (first | rfl | (exfalso; omega) | split)); done))
def w_breaks_1_24 : VC := (([(0, 23), (0, 49), (0, 8), (0, 10), (0, 8), (0, 6), (0, 6), (0, 8), (1, 11), (0, 9), ((-2147483648), 2147483647), ((-2147483648), 2147483647), (0, 5), (0, 23), (0, 10), (0, 23), (1, 1), (0, 7), (0, 7), (0, 0), (0, 9), (0, 9), ((-9), 0), (0, 1), (0, 99), ((-9), (-1)), ((-2147483648), 2147483647), ((-2147483648), 2147483647)]), [(21, [(some 17, 0), (some 27, 0)], [40, 36]), (16, [(some 27, 0), (some 26, 0), (none, 1)], []), (20, [(some 26, 0), (some 17, 0)], [36]), (21, [(some 17, 0), (none, 0)], [39, 35]), (2, [(some 25, 0), (none, 0)], []), (4, [(some 25, 0), (some 24, 0), (some 22, 0)], []), (20, [(some 24, 0), (some 17, 0)], [35]), (1, [(some 23, 0), (none, 2)], []), (20, [(some 23, 0), (some 17, 0)], [3]), (9, [(some 22, 0), (some 21, 0)], []), (7, [(some 21, 0), (some 20, 0), (none, 2)], []), (20, [(some 20, 0), (some 14, 0)], [6]), (0, [(some 19, 0), (none, 0)], []), (20, [(some 19, 0), (some 18, 0)], [3]), (20, [(some 18, 0), (some 14, 0)], [5]), (21, [(some 14, 0), (none, 3)], [38, 37]), (20, [(some 17, 0), (some 14, 0)], [5]), (0, [(some 16, 0), (none, 1)], []), (20, [(some 16, 0), (some 14, 0)], [37]), (0, [(some 15, 0), (some 13, 0)], []), (20, [(some 15, 0), (some 14, 0)], [8]), (2, [(some 14, 0), (some 8, 0)], []), (97, [(some 14, 0), (some 13, 0)], [3, 5, 6, 8, 19, 20, 21, 35, 36, 37]), (3, [(some 8, 0), (some 14, 0)], [])], (3, [(some 8, 0), (some 14, 1)], []))
set_option maxRecDepth 20000 in
theorem v_breaks_1_24 {PT : PTy} (hp : HP5 PT) : vcOk PT w_breaks_1_24 := vc_iv [(8, 1, 11), (13, 0, 23), (14, 0, 10), (15, 0, 23), (16, 1, 1), (17, 0, 7), (18, 0, 7), (19, 0, 0), (20, 0, 9), (21, 0, 9), (22, (-9), 0), (23, 0, 1), (24, 0, 99), (25, (-9), (-1)), (26, (-2147483648), 2147483647), (27, (-2147483648), 2147483647)] [3, 5, 6, 8, 19, 20, 21, 35, 36, 37, 38, 39, 40] (by decide +kernel) (fun ρ α => by
  intro r8 g8 b8 r13 g13 b13 r14 g14 b14 r15 g15 b15 r16 g16 b16 r17 g17 b17 r18 g18 b18 r19 g19 b19 r20 g20 b20 r21 g21 b21 r22 g22 b22 r23 g23 b23 r24 g24 b24 r25 g25 b25 r26 g26 b26 r27 g27 b27 a3 h3 a5 h5 a6 h6 a8 h8 a19 h19 a20 h20 a21 h21 a35 h35 a36 h36 a37 h37 a38 h38 a39 h39 a40 h40 f0 f1 f2 f3 f4 f5 f6 f7 f8 f9 f10 f11 f12 f13 f14 f15 f16 f17 f18 f19 f20 f21 f22 f23 tt
  clear f4 f7
  have e97 : PT 97 = P_br := pe97_5 hp
  simp only [hF0, hF2, hF3, hF4, hF7, hF9, hF16, hF20, hF21, hFp_97, e97, P_br, den_s, den_c, Int.add_zero, List.map_cons, List.map_nil, g8.eq, g13.eq, g14.eq, g15.eq, g16.eq, g17.eq, g18.eq, g19.eq, g20.eq, g21.eq, g22.eq, g23.eq, g24.eq, g25.eq, g26.eq, g27.eq, h3, h5, h6, h8, h19, h20, h21, h35, h36, h37, h38, h39, h40] at f0 f1 f2 f3 f5 f6 f8 f9 f10 f11 f12 f13 f14 f15 f16 f17 f18 f19 f20 f21 f22 f23 ⊢
  subst f0
  subst f1
  subst f2
  subst f3
  subst f5
  subst f6
  subst f8
  subst f9
  subst f10
  subst f11
  subst f13
  subst f14
  subst f15
  subst f16
  subst f18
  subst f20
  first
    | omega
    | (rw [show r8 = r14 by omega]; exact f22)
    | (rw [foldI_s (by omega), ← f22]; unfold brS; (try dsimp only); rw [if_neg (by omega)]; done)
    | (rw [foldI_s (by omega), ← f22]; unfold brS; (try dsimp only); rw [if_pos (by omega)]; unfold chF clF lnF; (try dsimp only); (repeat' (first | rfl | (exfalso; omega) | split)); done))
def w_breaks_1_25 : VC := (([(0, 23), (0, 49), (0, 8), (0, 10), (0, 8), (0, 6), (0, 6), (0, 8), (1, 11), (0, 9), ((-2147483648), 2147483647), ((-2147483648), 2147483647), (0, 5), (0, 23), (0, 10), (0, 23), (1, 1), (0, 7), (0, 7), (0, 0), (0, 9), (0, 9), ((-9), 0), (2, 2), (0, 99), (0, 97), ((-2147483648), 2147483647), ((-2147483648), 2147483647)]), [(21, [(some 17, 0), (some 27, 0)], [40, 36]), (16, [(some 27, 0), (some 26, 0), (none, 1)], []), (20, [(some 26, 0), (some 17, 0)], [36]), (21, [(some 17, 0), (some 25, 0)], [39, 35]), (3, [(none, 99), (some 25, 0)], []), (3, [(some 25, 0), (none, 0)], []), (4, [(some 25, 0), (some 24, 0), (some 22, (-2))], []), (20, [(some 24, 0), (some 17, 0)], [35]), (0, [(some 23, 0), (none, 2)], []), (20, [(some 23, 0), (some 17, 0)], [3]), (9, [(some 22, 0), (some 21, 0)], []), (7, [(some 21, 0), (some 20, 0), (none, 2)], []), (20, [(some 20, 0), (some 14, 0)], [6]), (0, [(some 19, 0), (none, 0)], []), (20, [(some 19, 0), (some 18, 0)], [3]), (20, [(some 18, 0), (some 14, 0)], [5]), (21, [(some 14, 0), (none, 3)], [38, 37]), (20, [(some 17, 0), (some 14, 0)], [5]), (0, [(some 16, 0), (none, 1)], []), (20, [(some 16, 0), (some 14, 0)], [37]), (0, [(some 15, 0), (some 13, 0)], []), (20, [(some 15, 0), (some 14, 0)], [8]), (2, [(some 14, 0), (some 8, 0)], []), (97, [(some 14, 0), (some 13, 0)], [3, 5, 6, 8, 19, 20, 21, 35, 36, 37]), (3, [(some 8, 0), (some 14, 0)], [])], (97, [(some 14, 1), (some 13, 0)], [3, 5, 6, 8, 19, 20, 21, 39, 40, 38]))
set_option maxRecDepth 20000 in
theorem v_breaks_1_25 {PT : PTy} (hp : HP5 PT) : vcOk PT w_breaks_1_25 := vc_iv [(8, 1, 11), (13, 0, 23), (14, 0, 10), (15, 0, 23), (16, 1, 1), (17, 0, 7), (18, 0, 7), (19, 0, 0), (20, 0, 9), (21, 0, 9), (22, (-9), 0), (23, 2, 2), (24, 0, 99), (25, 0, 97), (26, (-2147483648), 2147483647), (27, (-2147483648), 2147483647)] [3, 5, 6, 8, 19, 20, 21, 35, 36, 37, 38, 39, 40] (by decide +kernel) (fun ρ α => by
  intro r8 g8 b8 r13 g13 b13 r14 g14 b14 r15 g15 b15 r16 g16 b16 r17 g17 b17 r18 g18 b18 r19 g19 b19 r20 g20 b20 r21 g21 b21 r22 g22 b22 r23 g23 b23 r24 g24 b24 r25 g25 b25 r26 g26 b26 r27 g27 b27 a3 h3 a5 h5 a6 h6 a8 h8 a19 h19 a20 h20 a21 h21 a35 h35 a36 h36 a37 h37 a38 h38 a39 h39 a40 h40 f0 f1 f2 f3 f4 f5 f6 f7 f8 f9 f10 f11 f12 f13 f14 f15 f16 f17 f18 f19 f20 f21 f22 f23 f24 tt
  clear f4 f5
  have e97 : PT 97 = P_br := pe97_5 hp
  simp only [hF0, hF2, hF3, hF4, hF7, hF9, hF16, hF20, hF21, hFp_97, e97, P_br, den_s, den_c, Int.add_zero, List.map_cons, List.map_nil, g8.eq, g13.eq, g14.eq, g15.eq, g16.eq, g17.eq, g18.eq, g19.eq, g20.eq, g21.eq, g22.eq, g23.eq, g24.eq, g25.eq, g26.eq, g27.eq, h3, h5, h6, h8, h19, h20, h21, h35, h36, h37, h38, h39, h40] at f0 f1 f2 f3 f6 f7 f8 f9 f10 f11 f12 f13 f14 f15 f16 f17 f18 f19 f20 f21 f22 f23 f24 ⊢
  subst f0
  subst f1
  subst f2
  subst f3
  subst f6
  subst f7
  subst f9
  subst f10
  subst f11
  subst f12
  subst f14
  subst f15
  subst f16
  subst f17
  subst f19
  subst f21
  first
    | omega
    | (rw [show r8 = r14 by omega]; exact f23)
    | (rw [foldI_s (by omega), ← f23]; unfold brS; (try dsimp only); rw [if_neg (by omega)]; done)
    | (rw [foldI_s (by omega), ← f23]; unfold brS; (try dsimp only); rw [if_pos (by omega)]; unfold chF clF lnF; (try dsimp only); (repeat' (first | rfl | (exfalso; omega) | split)); done))
def w_breaks_1_26 : VC := (([(0, 23), (0, 49), (0, 8), (0, 10), (0, 8), (0, 6), (0, 6), (0, 8), (1, 11), (0, 9), ((-2147483648), 2147483647), ((-2147483648), 2147483647), (0, 5), (0, 23), (0, 10), (0, 23), (1, 1), (0, 7), (0, 7), (0, 0), (0, 9), (0, 9), ((-9), 0), (2, 2), (0, 99), (0, 97), ((-2147483648), 2147483647), ((-2147483648), 2147483647)]), [(21, [(some 17, 0), (some 27, 0)], [40, 36]), (16, [(some 27, 0), (some 26, 0), (none, 1)], []), (20, [(some 26, 0), (some 17, 0)], [36]), (21, [(some 17, 0), (some 25, 0)], [39, 35]), (3, [(none, 99), (some 25, 0)], []), (3, [(some 25, 0), (none, 0)], []), (4, [(some 25, 0), (some 24, 0), (some 22, (-2))], []), (20, [(some 24, 0), (some 17, 0)], [35]), (0, [(some 23, 0), (none, 2)], []), (20, [(some 23, 0), (some 17, 0)], [3]), (9, [(some 22, 0), (some 21, 0)], []), (7, [(some 21, 0), (some 20, 0), (none, 2)], []), (20, [(some 20, 0), (some 14, 0)], [6]), (0, [(some 19, 0), (none, 0)], []), (20, [(some 19, 0), (some 18, 0)], [3]), (20, [(some 18, 0), (some 14, 0)], [5]), (21, [(some 14, 0), (none, 3)], [38, 37]), (20, [(some 17, 0), (some 14, 0)], [5]), (0, [(some 16, 0), (none, 1)], []), (20, [(some 16, 0), (some 14, 0)], [37]), (0, [(some 15, 0), (some 13, 0)], []), (20, [(some 15, 0), (some 14, 0)], [8]), (2, [(some 14, 0), (some 8, 0)], []), (97, [(some 14, 0), (some 13, 0)], [3, 5, 6, 8, 19, 20, 21, 35, 36, 37]), (3, [(some 8, 0), (some 14, 0)], [])], (3, [(some 8, 0), (some 14, 1)], []))
set_option maxRecDepth 20000 in
theorem v_breaks_1_26 {PT : PTy} (hp : HP5 PT) : vcOk PT w_breaks_1_26 := vc_iv [(8, 1, 11), (13, 0, 23), (14, 0, 10), (15, 0, 23), (16, 1, 1), (17, 0, 7), (18, 0, 7), (19, 0, 0), (20, 0, 9), (21, 0, 9), (22, (-9), 0), (23, 2, 2), (24, 0, 99), (25, 0, 97), (26, (-2147483648), 2147483647), (27, (-2147483648), 2147483647)] [3, 5, 6, 8, 19, 20, 21, 35, 36, 37, 38, 39, 40] (by decide +kernel) (fun ρ α => by
  intro r8 g8 b8 r13 g13 b13 r14 g14 b14 r15 g15 b15 r16 g16 b16 r17 g17 b17 r18 g18 b18 r19 g19 b19 r20 g20 b20 r21 g21 b21 r22 g22 b22 r23 g23 b23 r24 g24 b24 r25 g25 b25 r26 g26 b26 r27 g27 b27 a3 h3 a5 h5 a6 h6 a8 h8 a19 h19 a20 h20 a21 h21 a35 h35 a36 h36 a37 h37 a38 h38 a39 h39 a40 h40 f0 f1 f2 f3 f4 f5 f6 f7 f8 f9 f10 f11 f12 f13 f14 f15 f16 f17 f18 f19 f20 f21 f22 f23 f24 tt
  clear f4 f5
  have e97 : PT 97 = P_br := pe97_5 hp
  simp only [hF0, hF2, hF3, hF4, hF7, hF9, hF16, hF20, hF21, hFp_97, e97, P_br, den_s, den_c, Int.add_zero, List.map_cons, List.map_nil, g8.eq, g13.eq, g14.eq, g15.eq, g16.eq, g17.eq, g18.eq, g19.eq, g20.eq, g21.eq, g22.eq, g23.eq, g24.eq, g25.eq, g26.eq, g27.eq, h3, h5, h6, h8, h19, h20, h21, h35, h36, h37, h38, h39, h40] at f0 f1 f2 f3 f6 f7 f8 f9 f10 f11 f12 f13 f14 f15 f16 f17 f18 f19 f20 f21 f22 f23 f24 ⊢
  subst f0
  subst f1
  subst f2
  subst f3
  subst f6
  subst f7
  subst f9
  subst f10
  subst f11
  subst f12
  subst f14
  subst f15
  subst f16
  subst f17
  subst f19
  subst f21
  first
    | omega
    | (rw [show r8 = r14 by omega]; exact f23)
    | (rw [foldI_s (by omega), ← f23]; unfold brS; (try dsimp only); rw [if_neg (by omega)]; done)
    | (rw [foldI_s (by omega), ← f23]; unfold brS; (try dsimp only); rw [if_pos (by omega)]; unfold chF clF lnF; (try dsimp only); (repeat' (first | rfl | (exfalso; omega) | split)); done))
def w_breaks_1_27 : VC := (([(0, 23), (0, 49), (0, 8), (0, 10), (0, 8), (0, 6), (0, 6), (0, 8), (1, 11), (0, 9), ((-2147483648), 2147483647), ((-2147483648), 2147483647), (0, 5), (0, 23), (0, 10), (0, 23), (1, 1), (0, 7), (0, 7), (0, 0), (0, 9), (0, 9), ((-9), 0), (2, 2), (0, 99), ((-11), (-1)), ((-2147483648), 2147483647), ((-2147483648), 2147483647)]), [(21, [(some 17, 0), (some 27, 0)], [40, 36]), (16, [(some 27, 0), (some 26, 0), (none, 1)], []), (20, [(some 26, 0), (some 17, 0)], [36]), (21, [(some 17, 0), (none, 0)], [39, 35]), (2, [(some 25, 0), (none, 0)], []), (4, [(some 25, 0), (some 24, 0), (some 22, (-2))], []), (20, [(some 24, 0), (some 17, 0)], [35]), (0, [(some 23, 0), (none, 2)], []), (20, [(some 23, 0), (some 17, 0)], [3]), (9, [(some 22, 0), (some 21, 0)], []), (7, [(some 21, 0), (some 20, 0), (none, 2)], []), (20, [(some 20, 0), (some 14, 0)], [6]), (0, [(some 19, 0), (none, 0)], []), (20, [(some 19, 0), (some 18, 0)], [3]), (20, [(some 18, 0), (some 14, 0)], [5]), (21, [(some 14, 0), (none, 3)], [38, 37]), (20, [(some 17, 0), (some 14, 0)], [5]), (0, [(some 16, 0), (none, 1)], []), (20, [(some 16, 0), (some 14, 0)], [37]), (0, [(some 15, 0), (some 13, 0)], []), (20, [(some 15, 0), (some 14, 0)], [8]), (2, [(some 14, 0), (some 8, 0)], []), (97, [(some 14, 0), (some 13, 0)], [3, 5, 6, 8, 19, 20, 21, 35, 36, 37]), (3, [(some 8, 0), (some 14, 0)], [])], (97, [(some 14, 1), (some 13, 0)], [3, 5, 6, 8, 19, 20, 21, 39, 40, 38]))
set_option maxRecDepth 20000 in
theorem v_breaks_1_27 {PT : PTy} (hp : HP5 PT) : vcOk PT w_breaks_1_27 := vc_iv [(8, 1, 11), (13, 0, 23), (14, 0, 10), (15, 0, 23), (16, 1, 1), (17, 0, 7), (18, 0, 7), (19, 0, 0), (20, 0, 9), (21, 0, 9), (22, (-9), 0), (23, 2, 2), (24, 0, 99), (25, (-11), (-1)), (26, (-2147483648), 2147483647), (27, (-2147483648), 2147483647)] [3, 5, 6, 8, 19, 20, 21, 35, 36, 37, 38, 39, 40] (by decide +kernel) (fun ρ α => by
  intro r8 g8 b8 r13 g13 b13 r14 g14 b14 r15 g15 b15 r16 g16 b16 r17 g17 b17 r18 g18 b18 r19 g19 b19 r20 g20 b20 r21 g21 b21 r22 g22 b22 r23 g23 b23 r24 g24 b24 r25 g25 b25 r26 g26 b26 r27 g27 b27 a3 h3 a5 h5 a6 h6 a8 h8 a19 h19 a20 h20 a21 h21 a35 h35 a36 h36 a37 h37 a38 h38 a39 h39 a40 h40 f0 f1 f2 f3 f4 f5 f6 f7 f8 f9 f10 f11 f12 f13 f14 f15 f16 f17 f18 f19 f20 f21 f22 f23 tt
  clear f4
  have e97 : PT 97 = P_br := pe97_5 hp
  simp only [hF0, hF2, hF3, hF4, hF7, hF9, hF16, hF20, hF21, hFp_97, e97, P_br, den_s, den_c, Int.add_zero, List.map_cons, List.map_nil, g8.eq, g13.eq, g14.eq, g15.eq, g16.eq, g17.eq, g18.eq, g19.eq, g20.eq, g21.eq, g22.eq, g23.eq, g24.eq, g25.eq, g26.eq, g27.eq, h3, h5, h6, h8, h19, h20, h21, h35, h36, h37, h38, h39, h40] at f0 f1 f2 f3 f5 f6 f7 f8 f9 f10 f11 f12 f13 f14 f15 f16 f17 f18 f19 f20 f21 f22 f23 ⊢
  subst f0
  subst f1
  subst f2
  subst f3
  subst f5
  subst f6
  subst f8
  subst f9
  subst f10
  subst f11
  subst f13
  subst f14
  subst f15
  subst f16
  subst f18
  subst f20
  first
    | omega
    | (rw [show r8 = r14 by omega]; exact f22)
    | (rw [foldI_s (by omega), ← f22]; unfold brS; (try dsimp only); rw [if_neg (by omega)]; done)
    | (rw [foldI_s (by omega), ← f22]; unfold brS; (try dsimp only); rw [if_pos (by omega)]; unfold chF clF lnF; (try dsimp only); (repeat' (first | rfl | (exfalso; omega) | split)); done))
def w_breaks_1_28 : VC := (([(0, 23), (0, 49), (0, 8), (0, 10), (0, 8), (0, 6), (0, 6), (0, 8), (1, 11), (0, 9), ((-2147483648), 2147483647), ((-2147483648), 2147483647), (0, 5), (0, 23), (0, 10), (0, 23), (1, 1), (0, 7), (0, 7), (0, 0), (0, 9), (0, 9), ((-9), 0), (2, 2), (0, 99), ((-11), (-1)), ((-2147483648), 2147483647), ((-2147483648), 2147483647)]), [(21, [(some 17, 0), (some 27, 0)], [40, 36]), (16, [(some 27, 0), (some 26, 0), (none, 1)], []), (20, [(some 26, 0), (some 17, 0)], [36]), (21, [(some 17, 0), (none, 0)], [39, 35]), (2, [(some 25, 0), (none, 0)], []), (4, [(some 25, 0), (some 24, 0), (some 22, (-2))], []), (20, [(some 24, 0), (some 17, 0)], [35]), (0, [(some 23, 0), (none, 2)], []), (20, [(some 23, 0), (some 17, 0)], [3]), (9, [(some 22, 0), (some 21, 0)], []), (7, [(some 21, 0), (some 20, 0), (none, 2)], []), (20, [(some 20, 0), (some 14, 0)], [6]), (0, [(some 19, 0), (none, 0)], []), (20, [(some 19, 0), (some 18, 0)], [3]), (20, [(some 18, 0), (some 14, 0)], [5]), (21, [(some 14, 0), (none, 3)], [38, 37]), (20, [(some 17, 0), (some 14, 0)], [5]), (0, [(some 16, 0), (none, 1)], []), (20, [(some 16, 0), (some 14, 0)], [37]), (0, [(some 15, 0), (some 13, 0)], []), (20, [(some 15, 0), (some 14, 0)], [8]), (2, [(some 14, 0), (some 8, 0)], []), (97, [(some 14, 0), (some 13, 0)], [3, 5, 6, 8, 19, 20, 21, 35, 36, 37]), (3, [(some 8, 0), (some 14, 0)], [])], (3, [(some 8, 0), (some 14, 1)], []))
set_option maxRecDepth 20000 in
theorem v_breaks_1_28 {PT : PTy} (hp : HP5 PT) : vcOk PT w_breaks_1_28 := vc_iv [(8, 1, 11), (13, 0, 23), (14, 0, 10), (15, 0, 23), (16, 1, 1), (17, 0, 7), (18, 0, 7), (19, 0, 0), (20, 0, 9), (21, 0, 9), (22, (-9), 0), (23, 2, 2), (24, 0, 99), (25, (-11), (-1)), (26, (-2147483648), 2147483647), (27, (-2147483648), 2147483647)] [3, 5, 6, 8, 19, 20, 21, 35, 36, 37, 38, 39, 40] (by decide +kernel) (fun ρ α => by
  intro r8 g8 b8 r13 g13 b13 r14 g14 b14 r15 g15 b15 r16 g16 b16 r17 g17 b17 r18 g18 b18 r19 g19 b19 r20 g20 b20 r21 g21 b21 r22 g22 b22 r23 g23 b23 r24 g24 b24 r25 g25 b25 r26 g26 b26 r27 g27 b27 a3 h3 a5 h5 a6 h6 a8 h8 a19 h19 a20 h20 a21 h21 a35 h35 a36 h36 a37 h37 a38 h38 a39 h39 a40 h40 f0 f1 f2 f3 f4 f5 f6 f7 f8 f9 f10 f11 f12 f13 f14 f15 f16 f17 f18 f19 f20 f21 f22 f23 tt
  clear f4
  have e97 : PT 97 = P_br := pe97_5 hp
  simp only [hF0, hF2, hF3, hF4, hF7, hF9, hF16, hF20, hF21, hFp_97, e97, P_br, den_s, den_c, Int.add_zero, List.map_cons, List.map_nil, g8.eq, g13.eq, g14.eq, g15.eq, g16.eq, g17.eq, g18.eq, g19.eq, g20.eq, g21.eq, g22.eq, g23.eq, g24.eq, g25.eq, g26.eq, g27.eq, h3, h5, h6, h8, h19, h20, h21, h35, h36, h37, h38, h39, h40] at f0 f1 f2 f3 f5 f6 f7 f8 f9 f10 f11 f12 f13 f14 f15 f16 f17 f18 f19 f20 f21 f22 f23 ⊢
  subst f0
  subst f1
  subst f2
  subst f3
  subst f5
  subst f6
  subst f8
  subst f9
  subst f10
  subst f11
  subst f13
  subst f14
  subst f15
  subst f16
  subst f18
  subst f20
  first
    | omega
    | (rw [show r8 = r14 by omega]; exact f22)
    | (rw [foldI_s (by omega), ← f22]; unfold brS; (try dsimp only); rw [if_neg (by omega)]; done)
    | (rw [foldI_s (by omega), ← f22]; unfold brS; (try dsimp only); rw [if_pos (by omega)]; unfold chF clF lnF; (try dsimp only); (repeat' (first | rfl | (exfalso; omega) | split)); done))
set_option maxRecDepth 1000000 in
theorem k_breaks {PT : PTy} (hp : HP5 PT) : wfX c_breaks = true ∧ xcOk PT c_breaks := xctr (xl0) c_breaks 112 mX7_breaks rfl h_breaks (by decide +kernel) (by decide +kernel) (by decide) (vcs_by [w_breaks_0_0, w_breaks_0_1] (by decide +kernel) (vc (v_breaks_0_0 hp) (vc (v_breaks_0_1 hp) vn))) (fmc (vcs_by [w_breaks_1_0, w_breaks_1_1, w_breaks_1_2, w_breaks_1_3, w_breaks_1_4, w_breaks_1_5, w_breaks_1_6, w_breaks_1_7, w_breaks_1_8, w_breaks_1_9, w_breaks_1_10, w_breaks_1_11, w_breaks_1_12, w_breaks_1_13, w_breaks_1_14, w_breaks_1_15, w_breaks_1_16, w_breaks_1_17, w_breaks_1_18, w_breaks_1_19, w_breaks_1_20, w_breaks_1_21, w_breaks_1_22, w_breaks_1_23, w_breaks_1_24, w_breaks_1_25, w_breaks_1_26, w_breaks_1_27, w_breaks_1_28] (by decide +kernel) (vc (v_breaks_1_0 hp) (vc (v_breaks_1_1 hp) (vc (v_breaks_1_2 hp) (vc (v_breaks_1_3 hp) (vc (v_breaks_1_4 hp) (vc (v_breaks_1_5 hp) (vc (v_breaks_1_6 hp) (vc (v_breaks_1_7 hp) (vc (v_breaks_1_8 hp) (vc (v_breaks_1_9 hp) (vc (v_breaks_1_10 hp) (vc (v_breaks_1_11 hp) (vc (v_breaks_1_12 hp) (vc (v_breaks_1_13 hp) (vc (v_breaks_1_14 hp) (vc (v_breaks_1_15 hp) (vc (v_breaks_1_16 hp) (vc (v_breaks_1_17 hp) (vc (v_breaks_1_18 hp) (vc (v_breaks_1_19 hp) (vc (v_breaks_1_20 hp) (vc (v_breaks_1_21 hp) (vc (v_breaks_1_22 hp) (vc (v_breaks_1_23 hp) (vc (v_breaks_1_24 hp) (vc (v_breaks_1_25 hp) (vc (v_breaks_1_26 hp) (vc (v_breaks_1_27 hp) (vc (v_breaks_1_28 hp) vn)))))))))))))))))))))))))))))) fmn)
def c_goesBy : XC := (139, 3, (bY ++ [(0, 23)]), [.inr (.inl 0), .inl (some 13, 0)], gY2, [], [((bY ++ [(0, 23)]), none, gY2, (ansT 35 [(19, 35), (20, 36), (21, 37), (22, 38), (23, 39), (24, 40)]), 41, [(101, [(some 8, 0), (some 2, 0), (some 8, 0), (some 3, 0), (some 9, 0), (some 5, 0), (some 6, 0), (some 10, 0), (some 11, 0), (some 13, 0)], [3, 4, 5, 6, 7, 8, 17, 18, 11, 12, 13, 14, 15, 16, 19, 20, 21, 35, 36, 37, 22, 23, 38, 39, 24, 40])])])
def h_goesBy : List XH := [(139, (bY ++ [(0, 23), (0, 8)]), [some (.inr (.inl 0)), some (.inl (some 13, 0)), some (.inl (some 14, 0))], gY2, (ansT 35 [(19, 35), (20, 36), (21, 37), (22, 38), (23, 39)]), 40, [(100, [(some 14, 0), (some 2, 0), (some 8, 0), (some 3, 0), (some 9, 0), (some 5, 0), (some 6, 0), (some 10, 0), (some 11, 0), (some 13, 0)], [3, 4, 5, 6, 7, 8, 17, 18, 11, 12, 13, 14, 15, 16, 19, 20, 21, 35, 36, 37, 22, 23, 38, 39]), (3, [(some 2, 0), (some 14, 0)], [])], [(true, (none, 3)), (true, (some 14, 0))]),
  (17, (bY ++ [(0, 23), (0, 6)]), [some (.inr (.inl 0)), some (.inl (some 13, 0)), some (.inl (some 14, 0))], gY2, (ansT 35 [(19, 35), (20, 36), (21, 37)]), 38, [(98, [(some 14, 0), (some 2, 0), (some 8, 0), (some 3, 0), (some 9, 0), (some 10, 0), (some 11, 0), (some 13, 0)], [3, 4, 5, 6, 7, 8, 17, 18, 11, 12, 13, 19, 20, 21, 35, 36, 37]), (3, [(some 5, 0), (some 14, 0)], [])], [(true, (none, 1)), (true, (some 14, 0))]),
  (189, (bY ++ [(0, 23), (0, 11)]), [some (.inr (.inl 0)), some (.inl (some 13, 0)), some (.inl (some 14, 0))], gY2, (ansT 35 [(19, 35), (20, 36), (21, 37), (22, 38), (23, 39), (24, 40)]), 41, [(101, [(some 14, 0), (some 2, 0), (some 8, 0), (some 3, 0), (some 9, 0), (some 5, 0), (some 6, 0), (some 10, 0), (some 11, 0), (some 13, 0)], [3, 4, 5, 6, 7, 8, 17, 18, 11, 12, 13, 14, 15, 16, 19, 20, 21, 35, 36, 37, 22, 23, 38, 39, 24, 40]), (3, [(some 8, 0), (some 14, 0)], [])], [(true, (none, 4)), (true, (some 14, 0))]),
  (84, (bY ++ [(0, 23), (0, 6)]), [some (.inr (.inl 0)), some (.inl (some 13, 0)), some (.inl (some 14, 0))], gY2, (ansT 35 [(19, 35), (20, 36), (21, 37)]), 38, [(99, [(some 14, 0), (some 2, 0), (some 8, 0), (some 3, 0), (some 9, 0), (some 5, 0), (some 10, 0), (some 11, 0), (some 13, 0)], [3, 4, 5, 6, 7, 8, 17, 18, 11, 12, 13, 14, 15, 16, 19, 20, 21, 35, 36, 37]), (3, [(some 6, 0), (some 14, 0)], [])], [(true, (none, 2)), (true, (some 14, 0))])]
def w_goesBy_0_0 : VC := ((bY ++ [(0, 23)]), [(97, [(some 8, 0), (some 13, 0)], [3, 5, 6, 8, 37, 20, 38, 39, 40, 41]), (96, [(some 9, 0), (some 3, 0), (some 10, 0), (some 13, 0)], [4, 5, 6, 17, 18, 35, 20, 36, 37, 38]), (95, [(some 8, 0), (some 2, 0), (some 13, 0)], [3, 5, 6, 7, 19, 20, 21, 35, 36])], (98, [(none, 0), (some 2, 0), (some 8, 0), (some 3, 0), (some 9, 0), (some 10, 0), (some 11, 0), (some 13, 0)], [3, 4, 5, 6, 7, 8, 17, 18, 11, 12, 13, 19, 20, 21, 39, 40, 41]))
theorem pe98_5 {PT : PTy} (hp : HP5 PT) : PT 98 = P_g1 := hp.2.2.2.2.1
set_option maxRecDepth 20000 in
theorem v_goesBy_0_0 {PT : PTy} (hp : HP5 PT) : vcOk PT w_goesBy_0_0 := vc_in [(2, 0, 8), (3, 0, 10), (8, 0, 11), (9, 0, 9), (10, (-2147483648), 2147483647), (11, (-2147483648), 2147483647), (13, 0, 23)] (by decide +kernel) (fun ρ α => by
  intro b2 b3 b8 b9 b10 b11 b13 f0 f1 f2 tt
  have e95 : PT 95 = P_mk := pe95_5 hp
  have e96 : PT 96 = P_kp := pe96_5 hp
  have e97 : PT 97 = P_br := pe97_5 hp
  have e98 : PT 98 = P_g1 := pe98_5 hp
  simp only [hFp_95, hFp_96, hFp_97, hFp_98, e95, e96, e97, e98, P_mk, P_kp, P_br, P_g1, den_s, den_c, Int.add_zero, List.map_cons, List.map_nil] at f0 f1 f2 ⊢
  first
    | omega
    | (unfold d3S; rw [← f2, ← f1, ← f0]; exact ⟨rfl, rfl⟩))
def w_goesBy_0_1 : VC := ((bY ++ [(0, 23)]), [(97, [(some 8, 0), (some 13, 0)], [3, 5, 6, 8, 37, 20, 38, 39, 40, 41]), (96, [(some 9, 0), (some 3, 0), (some 10, 0), (some 13, 0)], [4, 5, 6, 17, 18, 35, 20, 36, 37, 38]), (95, [(some 8, 0), (some 2, 0), (some 13, 0)], [3, 5, 6, 7, 19, 20, 21, 35, 36])], (3, [(some 5, 0), (none, 0)], []))
set_option maxRecDepth 20000 in
theorem v_goesBy_0_1 {PT : PTy} (hp : HP5 PT) : vcOk PT w_goesBy_0_1 := vc_in [(2, 0, 8), (3, 0, 10), (5, 0, 6), (8, 0, 11), (9, 0, 9), (10, (-2147483648), 2147483647), (13, 0, 23)] (by decide +kernel) (fun ρ α => by
  intro b2 b3 b5 b8 b9 b10 b13 f0 f1 f2 tt
  have e95 : PT 95 = P_mk := pe95_5 hp
  have e96 : PT 96 = P_kp := pe96_5 hp
  have e97 : PT 97 = P_br := pe97_5 hp
  simp only [hF3, hFp_95, hFp_96, hFp_97, e95, e96, e97, P_mk, P_kp, P_br, den_s, den_c, Int.add_zero, List.map_cons, List.map_nil] at f0 f1 f2 ⊢
  first
    | omega
    | (unfold d3S; rw [← f2, ← f1, ← f0]; exact ⟨rfl, rfl⟩))
def w_goesBy_1_0 : VC := ((bY ++ [(0, 23), (0, 8)]), [(3, [(some 14, 0), (some 2, 0)], []), (100, [(some 14, 0), (some 2, 0), (some 8, 0), (some 3, 0), (some 9, 0), (some 5, 0), (some 6, 0), (some 10, 0), (some 11, 0), (some 13, 0)], [3, 4, 5, 6, 7, 8, 17, 18, 11, 12, 13, 14, 15, 16, 19, 20, 21, 35, 36, 37, 22, 23, 38, 39]), (3, [(some 2, 0), (some 14, 0)], [])], (101, [(none, 0), (some 2, 0), (some 8, 0), (some 3, 0), (some 9, 0), (some 5, 0), (some 6, 0), (some 10, 0), (some 11, 0), (some 13, 0)], [3, 4, 5, 6, 7, 8, 17, 18, 11, 12, 13, 14, 15, 16, 19, 20, 21, 35, 36, 37, 22, 23, 38, 39, 24, 24]))
theorem pe100_5 {PT : PTy} (hp : HP5 PT) : PT 100 = P_g3 := hp.2.2.2.2.2.2.1
theorem pe101_5 {PT : PTy} (hp : HP5 PT) : PT 101 = P_g4 := hp.2.2.2.2.2.2.2.1
set_option maxRecDepth 20000 in
theorem v_goesBy_1_0 {PT : PTy} (hp : HP5 PT) : vcOk PT w_goesBy_1_0 := vc_iv [(2, 0, 8), (3, 0, 10), (5, 0, 6), (6, 0, 6), (8, 0, 11), (9, 0, 9), (10, (-2147483648), 2147483647), (11, (-2147483648), 2147483647), (13, 0, 23), (14, 0, 8)] [3, 4, 5, 6, 7, 8, 11, 12, 13, 14, 15, 16, 17, 18, 19, 20, 21, 22, 23, 24, 35, 36, 37, 38, 39] (by decide +kernel) (fun ρ α => by
  intro r2 g2 b2 r3 g3 b3 r5 g5 b5 r6 g6 b6 r8 g8 b8 r9 g9 b9 r10 g10 b10 r11 g11 b11 r13 g13 b13 r14 g14 b14 a3 h3 a4 h4 a5 h5 a6 h6 a7 h7 a8 h8 a11 h11 a12 h12 a13 h13 a14 h14 a15 h15 a16 h16 a17 h17 a18 h18 a19 h19 a20 h20 a21 h21 a22 h22 a23 h23 a24 h24 a35 h35 a36 h36 a37 h37 a38 h38 a39 h39 f0 f1 f2 tt
  have e100 : PT 100 = P_g3 := pe100_5 hp
  have e101 : PT 101 = P_g4 := pe101_5 hp
  simp only [hF3, hFp_100, hFp_101, e100, e101, P_g3, P_g4, den_s, den_c, Int.add_zero, List.map_cons, List.map_nil, g2.eq, g3.eq, g5.eq, g6.eq, g8.eq, g9.eq, g10.eq, g11.eq, g13.eq, g14.eq, h3, h4, h5, h6, h7, h8, h11, h12, h13, h14, h15, h16, h17, h18, h19, h20, h21, h22, h23, h24, h35, h36, h37, h38, h39] at f0 f1 f2 ⊢
  first
    | omega
    | (obtain ⟨i1, i2, i3⟩ := f1; rw [show r14 = r2 by omega] at i2 i3; exact ⟨i1, i2, i3, rfl⟩)
    | (obtain ⟨i1, i2, i3⟩ := f1; exact ⟨i1, by rw [upF_s (by omega), ← i2], by rw [upF_s (by omega), ← i3]⟩))
def w_goesBy_1_1 : VC := ((bY ++ [(0, 23), (0, 8)]), [(3, [(some 14, 0), (some 2, 0)], []), (100, [(some 14, 0), (some 2, 0), (some 8, 0), (some 3, 0), (some 9, 0), (some 5, 0), (some 6, 0), (some 10, 0), (some 11, 0), (some 13, 0)], [3, 4, 5, 6, 7, 8, 17, 18, 11, 12, 13, 14, 15, 16, 19, 20, 21, 35, 36, 37, 22, 23, 38, 39]), (3, [(some 2, 0), (some 14, 0)], [])], (3, [(some 8, 0), (none, 0)], []))
set_option maxRecDepth 20000 in
theorem v_goesBy_1_1 {PT : PTy} (hp : HP5 PT) : vcOk PT w_goesBy_1_1 := vc_iv [(2, 0, 8), (3, 0, 10), (5, 0, 6), (6, 0, 6), (8, 0, 11), (9, 0, 9), (10, (-2147483648), 2147483647), (11, (-2147483648), 2147483647), (13, 0, 23), (14, 0, 8)] [3, 4, 5, 6, 7, 8, 11, 12, 13, 14, 15, 16, 17, 18, 19, 20, 21, 22, 23, 35, 36, 37, 38, 39] (by decide +kernel) (fun ρ α => by
  intro r2 g2 b2 r3 g3 b3 r5 g5 b5 r6 g6 b6 r8 g8 b8 r9 g9 b9 r10 g10 b10 r11 g11 b11 r13 g13 b13 r14 g14 b14 a3 h3 a4 h4 a5 h5 a6 h6 a7 h7 a8 h8 a11 h11 a12 h12 a13 h13 a14 h14 a15 h15 a16 h16 a17 h17 a18 h18 a19 h19 a20 h20 a21 h21 a22 h22 a23 h23 a35 h35 a36 h36 a37 h37 a38 h38 a39 h39 f0 f1 f2 tt
  have e100 : PT 100 = P_g3 := pe100_5 hp
  simp only [hF3, hFp_100, e100, P_g3, den_s, den_c, Int.add_zero, List.map_cons, List.map_nil, g2.eq, g3.eq, g5.eq, g6.eq, g8.eq, g9.eq, g10.eq, g11.eq, g13.eq, g14.eq, h3, h4, h5, h6, h7, h8, h11, h12, h13, h14, h15, h16, h17, h18, h19, h20, h21, h22, h23, h35, h36, h37, h38, h39] at f0 f1 f2 ⊢
  first
    | omega
    | (obtain ⟨i1, i2, i3⟩ := f1; rw [show r14 = r2 by omega] at i2 i3; exact ⟨i1, i2, i3, rfl⟩)
    | (obtain ⟨i1, i2, i3⟩ := f1; exact ⟨i1, by rw [upF_s (by omega), ← i2], by rw [upF_s (by omega), ← i3]⟩))
def w_goesBy_1_2 : VC := (([(0, 23), (0, 49), (1, 8), (0, 10), (0, 8), (0, 6), (0, 6), (0, 8), (0, 11), (0, 9), ((-2147483648), 2147483647), ((-2147483648), 2147483647), (0, 5), (0, 23), (0, 7), (0, 184), (0, 191), (0, 99), (0, 184), (0, 191), ((-2147483648), 2147483647)]), [(21, [(some 19, 0), (some 20, 0)], [41, 39]), (20, [(some 20, 0), (some 14, 0)], [36]), (4, [(some 19, 0), (some 18, 0), (some 14, 0)], []), (6, [(some 18, 0), (none, 8), (some 13, 0)], []), (21, [(some 16, 0), (some 17, 0)], [40, 38]), (20, [(some 17, 0), (some 14, 0)], [35]), (4, [(some 16, 0), (some 15, 0), (some 14, 0)], []), (6, [(some 15, 0), (none, 8), (some 13, 0)], []), (2, [(some 14, 0), (some 2, 0)], []), (100, [(some 14, 0), (some 2, 0), (some 8, 0), (some 3, 0), (some 9, 0), (some 5, 0), (some 6, 0), (some 10, 0), (some 11, 0), (some 13, 0)], [3, 4, 5, 6, 7, 8, 17, 18, 11, 12, 13, 14, 15, 16, 19, 20, 21, 35, 36, 37, 22, 23, 38, 39]), (3, [(some 2, 0), (some 14, 0)], [])], (100, [(some 14, 1), (some 2, 0), (some 8, 0), (some 3, 0), (some 9, 0), (some 5, 0), (some 6, 0), (some 10, 0), (some 11, 0), (some 13, 0)], [3, 4, 5, 6, 7, 8, 17, 18, 11, 12, 13, 14, 15, 16, 19, 20, 21, 35, 36, 37, 22, 23, 40, 41]))
set_option maxRecDepth 20000 in
theorem v_goesBy_1_2 {PT : PTy} (hp : HP5 PT) : vcOk PT w_goesBy_1_2 := vc_iv [(2, 1, 8), (3, 0, 10), (5, 0, 6), (6, 0, 6), (8, 0, 11), (9, 0, 9), (10, (-2147483648), 2147483647), (11, (-2147483648), 2147483647), (13, 0, 23), (14, 0, 7), (15, 0, 184), (16, 0, 191), (17, 0, 99), (18, 0, 184), (19, 0, 191), (20, (-2147483648), 2147483647)] [3, 4, 5, 6, 7, 8, 11, 12, 13, 14, 15, 16, 17, 18, 19, 20, 21, 22, 23, 35, 36, 37, 38, 39, 40, 41] (by decide +kernel) (fun ρ α => by
  intro r2 g2 b2 r3 g3 b3 r5 g5 b5 r6 g6 b6 r8 g8 b8 r9 g9 b9 r10 g10 b10 r11 g11 b11 r13 g13 b13 r14 g14 b14 r15 g15 b15 r16 g16 b16 r17 g17 b17 r18 g18 b18 r19 g19 b19 r20 g20 b20 a3 h3 a4 h4 a5 h5 a6 h6 a7 h7 a8 h8 a11 h11 a12 h12 a13 h13 a14 h14 a15 h15 a16 h16 a17 h17 a18 h18 a19 h19 a20 h20 a21 h21 a22 h22 a23 h23 a35 h35 a36 h36 a37 h37 a38 h38 a39 h39 a40 h40 a41 h41 f0 f1 f2 f3 f4 f5 f6 f7 f8 f9 f10 tt
  have e100 : PT 100 = P_g3 := pe100_5 hp
  simp only [hF2, hF3, hF4, hF6, hF20, hF21, hFp_100, e100, P_g3, den_s, den_c, Int.add_zero, List.map_cons, List.map_nil, g2.eq, g3.eq, g5.eq, g6.eq, g8.eq, g9.eq, g10.eq, g11.eq, g13.eq, g14.eq, g15.eq, g16.eq, g17.eq, g18.eq, g19.eq, g20.eq, h3, h4, h5, h6, h7, h8, h11, h12, h13, h14, h15, h16, h17, h18, h19, h20, h21, h22, h23, h35, h36, h37, h38, h39, h40, h41] at f0 f1 f2 f3 f4 f5 f6 f7 f8 f9 f10 ⊢
  subst f0
  subst f1
  subst f2
  subst f3
  subst f4
  subst f5
  subst f6
  subst f7
  first
    | omega
    | (obtain ⟨i1, i2, i3⟩ := f9; rw [show r14 = r2 by omega] at i2 i3; exact ⟨i1, i2, i3, rfl⟩)
    | (obtain ⟨i1, i2, i3⟩ := f9; exact ⟨i1, by rw [upF_s (by omega), ← i2], by rw [upF_s (by omega), ← i3]⟩))
def w_goesBy_1_3 : VC := (([(0, 23), (0, 49), (1, 8), (0, 10), (0, 8), (0, 6), (0, 6), (0, 8), (0, 11), (0, 9), ((-2147483648), 2147483647), ((-2147483648), 2147483647), (0, 5), (0, 23), (0, 7), (0, 184), (0, 191), (0, 99), (0, 184), (0, 191), ((-2147483648), 2147483647)]), [(21, [(some 19, 0), (some 20, 0)], [41, 39]), (20, [(some 20, 0), (some 14, 0)], [36]), (4, [(some 19, 0), (some 18, 0), (some 14, 0)], []), (6, [(some 18, 0), (none, 8), (some 13, 0)], []), (21, [(some 16, 0), (some 17, 0)], [40, 38]), (20, [(some 17, 0), (some 14, 0)], [35]), (4, [(some 16, 0), (some 15, 0), (some 14, 0)], []), (6, [(some 15, 0), (none, 8), (some 13, 0)], []), (2, [(some 14, 0), (some 2, 0)], []), (100, [(some 14, 0), (some 2, 0), (some 8, 0), (some 3, 0), (some 9, 0), (some 5, 0), (some 6, 0), (some 10, 0), (some 11, 0), (some 13, 0)], [3, 4, 5, 6, 7, 8, 17, 18, 11, 12, 13, 14, 15, 16, 19, 20, 21, 35, 36, 37, 22, 23, 38, 39]), (3, [(some 2, 0), (some 14, 0)], [])], (3, [(some 2, 0), (some 14, 1)], []))
set_option maxRecDepth 20000 in
theorem v_goesBy_1_3 {PT : PTy} (hp : HP5 PT) : vcOk PT w_goesBy_1_3 := vc_iv [(2, 1, 8), (3, 0, 10), (5, 0, 6), (6, 0, 6), (8, 0, 11), (9, 0, 9), (10, (-2147483648), 2147483647), (11, (-2147483648), 2147483647), (13, 0, 23), (14, 0, 7), (15, 0, 184), (16, 0, 191), (17, 0, 99), (18, 0, 184), (19, 0, 191), (20, (-2147483648), 2147483647)] [3, 4, 5, 6, 7, 8, 11, 12, 13, 14, 15, 16, 17, 18, 19, 20, 21, 22, 23, 35, 36, 37, 38, 39, 40, 41] (by decide +kernel) (fun ρ α => by
  intro r2 g2 b2 r3 g3 b3 r5 g5 b5 r6 g6 b6 r8 g8 b8 r9 g9 b9 r10 g10 b10 r11 g11 b11 r13 g13 b13 r14 g14 b14 r15 g15 b15 r16 g16 b16 r17 g17 b17 r18 g18 b18 r19 g19 b19 r20 g20 b20 a3 h3 a4 h4 a5 h5 a6 h6 a7 h7 a8 h8 a11 h11 a12 h12 a13 h13 a14 h14 a15 h15 a16 h16 a17 h17 a18 h18 a19 h19 a20 h20 a21 h21 a22 h22 a23 h23 a35 h35 a36 h36 a37 h37 a38 h38 a39 h39 a40 h40 a41 h41 f0 f1 f2 f3 f4 f5 f6 f7 f8 f9 f10 tt
  have e100 : PT 100 = P_g3 := pe100_5 hp
  simp only [hF2, hF3, hF4, hF6, hF20, hF21, hFp_100, e100, P_g3, den_s, den_c, Int.add_zero, List.map_cons, List.map_nil, g2.eq, g3.eq, g5.eq, g6.eq, g8.eq, g9.eq, g10.eq, g11.eq, g13.eq, g14.eq, g15.eq, g16.eq, g17.eq, g18.eq, g19.eq, g20.eq, h3, h4, h5, h6, h7, h8, h11, h12, h13, h14, h15, h16, h17, h18, h19, h20, h21, h22, h23, h35, h36, h37, h38, h39, h40, h41] at f0 f1 f2 f3 f4 f5 f6 f7 f8 f9 f10 ⊢
  subst f0
  subst f1
  subst f2
  subst f3
  subst f4
  subst f5
  subst f6
  subst f7
  first
    | omega
    | (obtain ⟨i1, i2, i3⟩ := f9; rw [show r14 = r2 by omega] at i2 i3; exact ⟨i1, i2, i3, rfl⟩)
    | (obtain ⟨i1, i2, i3⟩ := f9; exact ⟨i1, by rw [upF_s (by omega), ← i2], by rw [upF_s (by omega), ← i3]⟩))
def w_goesBy_2_0 : VC := ((bY ++ [(0, 23), (0, 6)]), [(3, [(some 14, 0), (some 5, 0)], []), (98, [(some 14, 0), (some 2, 0), (some 8, 0), (some 3, 0), (some 9, 0), (some 10, 0), (some 11, 0), (some 13, 0)], [3, 4, 5, 6, 7, 8, 17, 18, 11, 12, 13, 19, 20, 21, 35, 36, 37]), (3, [(some 5, 0), (some 14, 0)], [])], (99, [(none, 0), (some 2, 0), (some 8, 0), (some 3, 0), (some 9, 0), (some 5, 0), (some 10, 0), (some 11, 0), (some 13, 0)], [3, 4, 5, 6, 7, 8, 17, 18, 11, 12, 13, 14, 15, 16, 19, 20, 21, 35, 36, 37]))
theorem pe99_5 {PT : PTy} (hp : HP5 PT) : PT 99 = P_g2 := hp.2.2.2.2.2.1
set_option maxRecDepth 20000 in
theorem v_goesBy_2_0 {PT : PTy} (hp : HP5 PT) : vcOk PT w_goesBy_2_0 := vc_iv [(2, 0, 8), (3, 0, 10), (5, 0, 6), (8, 0, 11), (9, 0, 9), (10, (-2147483648), 2147483647), (11, (-2147483648), 2147483647), (13, 0, 23), (14, 0, 6)] [3, 4, 5, 6, 7, 8, 11, 12, 13, 14, 15, 16, 17, 18, 19, 20, 21, 35, 36, 37] (by decide +kernel) (fun ρ α => by
  intro r2 g2 b2 r3 g3 b3 r5 g5 b5 r8 g8 b8 r9 g9 b9 r10 g10 b10 r11 g11 b11 r13 g13 b13 r14 g14 b14 a3 h3 a4 h4 a5 h5 a6 h6 a7 h7 a8 h8 a11 h11 a12 h12 a13 h13 a14 h14 a15 h15 a16 h16 a17 h17 a18 h18 a19 h19 a20 h20 a21 h21 a35 h35 a36 h36 a37 h37 f0 f1 f2 tt
  have e98 : PT 98 = P_g1 := pe98_5 hp
  have e99 : PT 99 = P_g2 := pe99_5 hp
  simp only [hF3, hFp_98, hFp_99, e98, e99, P_g1, P_g2, den_s, den_c, Int.add_zero, List.map_cons, List.map_nil, g2.eq, g3.eq, g5.eq, g8.eq, g9.eq, g10.eq, g11.eq, g13.eq, g14.eq, h3, h4, h5, h6, h7, h8, h11, h12, h13, h14, h15, h16, h17, h18, h19, h20, h21, h35, h36, h37] at f0 f1 f2 ⊢
  first
    | omega
    | (obtain ⟨i1, i2⟩ := f1; refine ⟨?_, i2⟩; rw [show (0 : Int).toNat = 0 from rfl]; rw [show r5 = r14 by omega]; exact i1)
    | (obtain ⟨i1, i2⟩ := f1; refine ⟨?_, i2⟩; rw [foldI_s (by omega), ← i1]; unfold liS; rw [if_neg (by omega)]; done)
    | (obtain ⟨i1, i2⟩ := f1; refine ⟨?_, i2⟩; rw [foldI_s (by omega), ← i1]; unfold liS; rw [if_pos (by omega)]; unfold chF clF; (repeat' (first | rfl | (exfalso; omega) | split)); done))
def w_goesBy_2_1 : VC := ((bY ++ [(0, 23), (0, 6)]), [(3, [(some 14, 0), (some 5, 0)], []), (98, [(some 14, 0), (some 2, 0), (some 8, 0), (some 3, 0), (some 9, 0), (some 10, 0), (some 11, 0), (some 13, 0)], [3, 4, 5, 6, 7, 8, 17, 18, 11, 12, 13, 19, 20, 21, 35, 36, 37]), (3, [(some 5, 0), (some 14, 0)], [])], (3, [(some 6, 0), (none, 0)], []))
set_option maxRecDepth 20000 in
theorem v_goesBy_2_1 {PT : PTy} (hp : HP5 PT) : vcOk PT w_goesBy_2_1 := vc_iv [(2, 0, 8), (3, 0, 10), (5, 0, 6), (6, 0, 6), (8, 0, 11), (9, 0, 9), (10, (-2147483648), 2147483647), (11, (-2147483648), 2147483647), (13, 0, 23), (14, 0, 6)] [3, 4, 5, 6, 7, 8, 11, 12, 13, 17, 18, 19, 20, 21, 35, 36, 37] (by decide +kernel) (fun ρ α => by
  intro r2 g2 b2 r3 g3 b3 r5 g5 b5 r6 g6 b6 r8 g8 b8 r9 g9 b9 r10 g10 b10 r11 g11 b11 r13 g13 b13 r14 g14 b14 a3 h3 a4 h4 a5 h5 a6 h6 a7 h7 a8 h8 a11 h11 a12 h12 a13 h13 a17 h17 a18 h18 a19 h19 a20 h20 a21 h21 a35 h35 a36 h36 a37 h37 f0 f1 f2 tt
  have e98 : PT 98 = P_g1 := pe98_5 hp
  simp only [hF3, hFp_98, e98, P_g1, den_s, den_c, Int.add_zero, List.map_cons, List.map_nil, g2.eq, g3.eq, g5.eq, g6.eq, g8.eq, g9.eq, g10.eq, g11.eq, g13.eq, g14.eq, h3, h4, h5, h6, h7, h8, h11, h12, h13, h17, h18, h19, h20, h21, h35, h36, h37] at f0 f1 f2 ⊢
  first
    | omega
    | (obtain ⟨i1, i2⟩ := f1; refine ⟨?_, i2⟩; rw [show (0 : Int).toNat = 0 from rfl]; rw [show r5 = r14 by omega]; exact i1)
    | (obtain ⟨i1, i2⟩ := f1; refine ⟨?_, i2⟩; rw [foldI_s (by omega), ← i1]; unfold liS; rw [if_neg (by omega)]; done)
    | (obtain ⟨i1, i2⟩ := f1; refine ⟨?_, i2⟩; rw [foldI_s (by omega), ← i1]; unfold liS; rw [if_pos (by omega)]; unfold chF clF; (repeat' (first | rfl | (exfalso; omega) | split)); done))
def w_goesBy_2_2 : VC := (([(0, 23), (0, 49), (0, 8), (0, 10), (0, 8), (1, 6), (0, 6), (0, 8), (0, 11), (0, 9), ((-2147483648), 2147483647), ((-2147483648), 2147483647), (0, 5), (0, 23), (0, 5), (0, 23)]), [(1, [(some 15, 0), (some 13, 0)], []), (20, [(some 15, 0), (some 14, 0)], [11]), (2, [(some 14, 0), (some 5, 0)], []), (98, [(some 14, 0), (some 2, 0), (some 8, 0), (some 3, 0), (some 9, 0), (some 10, 0), (some 11, 0), (some 13, 0)], [3, 4, 5, 6, 7, 8, 17, 18, 11, 12, 13, 19, 20, 21, 35, 36, 37]), (3, [(some 5, 0), (some 14, 0)], [])], (98, [(some 14, 1), (some 2, 0), (some 8, 0), (some 3, 0), (some 9, 0), (some 10, 0), (some 11, 0), (some 13, 0)], [3, 4, 5, 6, 7, 8, 17, 18, 11, 12, 13, 19, 20, 21, 35, 36, 37]))
set_option maxRecDepth 20000 in
theorem v_goesBy_2_2 {PT : PTy} (hp : HP5 PT) : vcOk PT w_goesBy_2_2 := vc_iv [(2, 0, 8), (3, 0, 10), (5, 1, 6), (8, 0, 11), (9, 0, 9), (10, (-2147483648), 2147483647), (11, (-2147483648), 2147483647), (13, 0, 23), (14, 0, 5), (15, 0, 23)] [3, 4, 5, 6, 7, 8, 11, 12, 13, 17, 18, 19, 20, 21, 35, 36, 37] (by decide +kernel) (fun ρ α => by
  intro r2 g2 b2 r3 g3 b3 r5 g5 b5 r8 g8 b8 r9 g9 b9 r10 g10 b10 r11 g11 b11 r13 g13 b13 r14 g14 b14 r15 g15 b15 a3 h3 a4 h4 a5 h5 a6 h6 a7 h7 a8 h8 a11 h11 a12 h12 a13 h13 a17 h17 a18 h18 a19 h19 a20 h20 a21 h21 a35 h35 a36 h36 a37 h37 f0 f1 f2 f3 f4 tt
  have e98 : PT 98 = P_g1 := pe98_5 hp
  simp only [hF1, hF2, hF3, hF20, hFp_98, e98, P_g1, den_s, den_c, Int.add_zero, List.map_cons, List.map_nil, g2.eq, g3.eq, g5.eq, g8.eq, g9.eq, g10.eq, g11.eq, g13.eq, g14.eq, g15.eq, h3, h4, h5, h6, h7, h8, h11, h12, h13, h17, h18, h19, h20, h21, h35, h36, h37] at f0 f1 f2 f3 f4 ⊢
  subst f1
  first
    | omega
    | (obtain ⟨i1, i2⟩ := f3; refine ⟨?_, i2⟩; rw [show (0 : Int).toNat = 0 from rfl]; rw [show r5 = r14 by omega]; exact i1)
    | (obtain ⟨i1, i2⟩ := f3; refine ⟨?_, i2⟩; rw [foldI_s (by omega), ← i1]; unfold liS; rw [if_neg (by omega)]; done)
    | (obtain ⟨i1, i2⟩ := f3; refine ⟨?_, i2⟩; rw [foldI_s (by omega), ← i1]; unfold liS; rw [if_pos (by omega)]; unfold chF clF; (repeat' (first | rfl | (exfalso; omega) | split)); done))
def w_goesBy_2_3 : VC := (([(0, 23), (0, 49), (0, 8), (0, 10), (0, 8), (1, 6), (0, 6), (0, 8), (0, 11), (0, 9), ((-2147483648), 2147483647), ((-2147483648), 2147483647), (0, 5), (0, 23), (0, 5), (0, 23)]), [(1, [(some 15, 0), (some 13, 0)], []), (20, [(some 15, 0), (some 14, 0)], [11]), (2, [(some 14, 0), (some 5, 0)], []), (98, [(some 14, 0), (some 2, 0), (some 8, 0), (some 3, 0), (some 9, 0), (some 10, 0), (some 11, 0), (some 13, 0)], [3, 4, 5, 6, 7, 8, 17, 18, 11, 12, 13, 19, 20, 21, 35, 36, 37]), (3, [(some 5, 0), (some 14, 0)], [])], (3, [(some 5, 0), (some 14, 1)], []))
set_option maxRecDepth 20000 in
theorem v_goesBy_2_3 {PT : PTy} (hp : HP5 PT) : vcOk PT w_goesBy_2_3 := vc_iv [(2, 0, 8), (3, 0, 10), (5, 1, 6), (8, 0, 11), (9, 0, 9), (10, (-2147483648), 2147483647), (11, (-2147483648), 2147483647), (13, 0, 23), (14, 0, 5), (15, 0, 23)] [3, 4, 5, 6, 7, 8, 11, 12, 13, 17, 18, 19, 20, 21, 35, 36, 37] (by decide +kernel) (fun ρ α => by
  intro r2 g2 b2 r3 g3 b3 r5 g5 b5 r8 g8 b8 r9 g9 b9 r10 g10 b10 r11 g11 b11 r13 g13 b13 r14 g14 b14 r15 g15 b15 a3 h3 a4 h4 a5 h5 a6 h6 a7 h7 a8 h8 a11 h11 a12 h12 a13 h13 a17 h17 a18 h18 a19 h19 a20 h20 a21 h21 a35 h35 a36 h36 a37 h37 f0 f1 f2 f3 f4 tt
  have e98 : PT 98 = P_g1 := pe98_5 hp
  simp only [hF1, hF2, hF3, hF20, hFp_98, e98, P_g1, den_s, den_c, Int.add_zero, List.map_cons, List.map_nil, g2.eq, g3.eq, g5.eq, g8.eq, g9.eq, g10.eq, g11.eq, g13.eq, g14.eq, g15.eq, h3, h4, h5, h6, h7, h8, h11, h12, h13, h17, h18, h19, h20, h21, h35, h36, h37] at f0 f1 f2 f3 f4 ⊢
  subst f1
  first
    | omega
    | (obtain ⟨i1, i2⟩ := f3; refine ⟨?_, i2⟩; rw [show (0 : Int).toNat = 0 from rfl]; rw [show r5 = r14 by omega]; exact i1)
    | (obtain ⟨i1, i2⟩ := f3; refine ⟨?_, i2⟩; rw [foldI_s (by omega), ← i1]; unfold liS; rw [if_neg (by omega)]; done)
    | (obtain ⟨i1, i2⟩ := f3; refine ⟨?_, i2⟩; rw [foldI_s (by omega), ← i1]; unfold liS; rw [if_pos (by omega)]; unfold chF clF; (repeat' (first | rfl | (exfalso; omega) | split)); done))
def w_goesBy_2_4 : VC := (([(0, 23), (0, 49), (0, 7), (0, 10), (0, 8), (1, 6), (0, 6), (0, 8), (0, 11), (0, 9), ((-2147483648), 2147483647), ((-2147483648), 2147483647), (0, 5), (0, 23), (0, 5), (0, 23), (0, 7)]), [(3, [(some 16, 0), (some 2, 0)], []), (20, [(some 16, 0), (some 14, 0)], [12]), (0, [(some 15, 0), (some 13, 0)], []), (20, [(some 15, 0), (some 14, 0)], [11]), (2, [(some 14, 0), (some 5, 0)], []), (98, [(some 14, 0), (some 2, 0), (some 8, 0), (some 3, 0), (some 9, 0), (some 10, 0), (some 11, 0), (some 13, 0)], [3, 4, 5, 6, 7, 8, 17, 18, 11, 12, 13, 19, 20, 21, 35, 36, 37]), (3, [(some 5, 0), (some 14, 0)], [])], (98, [(some 14, 1), (some 2, 0), (some 8, 0), (some 3, 0), (some 9, 0), (some 10, 0), (some 11, 0), (some 13, 0)], [3, 4, 5, 6, 7, 8, 17, 18, 11, 12, 13, 19, 20, 21, 35, 36, 37]))
set_option maxRecDepth 20000 in
theorem v_goesBy_2_4 {PT : PTy} (hp : HP5 PT) : vcOk PT w_goesBy_2_4 := vc_iv [(2, 0, 7), (3, 0, 10), (5, 1, 6), (8, 0, 11), (9, 0, 9), (10, (-2147483648), 2147483647), (11, (-2147483648), 2147483647), (13, 0, 23), (14, 0, 5), (15, 0, 23), (16, 0, 7)] [3, 4, 5, 6, 7, 8, 11, 12, 13, 17, 18, 19, 20, 21, 35, 36, 37] (by decide +kernel) (fun ρ α => by
  intro r2 g2 b2 r3 g3 b3 r5 g5 b5 r8 g8 b8 r9 g9 b9 r10 g10 b10 r11 g11 b11 r13 g13 b13 r14 g14 b14 r15 g15 b15 r16 g16 b16 a3 h3 a4 h4 a5 h5 a6 h6 a7 h7 a8 h8 a11 h11 a12 h12 a13 h13 a17 h17 a18 h18 a19 h19 a20 h20 a21 h21 a35 h35 a36 h36 a37 h37 f0 f1 f2 f3 f4 f5 f6 tt
  have e98 : PT 98 = P_g1 := pe98_5 hp
  simp only [hF0, hF2, hF3, hF20, hFp_98, e98, P_g1, den_s, den_c, Int.add_zero, List.map_cons, List.map_nil, g2.eq, g3.eq, g5.eq, g8.eq, g9.eq, g10.eq, g11.eq, g13.eq, g14.eq, g15.eq, g16.eq, h3, h4, h5, h6, h7, h8, h11, h12, h13, h17, h18, h19, h20, h21, h35, h36, h37] at f0 f1 f2 f3 f4 f5 f6 ⊢
  subst f1
  subst f3
  first
    | omega
    | (obtain ⟨i1, i2⟩ := f5; refine ⟨?_, i2⟩; rw [show (0 : Int).toNat = 0 from rfl]; rw [show r5 = r14 by omega]; exact i1)
    | (obtain ⟨i1, i2⟩ := f5; refine ⟨?_, i2⟩; rw [foldI_s (by omega), ← i1]; unfold liS; rw [if_neg (by omega)]; done)
    | (obtain ⟨i1, i2⟩ := f5; refine ⟨?_, i2⟩; rw [foldI_s (by omega), ← i1]; unfold liS; rw [if_pos (by omega)]; unfold chF clF; (repeat' (first | rfl | (exfalso; omega) | split)); done))
def w_goesBy_2_5 : VC := (([(0, 23), (0, 49), (0, 7), (0, 10), (0, 8), (1, 6), (0, 6), (0, 8), (0, 11), (0, 9), ((-2147483648), 2147483647), ((-2147483648), 2147483647), (0, 5), (0, 23), (0, 5), (0, 23), (0, 7)]), [(3, [(some 16, 0), (some 2, 0)], []), (20, [(some 16, 0), (some 14, 0)], [12]), (0, [(some 15, 0), (some 13, 0)], []), (20, [(some 15, 0), (some 14, 0)], [11]), (2, [(some 14, 0), (some 5, 0)], []), (98, [(some 14, 0), (some 2, 0), (some 8, 0), (some 3, 0), (some 9, 0), (some 10, 0), (some 11, 0), (some 13, 0)], [3, 4, 5, 6, 7, 8, 17, 18, 11, 12, 13, 19, 20, 21, 35, 36, 37]), (3, [(some 5, 0), (some 14, 0)], [])], (3, [(some 5, 0), (some 14, 1)], []))
set_option maxRecDepth 20000 in
theorem v_goesBy_2_5 {PT : PTy} (hp : HP5 PT) : vcOk PT w_goesBy_2_5 := vc_iv [(2, 0, 7), (3, 0, 10), (5, 1, 6), (8, 0, 11), (9, 0, 9), (10, (-2147483648), 2147483647), (11, (-2147483648), 2147483647), (13, 0, 23), (14, 0, 5), (15, 0, 23), (16, 0, 7)] [3, 4, 5, 6, 7, 8, 11, 12, 13, 17, 18, 19, 20, 21, 35, 36, 37] (by decide +kernel) (fun ρ α => by
  intro r2 g2 b2 r3 g3 b3 r5 g5 b5 r8 g8 b8 r9 g9 b9 r10 g10 b10 r11 g11 b11 r13 g13 b13 r14 g14 b14 r15 g15 b15 r16 g16 b16 a3 h3 a4 h4 a5 h5 a6 h6 a7 h7 a8 h8 a11 h11 a12 h12 a13 h13 a17 h17 a18 h18 a19 h19 a20 h20 a21 h21 a35 h35 a36 h36 a37 h37 f0 f1 f2 f3 f4 f5 f6 tt
  have e98 : PT 98 = P_g1 := pe98_5 hp
  simp only [hF0, hF2, hF3, hF20, hFp_98, e98, P_g1, den_s, den_c, Int.add_zero, List.map_cons, List.map_nil, g2.eq, g3.eq, g5.eq, g8.eq, g9.eq, g10.eq, g11.eq, g13.eq, g14.eq, g15.eq, g16.eq, h3, h4, h5, h6, h7, h8, h11, h12, h13, h17, h18, h19, h20, h21, h35, h36, h37] at f0 f1 f2 f3 f4 f5 f6 ⊢
  subst f1
  subst f3
  first
    | omega
    | (obtain ⟨i1, i2⟩ := f5; refine ⟨?_, i2⟩; rw [show (0 : Int).toNat = 0 from rfl]; rw [show r5 = r14 by omega]; exact i1)
    | (obtain ⟨i1, i2⟩ := f5; refine ⟨?_, i2⟩; rw [foldI_s (by omega), ← i1]; unfold liS; rw [if_neg (by omega)]; done)
    | (obtain ⟨i1, i2⟩ := f5; refine ⟨?_, i2⟩; rw [foldI_s (by omega), ← i1]; unfold liS; rw [if_pos (by omega)]; unfold chF clF; (repeat' (first | rfl | (exfalso; omega) | split)); done))
def w_goesBy_2_6 : VC := (([(0, 23), (0, 49), (1, 8), (0, 10), (0, 8), (1, 6), (0, 6), (0, 8), (0, 11), (0, 9), ((-2147483648), 2147483647), ((-2147483648), 2147483647), (0, 5), (0, 23), (0, 5), (0, 23), (0, 7), ((-2147483648), 2147483647), ((-2147483648), 2147483647), (0, 7), (0, 9), ((-9), 0), (0, 99), (0, 99)]), [(21, [(some 19, 0), (some 23, 0)], [38, 35]), (3, [(none, 99), (some 23, 0)], []), (3, [(some 23, 0), (none, 0)], []), (4, [(some 23, 0), (some 22, 0), (some 21, 0)], []), (20, [(some 22, 0), (some 19, 0)], [35]), (9, [(some 21, 0), (some 20, 0)], []), (20, [(some 20, 0), (some 14, 0)], [13]), (20, [(some 19, 0), (some 14, 0)], [12]), (0, [(none, 0), (none, 0)], []), (1, [(some 18, 0), (none, 1)], []), (10, [(some 18, 0), (some 17, 0), (none, 1)], []), (14, [(some 17, 0), (some 11, 0), (some 14, 0)], []), (2, [(some 16, 0), (some 2, 0)], []), (20, [(some 16, 0), (some 14, 0)], [12]), (0, [(some 15, 0), (some 13, 0)], []), (20, [(some 15, 0), (some 14, 0)], [11]), (2, [(some 14, 0), (some 5, 0)], []), (98, [(some 14, 0), (some 2, 0), (some 8, 0), (some 3, 0), (some 9, 0), (some 10, 0), (some 11, 0), (some 13, 0)], [3, 4, 5, 6, 7, 8, 17, 18, 11, 12, 13, 19, 20, 21, 35, 36, 37]), (3, [(some 5, 0), (some 14, 0)], [])], (98, [(some 14, 1), (some 2, 0), (some 8, 0), (some 3, 0), (some 9, 0), (some 10, 0), (some 11, 0), (some 13, 0)], [3, 4, 5, 6, 7, 8, 17, 18, 11, 12, 13, 19, 20, 21, 38, 36, 37]))
set_option maxRecDepth 20000 in
theorem v_goesBy_2_6 {PT : PTy} (hp : HP5 PT) : vcOk PT w_goesBy_2_6 := vc_iv [(2, 1, 8), (3, 0, 10), (5, 1, 6), (8, 0, 11), (9, 0, 9), (10, (-2147483648), 2147483647), (11, (-2147483648), 2147483647), (13, 0, 23), (14, 0, 5), (15, 0, 23), (16, 0, 7), (17, (-2147483648), 2147483647), (18, (-2147483648), 2147483647), (19, 0, 7), (20, 0, 9), (21, (-9), 0), (22, 0, 99), (23, 0, 99)] [3, 4, 5, 6, 7, 8, 11, 12, 13, 17, 18, 19, 20, 21, 35, 36, 37, 38] (by decide +kernel) (fun ρ α => by
  intro r2 g2 b2 r3 g3 b3 r5 g5 b5 r8 g8 b8 r9 g9 b9 r10 g10 b10 r11 g11 b11 r13 g13 b13 r14 g14 b14 r15 g15 b15 r16 g16 b16 r17 g17 b17 r18 g18 b18 r19 g19 b19 r20 g20 b20 r21 g21 b21 r22 g22 b22 r23 g23 b23 a3 h3 a4 h4 a5 h5 a6 h6 a7 h7 a8 h8 a11 h11 a12 h12 a13 h13 a17 h17 a18 h18 a19 h19 a20 h20 a21 h21 a35 h35 a36 h36 a37 h37 a38 h38 f0 f1 f2 f3 f4 f5 f6 f7 f8 f9 f10 f11 f12 f13 f14 f15 f16 f17 f18 tt
  clear f1 f2 f8
  have e98 : PT 98 = P_g1 := pe98_5 hp
  simp only [hF0, hF1, hF2, hF3, hF4, hF9, hF10, hF14, hF20, hF21, hFp_98, e98, P_g1, den_s, den_c, Int.add_zero, List.map_cons, List.map_nil, g2.eq, g3.eq, g5.eq, g8.eq, g9.eq, g10.eq, g11.eq, g13.eq, g14.eq, g15.eq, g16.eq, g17.eq, g18.eq, g19.eq, g20.eq, g21.eq, g22.eq, g23.eq, h3, h4, h5, h6, h7, h8, h11, h12, h13, h17, h18, h19, h20, h21, h35, h36, h37, h38] at f0 f3 f4 f5 f6 f7 f9 f10 f11 f12 f13 f14 f15 f16 f17 f18 ⊢
  subst f0
  subst f3
  subst f4
  subst f5
  subst f6
  subst f7
  subst f10
  subst f11
  subst f13
  subst f15
  first
    | omega
    | (obtain ⟨i1, i2⟩ := f17; refine ⟨?_, i2⟩; rw [show (0 : Int).toNat = 0 from rfl]; rw [show r5 = r14 by omega]; exact i1)
    | (obtain ⟨i1, i2⟩ := f17; refine ⟨?_, i2⟩; rw [foldI_s (by omega), ← i1]; unfold liS; rw [if_neg (by omega)]; done)
    | (obtain ⟨i1, i2⟩ := f17; refine ⟨?_, i2⟩; rw [foldI_s (by omega), ← i1]; unfold liS; rw [if_pos (by omega)]; unfold chF clF; (repeat' (first | rfl | (exfalso; omega) | split)); done))
def w_goesBy_2_7 : VC := (([(0, 23), (0, 49), (1, 8), (0, 10), (0, 8), (1, 6), (0, 6), (0, 8), (0, 11), (0, 9), ((-2147483648), 2147483647), ((-2147483648), 2147483647), (0, 5), (0, 23), (0, 5), (0, 23), (0, 7), ((-2147483648), 2147483647), ((-2147483648), 2147483647), (0, 7), (0, 9), ((-9), 0), (0, 99), (0, 99)]), [(21, [(some 19, 0), (some 23, 0)], [38, 35]), (3, [(none, 99), (some 23, 0)], []), (3, [(some 23, 0), (none, 0)], []), (4, [(some 23, 0), (some 22, 0), (some 21, 0)], []), (20, [(some 22, 0), (some 19, 0)], [35]), (9, [(some 21, 0), (some 20, 0)], []), (20, [(some 20, 0), (some 14, 0)], [13]), (20, [(some 19, 0), (some 14, 0)], [12]), (0, [(none, 0), (none, 0)], []), (1, [(some 18, 0), (none, 1)], []), (10, [(some 18, 0), (some 17, 0), (none, 1)], []), (14, [(some 17, 0), (some 11, 0), (some 14, 0)], []), (2, [(some 16, 0), (some 2, 0)], []), (20, [(some 16, 0), (some 14, 0)], [12]), (0, [(some 15, 0), (some 13, 0)], []), (20, [(some 15, 0), (some 14, 0)], [11]), (2, [(some 14, 0), (some 5, 0)], []), (98, [(some 14, 0), (some 2, 0), (some 8, 0), (some 3, 0), (some 9, 0), (some 10, 0), (some 11, 0), (some 13, 0)], [3, 4, 5, 6, 7, 8, 17, 18, 11, 12, 13, 19, 20, 21, 35, 36, 37]), (3, [(some 5, 0), (some 14, 0)], [])], (3, [(some 5, 0), (some 14, 1)], []))
set_option maxRecDepth 20000 in
theorem v_goesBy_2_7 {PT : PTy} (hp : HP5 PT) : vcOk PT w_goesBy_2_7 := vc_iv [(2, 1, 8), (3, 0, 10), (5, 1, 6), (8, 0, 11), (9, 0, 9), (10, (-2147483648), 2147483647), (11, (-2147483648), 2147483647), (13, 0, 23), (14, 0, 5), (15, 0, 23), (16, 0, 7), (17, (-2147483648), 2147483647), (18, (-2147483648), 2147483647), (19, 0, 7), (20, 0, 9), (21, (-9), 0), (22, 0, 99), (23, 0, 99)] [3, 4, 5, 6, 7, 8, 11, 12, 13, 17, 18, 19, 20, 21, 35, 36, 37, 38] (by decide +kernel) (fun ρ α => by
  intro r2 g2 b2 r3 g3 b3 r5 g5 b5 r8 g8 b8 r9 g9 b9 r10 g10 b10 r11 g11 b11 r13 g13 b13 r14 g14 b14 r15 g15 b15 r16 g16 b16 r17 g17 b17 r18 g18 b18 r19 g19 b19 r20 g20 b20 r21 g21 b21 r22 g22 b22 r23 g23 b23 a3 h3 a4 h4 a5 h5 a6 h6 a7 h7 a8 h8 a11 h11 a12 h12 a13 h13 a17 h17 a18 h18 a19 h19 a20 h20 a21 h21 a35 h35 a36 h36 a37 h37 a38 h38 f0 f1 f2 f3 f4 f5 f6 f7 f8 f9 f10 f11 f12 f13 f14 f15 f16 f17 f18 tt
  clear f1 f2 f8
  have e98 : PT 98 = P_g1 := pe98_5 hp
  simp only [hF0, hF1, hF2, hF3, hF4, hF9, hF10, hF14, hF20, hF21, hFp_98, e98, P_g1, den_s, den_c, Int.add_zero, List.map_cons, List.map_nil, g2.eq, g3.eq, g5.eq, g8.eq, g9.eq, g10.eq, g11.eq, g13.eq, g14.eq, g15.eq, g16.eq, g17.eq, g18.eq, g19.eq, g20.eq, g21.eq, g22.eq, g23.eq, h3, h4, h5, h6, h7, h8, h11, h12, h13, h17, h18, h19, h20, h21, h35, h36, h37, h38] at f0 f3 f4 f5 f6 f7 f9 f10 f11 f12 f13 f14 f15 f16 f17 f18 ⊢
  subst f0
  subst f3
  subst f4
  subst f5
  subst f6
  subst f7
  subst f10
  subst f11
  subst f13
  subst f15
  first
    | omega
    | (obtain ⟨i1, i2⟩ := f17; refine ⟨?_, i2⟩; rw [show (0 : Int).toNat = 0 from rfl]; rw [show r5 = r14 by omega]; exact i1)
    | (obtain ⟨i1, i2⟩ := f17; refine ⟨?_, i2⟩; rw [foldI_s (by omega), ← i1]; unfold liS; rw [if_neg (by omega)]; done)
    | (obtain ⟨i1, i2⟩ := f17; refine ⟨?_, i2⟩; rw [foldI_s (by omega), ← i1]; unfold liS; rw [if_pos (by omega)]; unfold chF clF; (repeat' (first | rfl | (exfalso; omega) | split)); done))
def w_goesBy_2_8 : VC := (([(0, 23), (0, 49), (1, 8), (0, 10), (0, 8), (1, 6), (0, 6), (0, 8), (0, 11), (0, 9), ((-2147483648), 2147483647), ((-2147483648), 2147483647), (0, 5), (0, 23), (0, 5), (0, 23), (0, 7), ((-2147483648), 2147483647), ((-2147483648), 2147483647), (0, 7), (0, 9), ((-9), 0), (0, 99), ((-9), (-1))]), [(21, [(some 19, 0), (none, 0)], [38, 35]), (2, [(some 23, 0), (none, 0)], []), (4, [(some 23, 0), (some 22, 0), (some 21, 0)], []), (20, [(some 22, 0), (some 19, 0)], [35]), (9, [(some 21, 0), (some 20, 0)], []), (20, [(some 20, 0), (some 14, 0)], [13]), (20, [(some 19, 0), (some 14, 0)], [12]), (0, [(none, 0), (none, 0)], []), (1, [(some 18, 0), (none, 1)], []), (10, [(some 18, 0), (some 17, 0), (none, 1)], []), (14, [(some 17, 0), (some 11, 0), (some 14, 0)], []), (2, [(some 16, 0), (some 2, 0)], []), (20, [(some 16, 0), (some 14, 0)], [12]), (0, [(some 15, 0), (some 13, 0)], []), (20, [(some 15, 0), (some 14, 0)], [11]), (2, [(some 14, 0), (some 5, 0)], []), (98, [(some 14, 0), (some 2, 0), (some 8, 0), (some 3, 0), (some 9, 0), (some 10, 0), (some 11, 0), (some 13, 0)], [3, 4, 5, 6, 7, 8, 17, 18, 11, 12, 13, 19, 20, 21, 35, 36, 37]), (3, [(some 5, 0), (some 14, 0)], [])], (98, [(some 14, 1), (some 2, 0), (some 8, 0), (some 3, 0), (some 9, 0), (some 10, 0), (some 11, 0), (some 13, 0)], [3, 4, 5, 6, 7, 8, 17, 18, 11, 12, 13, 19, 20, 21, 38, 36, 37]))
set_option maxRecDepth 20000 in
theorem v_goesBy_2_8 {PT : PTy} (hp : HP5 PT) : vcOk PT w_goesBy_2_8 := vc_iv [(2, 1, 8), (3, 0, 10), (5, 1, 6), (8, 0, 11), (9, 0, 9), (10, (-2147483648), 2147483647), (11, (-2147483648), 2147483647), (13, 0, 23), (14, 0, 5), (15, 0, 23), (16, 0, 7), (17, (-2147483648), 2147483647), (18, (-2147483648), 2147483647), (19, 0, 7), (20, 0, 9), (21, (-9), 0), (22, 0, 99), (23, (-9), (-1))] [3, 4, 5, 6, 7, 8, 11, 12, 13, 17, 18, 19, 20, 21, 35, 36, 37, 38] (by decide +kernel) (fun ρ α => by
  intro r2 g2 b2 r3 g3 b3 r5 g5 b5 r8 g8 b8 r9 g9 b9 r10 g10 b10 r11 g11 b11 r13 g13 b13 r14 g14 b14 r15 g15 b15 r16 g16 b16 r17 g17 b17 r18 g18 b18 r19 g19 b19 r20 g20 b20 r21 g21 b21 r22 g22 b22 r23 g23 b23 a3 h3 a4 h4 a5 h5 a6 h6 a7 h7 a8 h8 a11 h11 a12 h12 a13 h13 a17 h17 a18 h18 a19 h19 a20 h20 a21 h21 a35 h35 a36 h36 a37 h37 a38 h38 f0 f1 f2 f3 f4 f5 f6 f7 f8 f9 f10 f11 f12 f13 f14 f15 f16 f17 tt
  clear f1 f7
  have e98 : PT 98 = P_g1 := pe98_5 hp
  simp only [hF0, hF1, hF2, hF3, hF4, hF9, hF10, hF14, hF20, hF21, hFp_98, e98, P_g1, den_s, den_c, Int.add_zero, List.map_cons, List.map_nil, g2.eq, g3.eq, g5.eq, g8.eq, g9.eq, g10.eq, g11.eq, g13.eq, g14.eq, g15.eq, g16.eq, g17.eq, g18.eq, g19.eq, g20.eq, g21.eq, g22.eq, g23.eq, h3, h4, h5, h6, h7, h8, h11, h12, h13, h17, h18, h19, h20, h21, h35, h36, h37, h38] at f0 f2 f3 f4 f5 f6 f8 f9 f10 f11 f12 f13 f14 f15 f16 f17 ⊢
  subst f0
  subst f2
  subst f3
  subst f4
  subst f5
  subst f6
  subst f9
  subst f10
  subst f12
  subst f14
  first
    | omega
    | (obtain ⟨i1, i2⟩ := f16; refine ⟨?_, i2⟩; rw [show (0 : Int).toNat = 0 from rfl]; rw [show r5 = r14 by omega]; exact i1)
    | (obtain ⟨i1, i2⟩ := f16; refine ⟨?_, i2⟩; rw [foldI_s (by omega), ← i1]; unfold liS; rw [if_neg (by omega)]; done)
    | (obtain ⟨i1, i2⟩ := f16; refine ⟨?_, i2⟩; rw [foldI_s (by omega), ← i1]; unfold liS; rw [if_pos (by omega)]; unfold chF clF; (repeat' (first | rfl | (exfalso; omega) | split)); done))
def w_goesBy_2_9 : VC := (([(0, 23), (0, 49), (1, 8), (0, 10), (0, 8), (1, 6), (0, 6), (0, 8), (0, 11), (0, 9), ((-2147483648), 2147483647), ((-2147483648), 2147483647), (0, 5), (0, 23), (0, 5), (0, 23), (0, 7), ((-2147483648), 2147483647), ((-2147483648), 2147483647), (0, 7), (0, 9), ((-9), 0), (0, 99), ((-9), (-1))]), [(21, [(some 19, 0), (none, 0)], [38, 35]), (2, [(some 23, 0), (none, 0)], []), (4, [(some 23, 0), (some 22, 0), (some 21, 0)], []), (20, [(some 22, 0), (some 19, 0)], [35]), (9, [(some 21, 0), (some 20, 0)], []), (20, [(some 20, 0), (some 14, 0)], [13]), (20, [(some 19, 0), (some 14, 0)], [12]), (0, [(none, 0), (none, 0)], []), (1, [(some 18, 0), (none, 1)], []), (10, [(some 18, 0), (some 17, 0), (none, 1)], []), (14, [(some 17, 0), (some 11, 0), (some 14, 0)], []), (2, [(some 16, 0), (some 2, 0)], []), (20, [(some 16, 0), (some 14, 0)], [12]), (0, [(some 15, 0), (some 13, 0)], []), (20, [(some 15, 0), (some 14, 0)], [11]), (2, [(some 14, 0), (some 5, 0)], []), (98, [(some 14, 0), (some 2, 0), (some 8, 0), (some 3, 0), (some 9, 0), (some 10, 0), (some 11, 0), (some 13, 0)], [3, 4, 5, 6, 7, 8, 17, 18, 11, 12, 13, 19, 20, 21, 35, 36, 37]), (3, [(some 5, 0), (some 14, 0)], [])], (3, [(some 5, 0), (some 14, 1)], []))
set_option maxRecDepth 20000 in
theorem v_goesBy_2_9 {PT : PTy} (hp : HP5 PT) : vcOk PT w_goesBy_2_9 := vc_iv [(2, 1, 8), (3, 0, 10), (5, 1, 6), (8, 0, 11), (9, 0, 9), (10, (-2147483648), 2147483647), (11, (-2147483648), 2147483647), (13, 0, 23), (14, 0, 5), (15, 0, 23), (16, 0, 7), (17, (-2147483648), 2147483647), (18, (-2147483648), 2147483647), (19, 0, 7), (20, 0, 9), (21, (-9), 0), (22, 0, 99), (23, (-9), (-1))] [3, 4, 5, 6, 7, 8, 11, 12, 13, 17, 18, 19, 20, 21, 35, 36, 37, 38] (by decide +kernel) (fun ρ α => by
  intro r2 g2 b2 r3 g3 b3 r5 g5 b5 r8 g8 b8 r9 g9 b9 r10 g10 b10 r11 g11 b11 r13 g13 b13 r14 g14 b14 r15 g15 b15 r16 g16 b16 r17 g17 b17 r18 g18 b18 r19 g19 b19 r20 g20 b20 r21 g21 b21 r22 g22 b22 r23 g23 b23 a3 h3 a4 h4 a5 h5 a6 h6 a7 h7 a8 h8 a11 h11 a12 h12 a13 h13 a17 h17 a18 h18 a19 h19 a20 h20 a21 h21 a35 h35 a36 h36 a37 h37 a38 h38 f0 f1 f2 f3 f4 f5 f6 f7 f8 f9 f10 f11 f12 f13 f14 f15 f16 f17 tt
  clear f1 f7
  have e98 : PT 98 = P_g1 := pe98_5 hp
  simp only [hF0, hF1, hF2, hF3, hF4, hF9, hF10, hF14, hF20, hF21, hFp_98, e98, P_g1, den_s, den_c, Int.add_zero, List.map_cons, List.map_nil, g2.eq, g3.eq, g5.eq, g8.eq, g9.eq, g10.eq, g11.eq, g13.eq, g14.eq, g15.eq, g16.eq, g17.eq, g18.eq, g19.eq, g20.eq, g21.eq, g22.eq, g23.eq, h3, h4, h5, h6, h7, h8, h11, h12, h13, h17, h18, h19, h20, h21, h35, h36, h37, h38] at f0 f2 f3 f4 f5 f6 f8 f9 f10 f11 f12 f13 f14 f15 f16 f17 ⊢
  subst f0
  subst f2
  subst f3
  subst f4
  subst f5
  subst f6
  subst f9
  subst f10
  subst f12
  subst f14
  first
    | omega
    | (obtain ⟨i1, i2⟩ := f16; refine ⟨?_, i2⟩; rw [show (0 : Int).toNat = 0 from rfl]; rw [show r5 = r14 by omega]; exact i1)
    | (obtain ⟨i1, i2⟩ := f16; refine ⟨?_, i2⟩; rw [foldI_s (by omega), ← i1]; unfold liS; rw [if_neg (by omega)]; done)
    | (obtain ⟨i1, i2⟩ := f16; refine ⟨?_, i2⟩; rw [foldI_s (by omega), ← i1]; unfold liS; rw [if_pos (by omega)]; unfold chF clF; (repeat' (first | rfl | (exfalso; omega) | split)); done))
def w_goesBy_2_10 : VC := (([(0, 23), (0, 49), (1, 8), (0, 10), (0, 8), (1, 6), (0, 6), (0, 8), (0, 11), (0, 9), ((-2147483648), 2147483647), ((-2147483648), 2147483647), (0, 5), (0, 23), (0, 5), (0, 23), (0, 7), ((-2147483648), 2147483647), (1, 1)]), [(1, [(none, 1), (none, 0)], []), (0, [(some 18, 0), (none, 1)], []), (10, [(some 18, 0), (some 17, 0), (none, 1)], []), (14, [(some 17, 0), (some 11, 0), (some 14, 0)], []), (2, [(some 16, 0), (some 2, 0)], []), (20, [(some 16, 0), (some 14, 0)], [12]), (0, [(some 15, 0), (some 13, 0)], []), (20, [(some 15, 0), (some 14, 0)], [11]), (2, [(some 14, 0), (some 5, 0)], []), (98, [(some 14, 0), (some 2, 0), (some 8, 0), (some 3, 0), (some 9, 0), (some 10, 0), (some 11, 0), (some 13, 0)], [3, 4, 5, 6, 7, 8, 17, 18, 11, 12, 13, 19, 20, 21, 35, 36, 37]), (3, [(some 5, 0), (some 14, 0)], [])], (98, [(some 14, 1), (some 2, 0), (some 8, 0), (some 3, 0), (some 9, 0), (some 10, 0), (some 11, 0), (some 13, 0)], [3, 4, 5, 6, 7, 8, 17, 18, 11, 12, 13, 19, 20, 21, 35, 36, 37]))
set_option maxRecDepth 20000 in
theorem v_goesBy_2_10 {PT : PTy} (hp : HP5 PT) : vcOk PT w_goesBy_2_10 := vc_iv [(2, 1, 8), (3, 0, 10), (5, 1, 6), (8, 0, 11), (9, 0, 9), (10, (-2147483648), 2147483647), (11, (-2147483648), 2147483647), (13, 0, 23), (14, 0, 5), (15, 0, 23), (16, 0, 7), (17, (-2147483648), 2147483647), (18, 1, 1)] [3, 4, 5, 6, 7, 8, 11, 12, 13, 17, 18, 19, 20, 21, 35, 36, 37] (by decide +kernel) (fun ρ α => by
  intro r2 g2 b2 r3 g3 b3 r5 g5 b5 r8 g8 b8 r9 g9 b9 r10 g10 b10 r11 g11 b11 r13 g13 b13 r14 g14 b14 r15 g15 b15 r16 g16 b16 r17 g17 b17 r18 g18 b18 a3 h3 a4 h4 a5 h5 a6 h6 a7 h7 a8 h8 a11 h11 a12 h12 a13 h13 a17 h17 a18 h18 a19 h19 a20 h20 a21 h21 a35 h35 a36 h36 a37 h37 f0 f1 f2 f3 f4 f5 f6 f7 f8 f9 f10 tt
  clear f0
  have e98 : PT 98 = P_g1 := pe98_5 hp
  simp only [hF0, hF2, hF3, hF10, hF14, hF20, hFp_98, e98, P_g1, den_s, den_c, Int.add_zero, List.map_cons, List.map_nil, g2.eq, g3.eq, g5.eq, g8.eq, g9.eq, g10.eq, g11.eq, g13.eq, g14.eq, g15.eq, g16.eq, g17.eq, g18.eq, h3, h4, h5, h6, h7, h8, h11, h12, h13, h17, h18, h19, h20, h21, h35, h36, h37] at f1 f2 f3 f4 f5 f6 f7 f8 f9 f10 ⊢
  subst f2
  subst f3
  subst f5
  subst f7
  first
    | omega
    | (obtain ⟨i1, i2⟩ := f9; refine ⟨?_, i2⟩; rw [show (0 : Int).toNat = 0 from rfl]; rw [show r5 = r14 by omega]; exact i1)
    | (obtain ⟨i1, i2⟩ := f9; refine ⟨?_, i2⟩; rw [foldI_s (by omega), ← i1]; unfold liS; rw [if_neg (by omega)]; done)
    | (obtain ⟨i1, i2⟩ := f9; refine ⟨?_, i2⟩; rw [foldI_s (by omega), ← i1]; unfold liS; rw [if_pos (by omega)]; unfold chF clF; (repeat' (first | rfl | (exfalso; omega) | split)); done))
def w_goesBy_2_11 : VC := (([(0, 23), (0, 49), (1, 8), (0, 10), (0, 8), (1, 6), (0, 6), (0, 8), (0, 11), (0, 9), ((-2147483648), 2147483647), ((-2147483648), 2147483647), (0, 5), (0, 23), (0, 5), (0, 23), (0, 7), ((-2147483648), 2147483647), (1, 1)]), [(1, [(none, 1), (none, 0)], []), (0, [(some 18, 0), (none, 1)], []), (10, [(some 18, 0), (some 17, 0), (none, 1)], []), (14, [(some 17, 0), (some 11, 0), (some 14, 0)], []), (2, [(some 16, 0), (some 2, 0)], []), (20, [(some 16, 0), (some 14, 0)], [12]), (0, [(some 15, 0), (some 13, 0)], []), (20, [(some 15, 0), (some 14, 0)], [11]), (2, [(some 14, 0), (some 5, 0)], []), (98, [(some 14, 0), (some 2, 0), (some 8, 0), (some 3, 0), (some 9, 0), (some 10, 0), (some 11, 0), (some 13, 0)], [3, 4, 5, 6, 7, 8, 17, 18, 11, 12, 13, 19, 20, 21, 35, 36, 37]), (3, [(some 5, 0), (some 14, 0)], [])], (3, [(some 5, 0), (some 14, 1)], []))
set_option maxRecDepth 20000 in
theorem v_goesBy_2_11 {PT : PTy} (hp : HP5 PT) : vcOk PT w_goesBy_2_11 := vc_iv [(2, 1, 8), (3, 0, 10), (5, 1, 6), (8, 0, 11), (9, 0, 9), (10, (-2147483648), 2147483647), (11, (-2147483648), 2147483647), (13, 0, 23), (14, 0, 5), (15, 0, 23), (16, 0, 7), (17, (-2147483648), 2147483647), (18, 1, 1)] [3, 4, 5, 6, 7, 8, 11, 12, 13, 17, 18, 19, 20, 21, 35, 36, 37] (by decide +kernel) (fun ρ α => by
  intro r2 g2 b2 r3 g3 b3 r5 g5 b5 r8 g8 b8 r9 g9 b9 r10 g10 b10 r11 g11 b11 r13 g13 b13 r14 g14 b14 r15 g15 b15 r16 g16 b16 r17 g17 b17 r18 g18 b18 a3 h3 a4 h4 a5 h5 a6 h6 a7 h7 a8 h8 a11 h11 a12 h12 a13 h13 a17 h17 a18 h18 a19 h19 a20 h20 a21 h21 a35 h35 a36 h36 a37 h37 f0 f1 f2 f3 f4 f5 f6 f7 f8 f9 f10 tt
  clear f0
  have e98 : PT 98 = P_g1 := pe98_5 hp
  simp only [hF0, hF2, hF3, hF10, hF14, hF20, hFp_98, e98, P_g1, den_s, den_c, Int.add_zero, List.map_cons, List.map_nil, g2.eq, g3.eq, g5.eq, g8.eq, g9.eq, g10.eq, g11.eq, g13.eq, g14.eq, g15.eq, g16.eq, g17.eq, g18.eq, h3, h4, h5, h6, h7, h8, h11, h12, h13, h17, h18, h19, h20, h21, h35, h36, h37] at f1 f2 f3 f4 f5 f6 f7 f8 f9 f10 ⊢
  subst f2
  subst f3
  subst f5
  subst f7
  first
    | omega
    | (obtain ⟨i1, i2⟩ := f9; refine ⟨?_, i2⟩; rw [show (0 : Int).toNat = 0 from rfl]; rw [show r5 = r14 by omega]; exact i1)
    | (obtain ⟨i1, i2⟩ := f9; refine ⟨?_, i2⟩; rw [foldI_s (by omega), ← i1]; unfold liS; rw [if_neg (by omega)]; done)
    | (obtain ⟨i1, i2⟩ := f9; refine ⟨?_, i2⟩; rw [foldI_s (by omega), ← i1]; unfold liS; rw [if_pos (by omega)]; unfold chF clF; (repeat' (first | rfl | (exfalso; omega) | split)); done))
def w_goesBy_3_0 : VC := ((bY ++ [(0, 23), (0, 11)]), [(3, [(some 14, 0), (some 8, 0)], []), (101, [(some 14, 0), (some 2, 0), (some 8, 0), (some 3, 0), (some 9, 0), (some 5, 0), (some 6, 0), (some 10, 0), (some 11, 0), (some 13, 0)], [3, 4, 5, 6, 7, 8, 17, 18, 11, 12, 13, 14, 15, 16, 19, 20, 21, 35, 36, 37, 22, 23, 38, 39, 24, 40]), (3, [(some 8, 0), (some 14, 0)], [])], (101, [(some 8, 0), (some 2, 0), (some 8, 0), (some 3, 0), (some 9, 0), (some 5, 0), (some 6, 0), (some 10, 0), (some 11, 0), (some 13, 0)], [3, 4, 5, 6, 7, 8, 17, 18, 11, 12, 13, 14, 15, 16, 19, 20, 21, 35, 36, 37, 22, 23, 38, 39, 24, 40]))
set_option maxRecDepth 20000 in
theorem v_goesBy_3_0 {PT : PTy} (hp : HP5 PT) : vcOk PT w_goesBy_3_0 := vc_iv [(2, 0, 8), (3, 0, 10), (5, 0, 6), (6, 0, 6), (8, 0, 11), (9, 0, 9), (10, (-2147483648), 2147483647), (11, (-2147483648), 2147483647), (13, 0, 23), (14, 0, 11)] [3, 4, 5, 6, 7, 8, 11, 12, 13, 14, 15, 16, 17, 18, 19, 20, 21, 22, 23, 24, 35, 36, 37, 38, 39, 40] (by decide +kernel) (fun ρ α => by
  intro r2 g2 b2 r3 g3 b3 r5 g5 b5 r6 g6 b6 r8 g8 b8 r9 g9 b9 r10 g10 b10 r11 g11 b11 r13 g13 b13 r14 g14 b14 a3 h3 a4 h4 a5 h5 a6 h6 a7 h7 a8 h8 a11 h11 a12 h12 a13 h13 a14 h14 a15 h15 a16 h16 a17 h17 a18 h18 a19 h19 a20 h20 a21 h21 a22 h22 a23 h23 a24 h24 a35 h35 a36 h36 a37 h37 a38 h38 a39 h39 a40 h40 f0 f1 f2 tt
  have e101 : PT 101 = P_g4 := pe101_5 hp
  simp only [hF3, hFp_101, e101, P_g4, den_s, den_c, Int.add_zero, List.map_cons, List.map_nil, g2.eq, g3.eq, g5.eq, g6.eq, g8.eq, g9.eq, g10.eq, g11.eq, g13.eq, g14.eq, h3, h4, h5, h6, h7, h8, h11, h12, h13, h14, h15, h16, h17, h18, h19, h20, h21, h22, h23, h24, h35, h36, h37, h38, h39, h40] at f0 f1 f2 ⊢
  first
    | omega
    | (obtain ⟨i1, i2, i3, i4⟩ := f1; rw [show r14 = r8 by omega] at i4; exact ⟨i1, i2, i3, i4⟩)
    | (obtain ⟨i1, i2, i3, i4⟩ := f1; exact ⟨i1, i2, i3, by rw [upF_s (by omega), ← i4]⟩))
def w_goesBy_3_1 : VC := (([(0, 23), (0, 49), (0, 8), (0, 10), (0, 8), (0, 6), (0, 6), (0, 8), (1, 11), (0, 9), ((-2147483648), 2147483647), ((-2147483648), 2147483647), (0, 5), (0, 23), (0, 10), (0, 276), (0, 286), (0, 3)]), [(21, [(some 16, 0), (some 17, 0)], [41, 40]), (20, [(some 17, 0), (some 14, 0)], [37]), (4, [(some 16, 0), (some 15, 0), (some 14, 0)], []), (6, [(some 15, 0), (none, 12), (some 13, 0)], []), (2, [(some 14, 0), (some 8, 0)], []), (101, [(some 14, 0), (some 2, 0), (some 8, 0), (some 3, 0), (some 9, 0), (some 5, 0), (some 6, 0), (some 10, 0), (some 11, 0), (some 13, 0)], [3, 4, 5, 6, 7, 8, 17, 18, 11, 12, 13, 14, 15, 16, 19, 20, 21, 35, 36, 37, 22, 23, 38, 39, 24, 40]), (3, [(some 8, 0), (some 14, 0)], [])], (101, [(some 14, 1), (some 2, 0), (some 8, 0), (some 3, 0), (some 9, 0), (some 5, 0), (some 6, 0), (some 10, 0), (some 11, 0), (some 13, 0)], [3, 4, 5, 6, 7, 8, 17, 18, 11, 12, 13, 14, 15, 16, 19, 20, 21, 35, 36, 37, 22, 23, 38, 39, 24, 41]))
set_option maxRecDepth 20000 in
theorem v_goesBy_3_1 {PT : PTy} (hp : HP5 PT) : vcOk PT w_goesBy_3_1 := vc_iv [(2, 0, 8), (3, 0, 10), (5, 0, 6), (6, 0, 6), (8, 1, 11), (9, 0, 9), (10, (-2147483648), 2147483647), (11, (-2147483648), 2147483647), (13, 0, 23), (14, 0, 10), (15, 0, 276), (16, 0, 286), (17, 0, 3)] [3, 4, 5, 6, 7, 8, 11, 12, 13, 14, 15, 16, 17, 18, 19, 20, 21, 22, 23, 24, 35, 36, 37, 38, 39, 40, 41] (by decide +kernel) (fun ρ α => by
  intro r2 g2 b2 r3 g3 b3 r5 g5 b5 r6 g6 b6 r8 g8 b8 r9 g9 b9 r10 g10 b10 r11 g11 b11 r13 g13 b13 r14 g14 b14 r15 g15 b15 r16 g16 b16 r17 g17 b17 a3 h3 a4 h4 a5 h5 a6 h6 a7 h7 a8 h8 a11 h11 a12 h12 a13 h13 a14 h14 a15 h15 a16 h16 a17 h17 a18 h18 a19 h19 a20 h20 a21 h21 a22 h22 a23 h23 a24 h24 a35 h35 a36 h36 a37 h37 a38 h38 a39 h39 a40 h40 a41 h41 f0 f1 f2 f3 f4 f5 f6 tt
  have e101 : PT 101 = P_g4 := pe101_5 hp
  simp only [hF2, hF3, hF4, hF6, hF20, hF21, hFp_101, e101, P_g4, den_s, den_c, Int.add_zero, List.map_cons, List.map_nil, g2.eq, g3.eq, g5.eq, g6.eq, g8.eq, g9.eq, g10.eq, g11.eq, g13.eq, g14.eq, g15.eq, g16.eq, g17.eq, h3, h4, h5, h6, h7, h8, h11, h12, h13, h14, h15, h16, h17, h18, h19, h20, h21, h22, h23, h24, h35, h36, h37, h38, h39, h40, h41] at f0 f1 f2 f3 f4 f5 f6 ⊢
  subst f0
  subst f1
  subst f2
  subst f3
  first
    | omega
    | (obtain ⟨i1, i2, i3, i4⟩ := f5; rw [show r14 = r8 by omega] at i4; exact ⟨i1, i2, i3, i4⟩)
    | (obtain ⟨i1, i2, i3, i4⟩ := f5; exact ⟨i1, i2, i3, by rw [upF_s (by omega), ← i4]⟩))
def w_goesBy_3_2 : VC := (([(0, 23), (0, 49), (0, 8), (0, 10), (0, 8), (0, 6), (0, 6), (0, 8), (1, 11), (0, 9), ((-2147483648), 2147483647), ((-2147483648), 2147483647), (0, 5), (0, 23), (0, 10), (0, 276), (0, 286), (0, 3)]), [(21, [(some 16, 0), (some 17, 0)], [41, 40]), (20, [(some 17, 0), (some 14, 0)], [37]), (4, [(some 16, 0), (some 15, 0), (some 14, 0)], []), (6, [(some 15, 0), (none, 12), (some 13, 0)], []), (2, [(some 14, 0), (some 8, 0)], []), (101, [(some 14, 0), (some 2, 0), (some 8, 0), (some 3, 0), (some 9, 0), (some 5, 0), (some 6, 0), (some 10, 0), (some 11, 0), (some 13, 0)], [3, 4, 5, 6, 7, 8, 17, 18, 11, 12, 13, 14, 15, 16, 19, 20, 21, 35, 36, 37, 22, 23, 38, 39, 24, 40]), (3, [(some 8, 0), (some 14, 0)], [])], (3, [(some 8, 0), (some 14, 1)], []))
set_option maxRecDepth 20000 in
theorem v_goesBy_3_2 {PT : PTy} (hp : HP5 PT) : vcOk PT w_goesBy_3_2 := vc_iv [(2, 0, 8), (3, 0, 10), (5, 0, 6), (6, 0, 6), (8, 1, 11), (9, 0, 9), (10, (-2147483648), 2147483647), (11, (-2147483648), 2147483647), (13, 0, 23), (14, 0, 10), (15, 0, 276), (16, 0, 286), (17, 0, 3)] [3, 4, 5, 6, 7, 8, 11, 12, 13, 14, 15, 16, 17, 18, 19, 20, 21, 22, 23, 24, 35, 36, 37, 38, 39, 40, 41] (by decide +kernel) (fun ρ α => by
  intro r2 g2 b2 r3 g3 b3 r5 g5 b5 r6 g6 b6 r8 g8 b8 r9 g9 b9 r10 g10 b10 r11 g11 b11 r13 g13 b13 r14 g14 b14 r15 g15 b15 r16 g16 b16 r17 g17 b17 a3 h3 a4 h4 a5 h5 a6 h6 a7 h7 a8 h8 a11 h11 a12 h12 a13 h13 a14 h14 a15 h15 a16 h16 a17 h17 a18 h18 a19 h19 a20 h20 a21 h21 a22 h22 a23 h23 a24 h24 a35 h35 a36 h36 a37 h37 a38 h38 a39 h39 a40 h40 a41 h41 f0 f1 f2 f3 f4 f5 f6 tt
  have e101 : PT 101 = P_g4 := pe101_5 hp
  simp only [hF2, hF3, hF4, hF6, hF20, hF21, hFp_101, e101, P_g4, den_s, den_c, Int.add_zero, List.map_cons, List.map_nil, g2.eq, g3.eq, g5.eq, g6.eq, g8.eq, g9.eq, g10.eq, g11.eq, g13.eq, g14.eq, g15.eq, g16.eq, g17.eq, h3, h4, h5, h6, h7, h8, h11, h12, h13, h14, h15, h16, h17, h18, h19, h20, h21, h22, h23, h24, h35, h36, h37, h38, h39, h40, h41] at f0 f1 f2 f3 f4 f5 f6 ⊢
  subst f0
  subst f1
  subst f2
  subst f3
  first
    | omega
    | (obtain ⟨i1, i2, i3, i4⟩ := f5; rw [show r14 = r8 by omega] at i4; exact ⟨i1, i2, i3, i4⟩)
    | (obtain ⟨i1, i2, i3, i4⟩ := f5; exact ⟨i1, i2, i3, by rw [upF_s (by omega), ← i4]⟩))
def w_goesBy_4_0 : VC := ((bY ++ [(0, 23), (0, 6)]), [(3, [(some 14, 0), (some 6, 0)], []), (99, [(some 14, 0), (some 2, 0), (some 8, 0), (some 3, 0), (some 9, 0), (some 5, 0), (some 10, 0), (some 11, 0), (some 13, 0)], [3, 4, 5, 6, 7, 8, 17, 18, 11, 12, 13, 14, 15, 16, 19, 20, 21, 35, 36, 37]), (3, [(some 6, 0), (some 14, 0)], [])], (100, [(none, 0), (some 2, 0), (some 8, 0), (some 3, 0), (some 9, 0), (some 5, 0), (some 6, 0), (some 10, 0), (some 11, 0), (some 13, 0)], [3, 4, 5, 6, 7, 8, 17, 18, 11, 12, 13, 14, 15, 16, 19, 20, 21, 35, 36, 37, 22, 23, 22, 23]))
set_option maxRecDepth 20000 in
theorem v_goesBy_4_0 {PT : PTy} (hp : HP5 PT) : vcOk PT w_goesBy_4_0 := vc_iv [(2, 0, 8), (3, 0, 10), (5, 0, 6), (6, 0, 6), (8, 0, 11), (9, 0, 9), (10, (-2147483648), 2147483647), (11, (-2147483648), 2147483647), (13, 0, 23), (14, 0, 6)] [3, 4, 5, 6, 7, 8, 11, 12, 13, 14, 15, 16, 17, 18, 19, 20, 21, 22, 23, 35, 36, 37] (by decide +kernel) (fun ρ α => by
  intro r2 g2 b2 r3 g3 b3 r5 g5 b5 r6 g6 b6 r8 g8 b8 r9 g9 b9 r10 g10 b10 r11 g11 b11 r13 g13 b13 r14 g14 b14 a3 h3 a4 h4 a5 h5 a6 h6 a7 h7 a8 h8 a11 h11 a12 h12 a13 h13 a14 h14 a15 h15 a16 h16 a17 h17 a18 h18 a19 h19 a20 h20 a21 h21 a22 h22 a23 h23 a35 h35 a36 h36 a37 h37 f0 f1 f2 tt
  have e99 : PT 99 = P_g2 := pe99_5 hp
  have e100 : PT 100 = P_g3 := pe100_5 hp
  simp only [hF3, hFp_99, hFp_100, e99, e100, P_g2, P_g3, den_s, den_c, Int.add_zero, List.map_cons, List.map_nil, g2.eq, g3.eq, g5.eq, g6.eq, g8.eq, g9.eq, g10.eq, g11.eq, g13.eq, g14.eq, h3, h4, h5, h6, h7, h8, h11, h12, h13, h14, h15, h16, h17, h18, h19, h20, h21, h22, h23, h35, h36, h37] at f0 f1 f2 ⊢
  first
    | omega
    | (obtain ⟨i1, i2⟩ := f1; refine ⟨?_, rfl, rfl⟩; unfold dyS; rw [← i2, show r6 = r14 by omega, ← i1]; done)
    | (obtain ⟨i1, i2⟩ := f1; refine ⟨?_, i2⟩; rw [foldI_s (by omega), ← i1]; unfold leS; rw [if_neg (by omega)]; done)
    | (obtain ⟨i1, i2⟩ := f1; refine ⟨?_, i2⟩; rw [foldI_s (by omega), ← i1]; unfold leS; rw [if_pos (by omega)]; unfold chF clF; (repeat' (first | rfl | (exfalso; omega) | split)); done))
def w_goesBy_4_1 : VC := ((bY ++ [(0, 23), (0, 6)]), [(3, [(some 14, 0), (some 6, 0)], []), (99, [(some 14, 0), (some 2, 0), (some 8, 0), (some 3, 0), (some 9, 0), (some 5, 0), (some 10, 0), (some 11, 0), (some 13, 0)], [3, 4, 5, 6, 7, 8, 17, 18, 11, 12, 13, 14, 15, 16, 19, 20, 21, 35, 36, 37]), (3, [(some 6, 0), (some 14, 0)], [])], (3, [(some 2, 0), (none, 0)], []))
set_option maxRecDepth 20000 in
theorem v_goesBy_4_1 {PT : PTy} (hp : HP5 PT) : vcOk PT w_goesBy_4_1 := vc_iv [(2, 0, 8), (3, 0, 10), (5, 0, 6), (6, 0, 6), (8, 0, 11), (9, 0, 9), (10, (-2147483648), 2147483647), (11, (-2147483648), 2147483647), (13, 0, 23), (14, 0, 6)] [3, 4, 5, 6, 7, 8, 11, 12, 13, 14, 15, 16, 17, 18, 19, 20, 21, 35, 36, 37] (by decide +kernel) (fun ρ α => by
  intro r2 g2 b2 r3 g3 b3 r5 g5 b5 r6 g6 b6 r8 g8 b8 r9 g9 b9 r10 g10 b10 r11 g11 b11 r13 g13 b13 r14 g14 b14 a3 h3 a4 h4 a5 h5 a6 h6 a7 h7 a8 h8 a11 h11 a12 h12 a13 h13 a14 h14 a15 h15 a16 h16 a17 h17 a18 h18 a19 h19 a20 h20 a21 h21 a35 h35 a36 h36 a37 h37 f0 f1 f2 tt
  have e99 : PT 99 = P_g2 := pe99_5 hp
  simp only [hF3, hFp_99, e99, P_g2, den_s, den_c, Int.add_zero, List.map_cons, List.map_nil, g2.eq, g3.eq, g5.eq, g6.eq, g8.eq, g9.eq, g10.eq, g11.eq, g13.eq, g14.eq, h3, h4, h5, h6, h7, h8, h11, h12, h13, h14, h15, h16, h17, h18, h19, h20, h21, h35, h36, h37] at f0 f1 f2 ⊢
  first
    | omega
    | (obtain ⟨i1, i2⟩ := f1; refine ⟨?_, rfl, rfl⟩; unfold dyS; rw [← i2, show r6 = r14 by omega, ← i1]; done)
    | (obtain ⟨i1, i2⟩ := f1; refine ⟨?_, i2⟩; rw [foldI_s (by omega), ← i1]; unfold leS; rw [if_neg (by omega)]; done)
    | (obtain ⟨i1, i2⟩ := f1; refine ⟨?_, i2⟩; rw [foldI_s (by omega), ← i1]; unfold leS; rw [if_pos (by omega)]; unfold chF clF; (repeat' (first | rfl | (exfalso; omega) | split)); done))
def w_goesBy_4_2 : VC := (([(0, 23), (0, 49), (0, 8), (0, 10), (0, 8), (0, 6), (1, 6), (0, 8), (0, 11), (0, 9), ((-2147483648), 2147483647), ((-2147483648), 2147483647), (0, 5), (0, 23), (0, 5), (0, 23)]), [(1, [(some 15, 0), (some 13, 0)], []), (20, [(some 15, 0), (some 14, 0)], [14]), (2, [(some 14, 0), (some 6, 0)], []), (99, [(some 14, 0), (some 2, 0), (some 8, 0), (some 3, 0), (some 9, 0), (some 5, 0), (some 10, 0), (some 11, 0), (some 13, 0)], [3, 4, 5, 6, 7, 8, 17, 18, 11, 12, 13, 14, 15, 16, 19, 20, 21, 35, 36, 37]), (3, [(some 6, 0), (some 14, 0)], [])], (99, [(some 14, 1), (some 2, 0), (some 8, 0), (some 3, 0), (some 9, 0), (some 5, 0), (some 10, 0), (some 11, 0), (some 13, 0)], [3, 4, 5, 6, 7, 8, 17, 18, 11, 12, 13, 14, 15, 16, 19, 20, 21, 35, 36, 37]))
set_option maxRecDepth 20000 in
theorem v_goesBy_4_2 {PT : PTy} (hp : HP5 PT) : vcOk PT w_goesBy_4_2 := vc_iv [(2, 0, 8), (3, 0, 10), (5, 0, 6), (6, 1, 6), (8, 0, 11), (9, 0, 9), (10, (-2147483648), 2147483647), (11, (-2147483648), 2147483647), (13, 0, 23), (14, 0, 5), (15, 0, 23)] [3, 4, 5, 6, 7, 8, 11, 12, 13, 14, 15, 16, 17, 18, 19, 20, 21, 35, 36, 37] (by decide +kernel) (fun ρ α => by
  intro r2 g2 b2 r3 g3 b3 r5 g5 b5 r6 g6 b6 r8 g8 b8 r9 g9 b9 r10 g10 b10 r11 g11 b11 r13 g13 b13 r14 g14 b14 r15 g15 b15 a3 h3 a4 h4 a5 h5 a6 h6 a7 h7 a8 h8 a11 h11 a12 h12 a13 h13 a14 h14 a15 h15 a16 h16 a17 h17 a18 h18 a19 h19 a20 h20 a21 h21 a35 h35 a36 h36 a37 h37 f0 f1 f2 f3 f4 tt
  have e99 : PT 99 = P_g2 := pe99_5 hp
  simp only [hF1, hF2, hF3, hF20, hFp_99, e99, P_g2, den_s, den_c, Int.add_zero, List.map_cons, List.map_nil, g2.eq, g3.eq, g5.eq, g6.eq, g8.eq, g9.eq, g10.eq, g11.eq, g13.eq, g14.eq, g15.eq, h3, h4, h5, h6, h7, h8, h11, h12, h13, h14, h15, h16, h17, h18, h19, h20, h21, h35, h36, h37] at f0 f1 f2 f3 f4 ⊢
  subst f1
  first
    | omega
    | (obtain ⟨i1, i2⟩ := f3; refine ⟨?_, rfl, rfl⟩; unfold dyS; rw [← i2, show r6 = r14 by omega, ← i1]; done)
    | (obtain ⟨i1, i2⟩ := f3; refine ⟨?_, i2⟩; rw [foldI_s (by omega), ← i1]; unfold leS; rw [if_neg (by omega)]; done)
    | (obtain ⟨i1, i2⟩ := f3; refine ⟨?_, i2⟩; rw [foldI_s (by omega), ← i1]; unfold leS; rw [if_pos (by omega)]; unfold chF clF; (repeat' (first | rfl | (exfalso; omega) | split)); done))
def w_goesBy_4_3 : VC := (([(0, 23), (0, 49), (0, 8), (0, 10), (0, 8), (0, 6), (1, 6), (0, 8), (0, 11), (0, 9), ((-2147483648), 2147483647), ((-2147483648), 2147483647), (0, 5), (0, 23), (0, 5), (0, 23)]), [(1, [(some 15, 0), (some 13, 0)], []), (20, [(some 15, 0), (some 14, 0)], [14]), (2, [(some 14, 0), (some 6, 0)], []), (99, [(some 14, 0), (some 2, 0), (some 8, 0), (some 3, 0), (some 9, 0), (some 5, 0), (some 10, 0), (some 11, 0), (some 13, 0)], [3, 4, 5, 6, 7, 8, 17, 18, 11, 12, 13, 14, 15, 16, 19, 20, 21, 35, 36, 37]), (3, [(some 6, 0), (some 14, 0)], [])], (3, [(some 6, 0), (some 14, 1)], []))
set_option maxRecDepth 20000 in
theorem v_goesBy_4_3 {PT : PTy} (hp : HP5 PT) : vcOk PT w_goesBy_4_3 := vc_iv [(2, 0, 8), (3, 0, 10), (5, 0, 6), (6, 1, 6), (8, 0, 11), (9, 0, 9), (10, (-2147483648), 2147483647), (11, (-2147483648), 2147483647), (13, 0, 23), (14, 0, 5), (15, 0, 23)] [3, 4, 5, 6, 7, 8, 11, 12, 13, 14, 15, 16, 17, 18, 19, 20, 21, 35, 36, 37] (by decide +kernel) (fun ρ α => by
  intro r2 g2 b2 r3 g3 b3 r5 g5 b5 r6 g6 b6 r8 g8 b8 r9 g9 b9 r10 g10 b10 r11 g11 b11 r13 g13 b13 r14 g14 b14 r15 g15 b15 a3 h3 a4 h4 a5 h5 a6 h6 a7 h7 a8 h8 a11 h11 a12 h12 a13 h13 a14 h14 a15 h15 a16 h16 a17 h17 a18 h18 a19 h19 a20 h20 a21 h21 a35 h35 a36 h36 a37 h37 f0 f1 f2 f3 f4 tt
  have e99 : PT 99 = P_g2 := pe99_5 hp
  simp only [hF1, hF2, hF3, hF20, hFp_99, e99, P_g2, den_s, den_c, Int.add_zero, List.map_cons, List.map_nil, g2.eq, g3.eq, g5.eq, g6.eq, g8.eq, g9.eq, g10.eq, g11.eq, g13.eq, g14.eq, g15.eq, h3, h4, h5, h6, h7, h8, h11, h12, h13, h14, h15, h16, h17, h18, h19, h20, h21, h35, h36, h37] at f0 f1 f2 f3 f4 ⊢
  subst f1
  first
    | omega
    | (obtain ⟨i1, i2⟩ := f3; refine ⟨?_, rfl, rfl⟩; unfold dyS; rw [← i2, show r6 = r14 by omega, ← i1]; done)
    | (obtain ⟨i1, i2⟩ := f3; refine ⟨?_, i2⟩; rw [foldI_s (by omega), ← i1]; unfold leS; rw [if_neg (by omega)]; done)
    | (obtain ⟨i1, i2⟩ := f3; refine ⟨?_, i2⟩; rw [foldI_s (by omega), ← i1]; unfold leS; rw [if_pos (by omega)]; unfold chF clF; (repeat' (first | rfl | (exfalso; omega) | split)); done))
def w_goesBy_4_4 : VC := (([(0, 23), (0, 49), (0, 7), (0, 10), (0, 8), (0, 6), (1, 6), (0, 8), (0, 11), (0, 9), ((-2147483648), 2147483647), ((-2147483648), 2147483647), (0, 5), (0, 23), (0, 5), (0, 23), (0, 7)]), [(3, [(some 16, 0), (some 2, 0)], []), (20, [(some 16, 0), (some 14, 0)], [15]), (0, [(some 15, 0), (some 13, 0)], []), (20, [(some 15, 0), (some 14, 0)], [14]), (2, [(some 14, 0), (some 6, 0)], []), (99, [(some 14, 0), (some 2, 0), (some 8, 0), (some 3, 0), (some 9, 0), (some 5, 0), (some 10, 0), (some 11, 0), (some 13, 0)], [3, 4, 5, 6, 7, 8, 17, 18, 11, 12, 13, 14, 15, 16, 19, 20, 21, 35, 36, 37]), (3, [(some 6, 0), (some 14, 0)], [])], (99, [(some 14, 1), (some 2, 0), (some 8, 0), (some 3, 0), (some 9, 0), (some 5, 0), (some 10, 0), (some 11, 0), (some 13, 0)], [3, 4, 5, 6, 7, 8, 17, 18, 11, 12, 13, 14, 15, 16, 19, 20, 21, 35, 36, 37]))
set_option maxRecDepth 20000 in
theorem v_goesBy_4_4 {PT : PTy} (hp : HP5 PT) : vcOk PT w_goesBy_4_4 := vc_iv [(2, 0, 7), (3, 0, 10), (5, 0, 6), (6, 1, 6), (8, 0, 11), (9, 0, 9), (10, (-2147483648), 2147483647), (11, (-2147483648), 2147483647), (13, 0, 23), (14, 0, 5), (15, 0, 23), (16, 0, 7)] [3, 4, 5, 6, 7, 8, 11, 12, 13, 14, 15, 16, 17, 18, 19, 20, 21, 35, 36, 37] (by decide +kernel) (fun ρ α => by
  intro r2 g2 b2 r3 g3 b3 r5 g5 b5 r6 g6 b6 r8 g8 b8 r9 g9 b9 r10 g10 b10 r11 g11 b11 r13 g13 b13 r14 g14 b14 r15 g15 b15 r16 g16 b16 a3 h3 a4 h4 a5 h5 a6 h6 a7 h7 a8 h8 a11 h11 a12 h12 a13 h13 a14 h14 a15 h15 a16 h16 a17 h17 a18 h18 a19 h19 a20 h20 a21 h21 a35 h35 a36 h36 a37 h37 f0 f1 f2 f3 f4 f5 f6 tt
  have e99 : PT 99 = P_g2 := pe99_5 hp
  simp only [hF0, hF2, hF3, hF20, hFp_99, e99, P_g2, den_s, den_c, Int.add_zero, List.map_cons, List.map_nil, g2.eq, g3.eq, g5.eq, g6.eq, g8.eq, g9.eq, g10.eq, g11.eq, g13.eq, g14.eq, g15.eq, g16.eq, h3, h4, h5, h6, h7, h8, h11, h12, h13, h14, h15, h16, h17, h18, h19, h20, h21, h35, h36, h37] at f0 f1 f2 f3 f4 f5 f6 ⊢
  subst f1
  subst f3
  first
    | omega
    | (obtain ⟨i1, i2⟩ := f5; refine ⟨?_, rfl, rfl⟩; unfold dyS; rw [← i2, show r6 = r14 by omega, ← i1]; done)
    | (obtain ⟨i1, i2⟩ := f5; refine ⟨?_, i2⟩; rw [foldI_s (by omega), ← i1]; unfold leS; rw [if_neg (by omega)]; done)
    | (obtain ⟨i1, i2⟩ := f5; refine ⟨?_, i2⟩; rw [foldI_s (by omega), ← i1]; unfold leS; rw [if_pos (by omega)]; unfold chF clF; (repeat' (first | rfl | (exfalso; omega) | split)); done))
def w_goesBy_4_5 : VC := (([(0, 23), (0, 49), (0, 7), (0, 10), (0, 8), (0, 6), (1, 6), (0, 8), (0, 11), (0, 9), ((-2147483648), 2147483647), ((-2147483648), 2147483647), (0, 5), (0, 23), (0, 5), (0, 23), (0, 7)]), [(3, [(some 16, 0), (some 2, 0)], []), (20, [(some 16, 0), (some 14, 0)], [15]), (0, [(some 15, 0), (some 13, 0)], []), (20, [(some 15, 0), (some 14, 0)], [14]), (2, [(some 14, 0), (some 6, 0)], []), (99, [(some 14, 0), (some 2, 0), (some 8, 0), (some 3, 0), (some 9, 0), (some 5, 0), (some 10, 0), (some 11, 0), (some 13, 0)], [3, 4, 5, 6, 7, 8, 17, 18, 11, 12, 13, 14, 15, 16, 19, 20, 21, 35, 36, 37]), (3, [(some 6, 0), (some 14, 0)], [])], (3, [(some 6, 0), (some 14, 1)], []))
set_option maxRecDepth 20000 in
theorem v_goesBy_4_5 {PT : PTy} (hp : HP5 PT) : vcOk PT w_goesBy_4_5 := vc_iv [(2, 0, 7), (3, 0, 10), (5, 0, 6), (6, 1, 6), (8, 0, 11), (9, 0, 9), (10, (-2147483648), 2147483647), (11, (-2147483648), 2147483647), (13, 0, 23), (14, 0, 5), (15, 0, 23), (16, 0, 7)] [3, 4, 5, 6, 7, 8, 11, 12, 13, 14, 15, 16, 17, 18, 19, 20, 21, 35, 36, 37] (by decide +kernel) (fun ρ α => by
  intro r2 g2 b2 r3 g3 b3 r5 g5 b5 r6 g6 b6 r8 g8 b8 r9 g9 b9 r10 g10 b10 r11 g11 b11 r13 g13 b13 r14 g14 b14 r15 g15 b15 r16 g16 b16 a3 h3 a4 h4 a5 h5 a6 h6 a7 h7 a8 h8 a11 h11 a12 h12 a13 h13 a14 h14 a15 h15 a16 h16 a17 h17 a18 h18 a19 h19 a20 h20 a21 h21 a35 h35 a36 h36 a37 h37 f0 f1 f2 f3 f4 f5 f6 tt
  have e99 : PT 99 = P_g2 := pe99_5 hp
  simp only [hF0, hF2, hF3, hF20, hFp_99, e99, P_g2, den_s, den_c, Int.add_zero, List.map_cons, List.map_nil, g2.eq, g3.eq, g5.eq, g6.eq, g8.eq, g9.eq, g10.eq, g11.eq, g13.eq, g14.eq, g15.eq, g16.eq, h3, h4, h5, h6, h7, h8, h11, h12, h13, h14, h15, h16, h17, h18, h19, h20, h21, h35, h36, h37] at f0 f1 f2 f3 f4 f5 f6 ⊢
  subst f1
  subst f3
  first
    | omega
    | (obtain ⟨i1, i2⟩ := f5; refine ⟨?_, rfl, rfl⟩; unfold dyS; rw [← i2, show r6 = r14 by omega, ← i1]; done)
    | (obtain ⟨i1, i2⟩ := f5; refine ⟨?_, i2⟩; rw [foldI_s (by omega), ← i1]; unfold leS; rw [if_neg (by omega)]; done)
    | (obtain ⟨i1, i2⟩ := f5; refine ⟨?_, i2⟩; rw [foldI_s (by omega), ← i1]; unfold leS; rw [if_pos (by omega)]; unfold chF clF; (repeat' (first | rfl | (exfalso; omega) | split)); done))
def w_goesBy_4_6 : VC := (([(0, 23), (0, 49), (1, 8), (0, 10), (0, 8), (0, 6), (1, 6), (0, 8), (0, 11), (0, 9), ((-2147483648), 2147483647), ((-2147483648), 2147483647), (0, 5), (0, 23), (0, 5), (0, 23), (0, 7), (0, 7), (0, 9), (0, 99), (0, 99)]), [(21, [(some 17, 0), (some 20, 0)], [38, 35]), (3, [(none, 99), (some 20, 0)], []), (3, [(some 20, 0), (none, 0)], []), (4, [(some 20, 0), (some 19, 0), (some 18, 0)], []), (20, [(some 19, 0), (some 17, 0)], [35]), (20, [(some 18, 0), (some 14, 0)], [16]), (20, [(some 17, 0), (some 14, 0)], [15]), (2, [(some 16, 0), (some 2, 0)], []), (20, [(some 16, 0), (some 14, 0)], [15]), (0, [(some 15, 0), (some 13, 0)], []), (20, [(some 15, 0), (some 14, 0)], [14]), (2, [(some 14, 0), (some 6, 0)], []), (99, [(some 14, 0), (some 2, 0), (some 8, 0), (some 3, 0), (some 9, 0), (some 5, 0), (some 10, 0), (some 11, 0), (some 13, 0)], [3, 4, 5, 6, 7, 8, 17, 18, 11, 12, 13, 14, 15, 16, 19, 20, 21, 35, 36, 37]), (3, [(some 6, 0), (some 14, 0)], [])], (99, [(some 14, 1), (some 2, 0), (some 8, 0), (some 3, 0), (some 9, 0), (some 5, 0), (some 10, 0), (some 11, 0), (some 13, 0)], [3, 4, 5, 6, 7, 8, 17, 18, 11, 12, 13, 14, 15, 16, 19, 20, 21, 38, 36, 37]))
set_option maxRecDepth 20000 in
theorem v_goesBy_4_6 {PT : PTy} (hp : HP5 PT) : vcOk PT w_goesBy_4_6 := vc_iv [(2, 1, 8), (3, 0, 10), (5, 0, 6), (6, 1, 6), (8, 0, 11), (9, 0, 9), (10, (-2147483648), 2147483647), (11, (-2147483648), 2147483647), (13, 0, 23), (14, 0, 5), (15, 0, 23), (16, 0, 7), (17, 0, 7), (18, 0, 9), (19, 0, 99), (20, 0, 99)] [3, 4, 5, 6, 7, 8, 11, 12, 13, 14, 15, 16, 17, 18, 19, 20, 21, 35, 36, 37, 38] (by decide +kernel) (fun ρ α => by
  intro r2 g2 b2 r3 g3 b3 r5 g5 b5 r6 g6 b6 r8 g8 b8 r9 g9 b9 r10 g10 b10 r11 g11 b11 r13 g13 b13 r14 g14 b14 r15 g15 b15 r16 g16 b16 r17 g17 b17 r18 g18 b18 r19 g19 b19 r20 g20 b20 a3 h3 a4 h4 a5 h5 a6 h6 a7 h7 a8 h8 a11 h11 a12 h12 a13 h13 a14 h14 a15 h15 a16 h16 a17 h17 a18 h18 a19 h19 a20 h20 a21 h21 a35 h35 a36 h36 a37 h37 a38 h38 f0 f1 f2 f3 f4 f5 f6 f7 f8 f9 f10 f11 f12 f13 tt
  clear f1 f2
  have e99 : PT 99 = P_g2 := pe99_5 hp
  simp only [hF0, hF2, hF3, hF4, hF20, hF21, hFp_99, e99, P_g2, den_s, den_c, Int.add_zero, List.map_cons, List.map_nil, g2.eq, g3.eq, g5.eq, g6.eq, g8.eq, g9.eq, g10.eq, g11.eq, g13.eq, g14.eq, g15.eq, g16.eq, g17.eq, g18.eq, g19.eq, g20.eq, h3, h4, h5, h6, h7, h8, h11, h12, h13, h14, h15, h16, h17, h18, h19, h20, h21, h35, h36, h37, h38] at f0 f3 f4 f5 f6 f7 f8 f9 f10 f11 f12 f13 ⊢
  subst f0
  subst f3
  subst f4
  subst f5
  subst f6
  subst f8
  subst f10
  first
    | omega
    | (obtain ⟨i1, i2⟩ := f12; refine ⟨?_, rfl, rfl⟩; unfold dyS; rw [← i2, show r6 = r14 by omega, ← i1]; done)
    | (obtain ⟨i1, i2⟩ := f12; refine ⟨?_, i2⟩; rw [foldI_s (by omega), ← i1]; unfold leS; rw [if_neg (by omega)]; done)
    | (obtain ⟨i1, i2⟩ := f12; refine ⟨?_, i2⟩; rw [foldI_s (by omega), ← i1]; unfold leS; rw [if_pos (by omega)]; unfold chF clF; (repeat' (first | rfl | (exfalso; omega) | split)); done))
def w_goesBy_4_7 : VC := (([(0, 23), (0, 49), (1, 8), (0, 10), (0, 8), (0, 6), (1, 6), (0, 8), (0, 11), (0, 9), ((-2147483648), 2147483647), ((-2147483648), 2147483647), (0, 5), (0, 23), (0, 5), (0, 23), (0, 7), (0, 7), (0, 9), (0, 99), (0, 99)]), [(21, [(some 17, 0), (some 20, 0)], [38, 35]), (3, [(none, 99), (some 20, 0)], []), (3, [(some 20, 0), (none, 0)], []), (4, [(some 20, 0), (some 19, 0), (some 18, 0)], []), (20, [(some 19, 0), (some 17, 0)], [35]), (20, [(some 18, 0), (some 14, 0)], [16]), (20, [(some 17, 0), (some 14, 0)], [15]), (2, [(some 16, 0), (some 2, 0)], []), (20, [(some 16, 0), (some 14, 0)], [15]), (0, [(some 15, 0), (some 13, 0)], []), (20, [(some 15, 0), (some 14, 0)], [14]), (2, [(some 14, 0), (some 6, 0)], []), (99, [(some 14, 0), (some 2, 0), (some 8, 0), (some 3, 0), (some 9, 0), (some 5, 0), (some 10, 0), (some 11, 0), (some 13, 0)], [3, 4, 5, 6, 7, 8, 17, 18, 11, 12, 13, 14, 15, 16, 19, 20, 21, 35, 36, 37]), (3, [(some 6, 0), (some 14, 0)], [])], (3, [(some 6, 0), (some 14, 1)], []))
set_option maxRecDepth 20000 in
theorem v_goesBy_4_7 {PT : PTy} (hp : HP5 PT) : vcOk PT w_goesBy_4_7 := vc_iv [(2, 1, 8), (3, 0, 10), (5, 0, 6), (6, 1, 6), (8, 0, 11), (9, 0, 9), (10, (-2147483648), 2147483647), (11, (-2147483648), 2147483647), (13, 0, 23), (14, 0, 5), (15, 0, 23), (16, 0, 7), (17, 0, 7), (18, 0, 9), (19, 0, 99), (20, 0, 99)] [3, 4, 5, 6, 7, 8, 11, 12, 13, 14, 15, 16, 17, 18, 19, 20, 21, 35, 36, 37, 38] (by decide +kernel) (fun ρ α => by
  intro r2 g2 b2 r3 g3 b3 r5 g5 b5 r6 g6 b6 r8 g8 b8 r9 g9 b9 r10 g10 b10 r11 g11 b11 r13 g13 b13 r14 g14 b14 r15 g15 b15 r16 g16 b16 r17 g17 b17 r18 g18 b18 r19 g19 b19 r20 g20 b20 a3 h3 a4 h4 a5 h5 a6 h6 a7 h7 a8 h8 a11 h11 a12 h12 a13 h13 a14 h14 a15 h15 a16 h16 a17 h17 a18 h18 a19 h19 a20 h20 a21 h21 a35 h35 a36 h36 a37 h37 a38 h38 f0 f1 f2 f3 f4 f5 f6 f7 f8 f9 f10 f11 f12 f13 tt
  clear f1 f2
  have e99 : PT 99 = P_g2 := pe99_5 hp
  simp only [hF0, hF2, hF3, hF4, hF20, hF21, hFp_99, e99, P_g2, den_s, den_c, Int.add_zero, List.map_cons, List.map_nil, g2.eq, g3.eq, g5.eq, g6.eq, g8.eq, g9.eq, g10.eq, g11.eq, g13.eq, g14.eq, g15.eq, g16.eq, g17.eq, g18.eq, g19.eq, g20.eq, h3, h4, h5, h6, h7, h8, h11, h12, h13, h14, h15, h16, h17, h18, h19, h20, h21, h35, h36, h37, h38] at f0 f3 f4 f5 f6 f7 f8 f9 f10 f11 f12 f13 ⊢
  subst f0
  subst f3
  subst f4
  subst f5
  subst f6
  subst f8
  subst f10
  first
    | omega
    | (obtain ⟨i1, i2⟩ := f12; refine ⟨?_, rfl, rfl⟩; unfold dyS; rw [← i2, show r6 = r14 by omega, ← i1]; done)
    | (obtain ⟨i1, i2⟩ := f12; refine ⟨?_, i2⟩; rw [foldI_s (by omega), ← i1]; unfold leS; rw [if_neg (by omega)]; done)
    | (obtain ⟨i1, i2⟩ := f12; refine ⟨?_, i2⟩; rw [foldI_s (by omega), ← i1]; unfold leS; rw [if_pos (by omega)]; unfold chF clF; (repeat' (first | rfl | (exfalso; omega) | split)); done))
def w_goesBy_4_8 : VC := (([(0, 23), (0, 49), (1, 8), (0, 10), (0, 8), (0, 6), (1, 6), (0, 8), (0, 11), (0, 9), ((-2147483648), 2147483647), ((-2147483648), 2147483647), (0, 5), (0, 23), (0, 5), (0, 23), (0, 7), (0, 7), (0, 9), (0, 99), (100, 108)]), [(21, [(some 17, 0), (none, 99)], [38, 35]), (2, [(none, 99), (some 20, 0)], []), (3, [(some 20, 0), (none, 0)], []), (4, [(some 20, 0), (some 19, 0), (some 18, 0)], []), (20, [(some 19, 0), (some 17, 0)], [35]), (20, [(some 18, 0), (some 14, 0)], [16]), (20, [(some 17, 0), (some 14, 0)], [15]), (2, [(some 16, 0), (some 2, 0)], []), (20, [(some 16, 0), (some 14, 0)], [15]), (0, [(some 15, 0), (some 13, 0)], []), (20, [(some 15, 0), (some 14, 0)], [14]), (2, [(some 14, 0), (some 6, 0)], []), (99, [(some 14, 0), (some 2, 0), (some 8, 0), (some 3, 0), (some 9, 0), (some 5, 0), (some 10, 0), (some 11, 0), (some 13, 0)], [3, 4, 5, 6, 7, 8, 17, 18, 11, 12, 13, 14, 15, 16, 19, 20, 21, 35, 36, 37]), (3, [(some 6, 0), (some 14, 0)], [])], (99, [(some 14, 1), (some 2, 0), (some 8, 0), (some 3, 0), (some 9, 0), (some 5, 0), (some 10, 0), (some 11, 0), (some 13, 0)], [3, 4, 5, 6, 7, 8, 17, 18, 11, 12, 13, 14, 15, 16, 19, 20, 21, 38, 36, 37]))
set_option maxRecDepth 20000 in
theorem v_goesBy_4_8 {PT : PTy} (hp : HP5 PT) : vcOk PT w_goesBy_4_8 := vc_iv [(2, 1, 8), (3, 0, 10), (5, 0, 6), (6, 1, 6), (8, 0, 11), (9, 0, 9), (10, (-2147483648), 2147483647), (11, (-2147483648), 2147483647), (13, 0, 23), (14, 0, 5), (15, 0, 23), (16, 0, 7), (17, 0, 7), (18, 0, 9), (19, 0, 99), (20, 100, 108)] [3, 4, 5, 6, 7, 8, 11, 12, 13, 14, 15, 16, 17, 18, 19, 20, 21, 35, 36, 37, 38] (by decide +kernel) (fun ρ α => by
  intro r2 g2 b2 r3 g3 b3 r5 g5 b5 r6 g6 b6 r8 g8 b8 r9 g9 b9 r10 g10 b10 r11 g11 b11 r13 g13 b13 r14 g14 b14 r15 g15 b15 r16 g16 b16 r17 g17 b17 r18 g18 b18 r19 g19 b19 r20 g20 b20 a3 h3 a4 h4 a5 h5 a6 h6 a7 h7 a8 h8 a11 h11 a12 h12 a13 h13 a14 h14 a15 h15 a16 h16 a17 h17 a18 h18 a19 h19 a20 h20 a21 h21 a35 h35 a36 h36 a37 h37 a38 h38 f0 f1 f2 f3 f4 f5 f6 f7 f8 f9 f10 f11 f12 f13 tt
  clear f1 f2
  have e99 : PT 99 = P_g2 := pe99_5 hp
  simp only [hF0, hF2, hF3, hF4, hF20, hF21, hFp_99, e99, P_g2, den_s, den_c, Int.add_zero, List.map_cons, List.map_nil, g2.eq, g3.eq, g5.eq, g6.eq, g8.eq, g9.eq, g10.eq, g11.eq, g13.eq, g14.eq, g15.eq, g16.eq, g17.eq, g18.eq, g19.eq, g20.eq, h3, h4, h5, h6, h7, h8, h11, h12, h13, h14, h15, h16, h17, h18, h19, h20, h21, h35, h36, h37, h38] at f0 f3 f4 f5 f6 f7 f8 f9 f10 f11 f12 f13 ⊢
  subst f0
  subst f3
  subst f4
  subst f5
  subst f6
  subst f8
  subst f10
  first
    | omega
    | (obtain ⟨i1, i2⟩ := f12; refine ⟨?_, rfl, rfl⟩; unfold dyS; rw [← i2, show r6 = r14 by omega, ← i1]; done)
    | (obtain ⟨i1, i2⟩ := f12; refine ⟨?_, i2⟩; rw [foldI_s (by omega), ← i1]; unfold leS; rw [if_neg (by omega)]; done)
    | (obtain ⟨i1, i2⟩ := f12; refine ⟨?_, i2⟩; rw [foldI_s (by omega), ← i1]; unfold leS; rw [if_pos (by omega)]; unfold chF clF; (repeat' (first | rfl | (exfalso; omega) | split)); done))
def w_goesBy_4_9 : VC := (([(0, 23), (0, 49), (1, 8), (0, 10), (0, 8), (0, 6), (1, 6), (0, 8), (0, 11), (0, 9), ((-2147483648), 2147483647), ((-2147483648), 2147483647), (0, 5), (0, 23), (0, 5), (0, 23), (0, 7), (0, 7), (0, 9), (0, 99), (100, 108)]), [(21, [(some 17, 0), (none, 99)], [38, 35]), (2, [(none, 99), (some 20, 0)], []), (3, [(some 20, 0), (none, 0)], []), (4, [(some 20, 0), (some 19, 0), (some 18, 0)], []), (20, [(some 19, 0), (some 17, 0)], [35]), (20, [(some 18, 0), (some 14, 0)], [16]), (20, [(some 17, 0), (some 14, 0)], [15]), (2, [(some 16, 0), (some 2, 0)], []), (20, [(some 16, 0), (some 14, 0)], [15]), (0, [(some 15, 0), (some 13, 0)], []), (20, [(some 15, 0), (some 14, 0)], [14]), (2, [(some 14, 0), (some 6, 0)], []), (99, [(some 14, 0), (some 2, 0), (some 8, 0), (some 3, 0), (some 9, 0), (some 5, 0), (some 10, 0), (some 11, 0), (some 13, 0)], [3, 4, 5, 6, 7, 8, 17, 18, 11, 12, 13, 14, 15, 16, 19, 20, 21, 35, 36, 37]), (3, [(some 6, 0), (some 14, 0)], [])], (3, [(some 6, 0), (some 14, 1)], []))
set_option maxRecDepth 20000 in
theorem v_goesBy_4_9 {PT : PTy} (hp : HP5 PT) : vcOk PT w_goesBy_4_9 := vc_iv [(2, 1, 8), (3, 0, 10), (5, 0, 6), (6, 1, 6), (8, 0, 11), (9, 0, 9), (10, (-2147483648), 2147483647), (11, (-2147483648), 2147483647), (13, 0, 23), (14, 0, 5), (15, 0, 23), (16, 0, 7), (17, 0, 7), (18, 0, 9), (19, 0, 99), (20, 100, 108)] [3, 4, 5, 6, 7, 8, 11, 12, 13, 14, 15, 16, 17, 18, 19, 20, 21, 35, 36, 37, 38] (by decide +kernel) (fun ρ α => by
  intro r2 g2 b2 r3 g3 b3 r5 g5 b5 r6 g6 b6 r8 g8 b8 r9 g9 b9 r10 g10 b10 r11 g11 b11 r13 g13 b13 r14 g14 b14 r15 g15 b15 r16 g16 b16 r17 g17 b17 r18 g18 b18 r19 g19 b19 r20 g20 b20 a3 h3 a4 h4 a5 h5 a6 h6 a7 h7 a8 h8 a11 h11 a12 h12 a13 h13 a14 h14 a15 h15 a16 h16 a17 h17 a18 h18 a19 h19 a20 h20 a21 h21 a35 h35 a36 h36 a37 h37 a38 h38 f0 f1 f2 f3 f4 f5 f6 f7 f8 f9 f10 f11 f12 f13 tt
  clear f1 f2
  have e99 : PT 99 = P_g2 := pe99_5 hp
  simp only [hF0, hF2, hF3, hF4, hF20, hF21, hFp_99, e99, P_g2, den_s, den_c, Int.add_zero, List.map_cons, List.map_nil, g2.eq, g3.eq, g5.eq, g6.eq, g8.eq, g9.eq, g10.eq, g11.eq, g13.eq, g14.eq, g15.eq, g16.eq, g17.eq, g18.eq, g19.eq, g20.eq, h3, h4, h5, h6, h7, h8, h11, h12, h13, h14, h15, h16, h17, h18, h19, h20, h21, h35, h36, h37, h38] at f0 f3 f4 f5 f6 f7 f8 f9 f10 f11 f12 f13 ⊢
  subst f0
  subst f3
  subst f4
  subst f5
  subst f6
  subst f8
  subst f10
  first
    | omega
    | (obtain ⟨i1, i2⟩ := f12; refine ⟨?_, rfl, rfl⟩; unfold dyS; rw [← i2, show r6 = r14 by omega, ← i1]; done)
    | (obtain ⟨i1, i2⟩ := f12; refine ⟨?_, i2⟩; rw [foldI_s (by omega), ← i1]; unfold leS; rw [if_neg (by omega)]; done)
    | (obtain ⟨i1, i2⟩ := f12; refine ⟨?_, i2⟩; rw [foldI_s (by omega), ← i1]; unfold leS; rw [if_pos (by omega)]; unfold chF clF; (repeat' (first | rfl | (exfalso; omega) | split)); done))
set_option maxRecDepth 1000000 in
theorem k_goesBy {PT : PTy} (hp : HP5 PT) : wfX c_goesBy = true ∧ xcOk PT c_goesBy := xctr (xl (k_makes hp) (xl (k_keepsOn hp) (xl (k_breaks hp) (xl0)))) c_goesBy 83 mX7_goesBy rfl h_goesBy (by decide +kernel) (by decide +kernel) (by decide) (vcs_by [w_goesBy_0_0, w_goesBy_0_1] (by decide +kernel) (vc (v_goesBy_0_0 hp) (vc (v_goesBy_0_1 hp) vn))) (fmc (vcs_by [w_goesBy_1_0, w_goesBy_1_1, w_goesBy_1_2, w_goesBy_1_3] (by decide +kernel) (vc (v_goesBy_1_0 hp) (vc (v_goesBy_1_1 hp) (vc (v_goesBy_1_2 hp) (vc (v_goesBy_1_3 hp) vn))))) (fmc (vcs_by [w_goesBy_2_0, w_goesBy_2_1, w_goesBy_2_2, w_goesBy_2_3, w_goesBy_2_4, w_goesBy_2_5, w_goesBy_2_6, w_goesBy_2_7, w_goesBy_2_8, w_goesBy_2_9, w_goesBy_2_10, w_goesBy_2_11] (by decide +kernel) (vc (v_goesBy_2_0 hp) (vc (v_goesBy_2_1 hp) (vc (v_goesBy_2_2 hp) (vc (v_goesBy_2_3 hp) (vc (v_goesBy_2_4 hp) (vc (v_goesBy_2_5 hp) (vc (v_goesBy_2_6 hp) (vc (v_goesBy_2_7 hp) (vc (v_goesBy_2_8 hp) (vc (v_goesBy_2_9 hp) (vc (v_goesBy_2_10 hp) (vc (v_goesBy_2_11 hp) vn))))))))))))) (fmc (vcs_by [w_goesBy_3_0, w_goesBy_3_1, w_goesBy_3_2] (by decide +kernel) (vc (v_goesBy_3_0 hp) (vc (v_goesBy_3_1 hp) (vc (v_goesBy_3_2 hp) vn)))) (fmc (vcs_by [w_goesBy_4_0, w_goesBy_4_1, w_goesBy_4_2, w_goesBy_4_3, w_goesBy_4_4, w_goesBy_4_5, w_goesBy_4_6, w_goesBy_4_7, w_goesBy_4_8, w_goesBy_4_9] (by decide +kernel) (vc (v_goesBy_4_0 hp) (vc (v_goesBy_4_1 hp) (vc (v_goesBy_4_2 hp) (vc (v_goesBy_4_3 hp) (vc (v_goesBy_4_4 hp) (vc (v_goesBy_4_5 hp) (vc (v_goesBy_4_6 hp) (vc (v_goesBy_4_7 hp) (vc (v_goesBy_4_8 hp) (vc (v_goesBy_4_9 hp) vn))))))))))) fmn))))
def c_runs : XC := (140, 4, (bY), [.inr (.inl 0)], gY2, [], [((bY), none, gY2, (ansT 35 [(19, 35), (20, 36), (21, 37), (22, 38), (23, 39), (24, 40)]), 41, [(104, [(none, 24), (some 2, 0), (some 8, 0), (some 3, 0), (some 9, 0), (some 5, 0), (some 6, 0), (some 10, 0), (some 11, 0)], [3, 4, 5, 6, 7, 8, 17, 18, 11, 12, 13, 14, 15, 16, 19, 20, 21, 35, 36, 37, 38, 39, 40])])])
def h_runs : List XH := [(2, (bY ++ [(0, 8)]), [some (.inr (.inl 0)), some (.inl (some 13, 0))], gY2, (ansT 35 [(19, 35), (20, 36)]), 37, [(102, [(some 13, 0)], [4, 19, 20, 35, 36]), (3, [(some 2, 0), (some 13, 0)], [])], [(true, (none, 1)), (true, (some 13, 0))]),
  (37, (bY ++ [(0, 11)]), [some (.inr (.inl 0)), some (.inl (some 13, 0))], gY2, (ansT 35 [(19, 35), (20, 36), (21, 37)]), 38, [(103, [(some 13, 0), (some 2, 0)], [4, 19, 20, 35, 36, 21, 37]), (3, [(some 8, 0), (some 13, 0)], [])], [(true, (none, 2)), (true, (some 13, 0))]),
  (60, (bY ++ [(0, 24)]), [some (.inr (.inl 0)), some (.inl (some 13, 0))], gY2, (ansT 35 [(19, 35), (20, 36), (21, 37), (22, 38), (23, 39), (24, 40)]), 41, [(104, [(some 13, 0), (some 2, 0), (some 8, 0), (some 3, 0), (some 9, 0), (some 5, 0), (some 6, 0), (some 10, 0), (some 11, 0)], [3, 4, 5, 6, 7, 8, 17, 18, 11, 12, 13, 14, 15, 16, 19, 20, 21, 35, 36, 37, 38, 39, 40]), (3, [(none, 24), (some 13, 0)], [])], [(true, (none, 3)), (true, (some 13, 0))])]
def w_runs_0_0 : VC := ((bY), [], (102, [(none, 0)], [4, 19, 20, 19, 20]))
theorem pe102_5 {PT : PTy} (hp : HP5 PT) : PT 102 = P_r1 := hp.2.2.2.2.2.2.2.2.1
set_option maxRecDepth 20000 in
theorem v_runs_0_0 {PT : PTy} (hp : HP5 PT) : vcOk PT w_runs_0_0 := vc_in [] (by decide +kernel) (fun ρ α => by
  intro tt
  have e102 : PT 102 = P_r1 := pe102_5 hp
  simp only [hFp_102, e102, P_r1, den_s, den_c, Int.add_zero, List.map_cons, List.map_nil] at ⊢
  first | omega | exact ⟨rfl, rfl⟩)
def w_runs_0_1 : VC := ((bY), [], (3, [(some 2, 0), (none, 0)], []))
set_option maxRecDepth 20000 in
theorem v_runs_0_1 {PT : PTy} (hp : HP5 PT) : vcOk PT w_runs_0_1 := vc_in [(2, 0, 8)] (by decide +kernel) (fun ρ α => by
  intro b2 tt
  simp only [hF3, den_s, den_c, Int.add_zero, List.map_cons, List.map_nil] at ⊢
  first | omega | exact ⟨rfl, rfl⟩)
def w_runs_1_0 : VC := ((bY ++ [(0, 8)]), [(3, [(some 13, 0), (some 2, 0)], []), (102, [(some 13, 0)], [4, 19, 20, 35, 36]), (3, [(some 2, 0), (some 13, 0)], [])], (103, [(none, 0), (some 2, 0)], [4, 19, 20, 35, 36, 21, 21]))
theorem pe103_5 {PT : PTy} (hp : HP5 PT) : PT 103 = P_r2 := hp.2.2.2.2.2.2.2.2.2.1
set_option maxRecDepth 20000 in
theorem v_runs_1_0 {PT : PTy} (hp : HP5 PT) : vcOk PT w_runs_1_0 := vc_iv [(2, 0, 8), (13, 0, 8)] [4, 19, 20, 21, 35, 36] (by decide +kernel) (fun ρ α => by
  intro r2 g2 b2 r13 g13 b13 a4 h4 a19 h19 a20 h20 a21 h21 a35 h35 a36 h36 f0 f1 f2 tt
  have e102 : PT 102 = P_r1 := pe102_5 hp
  have e103 : PT 103 = P_r2 := pe103_5 hp
  simp only [hF3, hFp_102, hFp_103, e102, e103, P_r1, P_r2, den_s, den_c, Int.add_zero, List.map_cons, List.map_nil, g2.eq, g13.eq, h4, h19, h20, h21, h35, h36] at f0 f1 f2 ⊢
  first
    | omega
    | (obtain ⟨i1, i2⟩ := f1; rw [show r13 = r2 by omega] at i1 i2; exact ⟨i1, i2, rfl⟩)
    | (obtain ⟨i1, i2⟩ := f1; exact ⟨by rw [upF_s (by omega), Int.zero_add, ← i1], by rw [upF_s (by omega), Int.zero_add, ← i2]⟩))
def w_runs_1_1 : VC := ((bY ++ [(0, 8)]), [(3, [(some 13, 0), (some 2, 0)], []), (102, [(some 13, 0)], [4, 19, 20, 35, 36]), (3, [(some 2, 0), (some 13, 0)], [])], (3, [(some 8, 0), (none, 0)], []))
set_option maxRecDepth 20000 in
theorem v_runs_1_1 {PT : PTy} (hp : HP5 PT) : vcOk PT w_runs_1_1 := vc_iv [(2, 0, 8), (8, 0, 11), (13, 0, 8)] [4, 19, 20, 35, 36] (by decide +kernel) (fun ρ α => by
  intro r2 g2 b2 r8 g8 b8 r13 g13 b13 a4 h4 a19 h19 a20 h20 a35 h35 a36 h36 f0 f1 f2 tt
  have e102 : PT 102 = P_r1 := pe102_5 hp
  simp only [hF3, hFp_102, e102, P_r1, den_s, den_c, Int.add_zero, List.map_cons, List.map_nil, g2.eq, g8.eq, g13.eq, h4, h19, h20, h35, h36] at f0 f1 f2 ⊢
  first
    | omega
    | (obtain ⟨i1, i2⟩ := f1; rw [show r13 = r2 by omega] at i1 i2; exact ⟨i1, i2, rfl⟩)
    | (obtain ⟨i1, i2⟩ := f1; exact ⟨by rw [upF_s (by omega), Int.zero_add, ← i1], by rw [upF_s (by omega), Int.zero_add, ← i2]⟩))
def w_runs_1_2 : VC := (([(0, 23), (0, 49), (1, 8), (0, 10), (0, 8), (0, 6), (0, 6), (0, 8), (0, 11), (0, 9), ((-2147483648), 2147483647), ((-2147483648), 2147483647), (0, 5), (0, 7), (0, 9)]), [(21, [(some 13, 0), (none, 0)], [38, 36]), (21, [(some 13, 0), (some 14, 0)], [37, 35]), (20, [(some 14, 0), (some 13, 0)], [4]), (2, [(some 13, 0), (some 2, 0)], []), (102, [(some 13, 0)], [4, 19, 20, 35, 36]), (3, [(some 2, 0), (some 13, 0)], [])], (102, [(some 13, 1)], [4, 19, 20, 37, 38]))
set_option maxRecDepth 20000 in
theorem v_runs_1_2 {PT : PTy} (hp : HP5 PT) : vcOk PT w_runs_1_2 := vc_iv [(2, 1, 8), (13, 0, 7), (14, 0, 9)] [4, 19, 20, 35, 36, 37, 38] (by decide +kernel) (fun ρ α => by
  intro r2 g2 b2 r13 g13 b13 r14 g14 b14 a4 h4 a19 h19 a20 h20 a35 h35 a36 h36 a37 h37 a38 h38 f0 f1 f2 f3 f4 f5 tt
  have e102 : PT 102 = P_r1 := pe102_5 hp
  simp only [hF2, hF3, hF20, hF21, hFp_102, e102, P_r1, den_s, den_c, Int.add_zero, List.map_cons, List.map_nil, g2.eq, g13.eq, g14.eq, h4, h19, h20, h35, h36, h37, h38] at f0 f1 f2 f3 f4 f5 ⊢
  subst f0
  subst f1
  subst f2
  first
    | omega
    | (obtain ⟨i1, i2⟩ := f4; rw [show r13 = r2 by omega] at i1 i2; exact ⟨i1, i2, rfl⟩)
    | (obtain ⟨i1, i2⟩ := f4; exact ⟨by rw [upF_s (by omega), Int.zero_add, ← i1], by rw [upF_s (by omega), Int.zero_add, ← i2]⟩))
def w_runs_1_3 : VC := (([(0, 23), (0, 49), (1, 8), (0, 10), (0, 8), (0, 6), (0, 6), (0, 8), (0, 11), (0, 9), ((-2147483648), 2147483647), ((-2147483648), 2147483647), (0, 5), (0, 7), (0, 9)]), [(21, [(some 13, 0), (none, 0)], [38, 36]), (21, [(some 13, 0), (some 14, 0)], [37, 35]), (20, [(some 14, 0), (some 13, 0)], [4]), (2, [(some 13, 0), (some 2, 0)], []), (102, [(some 13, 0)], [4, 19, 20, 35, 36]), (3, [(some 2, 0), (some 13, 0)], [])], (3, [(some 2, 0), (some 13, 1)], []))
set_option maxRecDepth 20000 in
theorem v_runs_1_3 {PT : PTy} (hp : HP5 PT) : vcOk PT w_runs_1_3 := vc_iv [(2, 1, 8), (13, 0, 7), (14, 0, 9)] [4, 19, 20, 35, 36, 37, 38] (by decide +kernel) (fun ρ α => by
  intro r2 g2 b2 r13 g13 b13 r14 g14 b14 a4 h4 a19 h19 a20 h20 a35 h35 a36 h36 a37 h37 a38 h38 f0 f1 f2 f3 f4 f5 tt
  have e102 : PT 102 = P_r1 := pe102_5 hp
  simp only [hF2, hF3, hF20, hF21, hFp_102, e102, P_r1, den_s, den_c, Int.add_zero, List.map_cons, List.map_nil, g2.eq, g13.eq, g14.eq, h4, h19, h20, h35, h36, h37, h38] at f0 f1 f2 f3 f4 f5 ⊢
  subst f0
  subst f1
  subst f2
  first
    | omega
    | (obtain ⟨i1, i2⟩ := f4; rw [show r13 = r2 by omega] at i1 i2; exact ⟨i1, i2, rfl⟩)
    | (obtain ⟨i1, i2⟩ := f4; exact ⟨by rw [upF_s (by omega), Int.zero_add, ← i1], by rw [upF_s (by omega), Int.zero_add, ← i2]⟩))
def w_runs_2_0 : VC := ((bY ++ [(0, 11)]), [(3, [(some 13, 0), (some 8, 0)], []), (103, [(some 13, 0), (some 2, 0)], [4, 19, 20, 35, 36, 21, 37]), (3, [(some 8, 0), (some 13, 0)], [])], (104, [(none, 0), (some 2, 0), (some 8, 0), (some 3, 0), (some 9, 0), (some 5, 0), (some 6, 0), (some 10, 0), (some 11, 0)], [3, 4, 5, 6, 7, 8, 17, 18, 11, 12, 13, 14, 15, 16, 19, 20, 21, 35, 36, 37, 22, 23, 24]))
theorem pe104_5 {PT : PTy} (hp : HP5 PT) : PT 104 = P_ru := hp.2.2.2.2.2.2.2.2.2.2.1
set_option maxRecDepth 20000 in
theorem v_runs_2_0 {PT : PTy} (hp : HP5 PT) : vcOk PT w_runs_2_0 := vc_iv [(2, 0, 8), (3, 0, 10), (5, 0, 6), (6, 0, 6), (8, 0, 11), (9, 0, 9), (10, (-2147483648), 2147483647), (11, (-2147483648), 2147483647), (13, 0, 11)] [3, 4, 5, 6, 7, 8, 11, 12, 13, 14, 15, 16, 17, 18, 19, 20, 21, 22, 23, 24, 35, 36, 37] (by decide +kernel) (fun ρ α => by
  intro r2 g2 b2 r3 g3 b3 r5 g5 b5 r6 g6 b6 r8 g8 b8 r9 g9 b9 r10 g10 b10 r11 g11 b11 r13 g13 b13 a3 h3 a4 h4 a5 h5 a6 h6 a7 h7 a8 h8 a11 h11 a12 h12 a13 h13 a14 h14 a15 h15 a16 h16 a17 h17 a18 h18 a19 h19 a20 h20 a21 h21 a22 h22 a23 h23 a24 h24 a35 h35 a36 h36 a37 h37 f0 f1 f2 tt
  have e103 : PT 103 = P_r2 := pe103_5 hp
  have e104 : PT 104 = P_ru := pe104_5 hp
  simp only [hF3, hFp_103, hFp_104, e103, e104, P_r2, P_ru, den_s, den_c, Int.add_zero, List.map_cons, List.map_nil, g2.eq, g3.eq, g5.eq, g6.eq, g8.eq, g9.eq, g10.eq, g11.eq, g13.eq, h3, h4, h5, h6, h7, h8, h11, h12, h13, h14, h15, h16, h17, h18, h19, h20, h21, h22, h23, h24, h35, h36, h37] at f0 f1 f2 ⊢
  first
    | omega
    | (obtain ⟨i1, i2, i3⟩ := f1; rw [show r13 = r8 by omega] at i3; refine ⟨?_, roS_z⟩; unfold inS; rw [← i1, ← i2, ← i3]; rfl)
    | (obtain ⟨i1, i2, i3⟩ := f1; exact ⟨i1, i2, by rw [upF_s (by omega), Int.zero_add, ← i3]⟩))
def w_runs_2_1 : VC := ((bY ++ [(0, 11)]), [(3, [(some 13, 0), (some 8, 0)], []), (103, [(some 13, 0), (some 2, 0)], [4, 19, 20, 35, 36, 21, 37]), (3, [(some 8, 0), (some 13, 0)], [])], (3, [(none, 24), (none, 0)], []))
theorem v_runs_2_1 {PT : PTy} (_ : HP5 PT) : vcOk PT w_runs_2_1 := vc_of (fun ρ α _ _ => by simp only [hF3, den_c] <;> omega)
def w_runs_2_2 : VC := (([(0, 23), (0, 49), (0, 8), (0, 10), (0, 8), (0, 6), (0, 6), (0, 8), (1, 11), (0, 9), ((-2147483648), 2147483647), ((-2147483648), 2147483647), (0, 5), (0, 10)]), [(21, [(some 13, 0), (none, 0)], [38, 37]), (2, [(some 13, 0), (some 8, 0)], []), (103, [(some 13, 0), (some 2, 0)], [4, 19, 20, 35, 36, 21, 37]), (3, [(some 8, 0), (some 13, 0)], [])], (103, [(some 13, 1), (some 2, 0)], [4, 19, 20, 35, 36, 21, 38]))
set_option maxRecDepth 20000 in
theorem v_runs_2_2 {PT : PTy} (hp : HP5 PT) : vcOk PT w_runs_2_2 := vc_iv [(2, 0, 8), (8, 1, 11), (13, 0, 10)] [4, 19, 20, 21, 35, 36, 37, 38] (by decide +kernel) (fun ρ α => by
  intro r2 g2 b2 r8 g8 b8 r13 g13 b13 a4 h4 a19 h19 a20 h20 a21 h21 a35 h35 a36 h36 a37 h37 a38 h38 f0 f1 f2 f3 tt
  have e103 : PT 103 = P_r2 := pe103_5 hp
  simp only [hF2, hF3, hF21, hFp_103, e103, P_r2, den_s, den_c, Int.add_zero, List.map_cons, List.map_nil, g2.eq, g8.eq, g13.eq, h4, h19, h20, h21, h35, h36, h37, h38] at f0 f1 f2 f3 ⊢
  subst f0
  first
    | omega
    | (obtain ⟨i1, i2, i3⟩ := f2; rw [show r13 = r8 by omega] at i3; refine ⟨?_, roS_z⟩; unfold inS; rw [← i1, ← i2, ← i3]; rfl)
    | (obtain ⟨i1, i2, i3⟩ := f2; exact ⟨i1, i2, by rw [upF_s (by omega), Int.zero_add, ← i3]⟩))
def w_runs_2_3 : VC := (([(0, 23), (0, 49), (0, 8), (0, 10), (0, 8), (0, 6), (0, 6), (0, 8), (1, 11), (0, 9), ((-2147483648), 2147483647), ((-2147483648), 2147483647), (0, 5), (0, 10)]), [(21, [(some 13, 0), (none, 0)], [38, 37]), (2, [(some 13, 0), (some 8, 0)], []), (103, [(some 13, 0), (some 2, 0)], [4, 19, 20, 35, 36, 21, 37]), (3, [(some 8, 0), (some 13, 0)], [])], (3, [(some 8, 0), (some 13, 1)], []))
set_option maxRecDepth 20000 in
theorem v_runs_2_3 {PT : PTy} (hp : HP5 PT) : vcOk PT w_runs_2_3 := vc_iv [(2, 0, 8), (8, 1, 11), (13, 0, 10)] [4, 19, 20, 21, 35, 36, 37, 38] (by decide +kernel) (fun ρ α => by
  intro r2 g2 b2 r8 g8 b8 r13 g13 b13 a4 h4 a19 h19 a20 h20 a21 h21 a35 h35 a36 h36 a37 h37 a38 h38 f0 f1 f2 f3 tt
  have e103 : PT 103 = P_r2 := pe103_5 hp
  simp only [hF2, hF3, hF21, hFp_103, e103, P_r2, den_s, den_c, Int.add_zero, List.map_cons, List.map_nil, g2.eq, g8.eq, g13.eq, h4, h19, h20, h21, h35, h36, h37, h38] at f0 f1 f2 f3 ⊢
  subst f0
  first
    | omega
    | (obtain ⟨i1, i2, i3⟩ := f2; rw [show r13 = r8 by omega] at i3; refine ⟨?_, roS_z⟩; unfold inS; rw [← i1, ← i2, ← i3]; rfl)
    | (obtain ⟨i1, i2, i3⟩ := f2; exact ⟨i1, i2, by rw [upF_s (by omega), Int.zero_add, ← i3]⟩))
def w_runs_3_0 : VC := ((bY ++ [(24, 24)]), [(3, [(some 13, 0), (none, 24)], []), (104, [(some 13, 0), (some 2, 0), (some 8, 0), (some 3, 0), (some 9, 0), (some 5, 0), (some 6, 0), (some 10, 0), (some 11, 0)], [3, 4, 5, 6, 7, 8, 17, 18, 11, 12, 13, 14, 15, 16, 19, 20, 21, 35, 36, 37, 38, 39, 40]), (3, [(none, 24), (some 13, 0)], [])], (104, [(none, 24), (some 2, 0), (some 8, 0), (some 3, 0), (some 9, 0), (some 5, 0), (some 6, 0), (some 10, 0), (some 11, 0)], [3, 4, 5, 6, 7, 8, 17, 18, 11, 12, 13, 14, 15, 16, 19, 20, 21, 35, 36, 37, 38, 39, 40]))
set_option maxRecDepth 20000 in
theorem v_runs_3_0 {PT : PTy} (hp : HP5 PT) : vcOk PT w_runs_3_0 := vc_iv [(2, 0, 8), (3, 0, 10), (5, 0, 6), (6, 0, 6), (8, 0, 11), (9, 0, 9), (10, (-2147483648), 2147483647), (11, (-2147483648), 2147483647), (13, 24, 24)] [3, 4, 5, 6, 7, 8, 11, 12, 13, 14, 15, 16, 17, 18, 19, 20, 21, 35, 36, 37, 38, 39, 40] (by decide +kernel) (fun ρ α => by
  intro r2 g2 b2 r3 g3 b3 r5 g5 b5 r6 g6 b6 r8 g8 b8 r9 g9 b9 r10 g10 b10 r11 g11 b11 r13 g13 b13 a3 h3 a4 h4 a5 h5 a6 h6 a7 h7 a8 h8 a11 h11 a12 h12 a13 h13 a14 h14 a15 h15 a16 h16 a17 h17 a18 h18 a19 h19 a20 h20 a21 h21 a35 h35 a36 h36 a37 h37 a38 h38 a39 h39 a40 h40 f0 f1 f2 tt
  clear f0 f2
  have e104 : PT 104 = P_ru := pe104_5 hp
  simp only [hFp_104, e104, P_ru, den_s, den_c, Int.add_zero, List.map_cons, List.map_nil, g2.eq, g3.eq, g5.eq, g6.eq, g8.eq, g9.eq, g10.eq, g11.eq, g13.eq, h3, h4, h5, h6, h7, h8, h11, h12, h13, h14, h15, h16, h17, h18, h19, h20, h21, h35, h36, h37, h38, h39, h40] at f1 ⊢
  first
    | omega
    | (obtain ⟨i1, i2⟩ := f1; rw [show r13 = 24 by omega] at i1 i2; exact ⟨i1, i2⟩)
    | (obtain ⟨i1, i2⟩ := f1; obtain ⟨j1, j2, j3, j4⟩ := MISSING; rw [i1] at j1; refine ⟨?_, ?_⟩; (rw [j1]; exact (foldI_s (by omega)).symm); (rw [j2, j3, j4]; exact roS_s i2 (by omega) (by omega) (by omega) j1)))
def w_runs_3_1 : VC := ((bY ++ [(0, 23)]), [(101, [(some 8, 0), (some 2, 0), (some 8, 0), (some 3, 0), (some 9, 0), (some 5, 0), (some 6, 0), (some 10, 0), (some 11, 0), (some 13, 0)], [3, 4, 5, 6, 7, 8, 17, 18, 11, 12, 13, 14, 15, 16, 35, 36, 37, 41, 42, 43, 38, 39, 44, 45, 40, 46]), (2, [(some 13, 0), (none, 24)], []), (104, [(some 13, 0), (some 2, 0), (some 8, 0), (some 3, 0), (some 9, 0), (some 5, 0), (some 6, 0), (some 10, 0), (some 11, 0)], [3, 4, 5, 6, 7, 8, 17, 18, 11, 12, 13, 14, 15, 16, 19, 20, 21, 35, 36, 37, 38, 39, 40]), (3, [(none, 24), (some 13, 0)], [])], (104, [(some 13, 1), (some 2, 0), (some 8, 0), (some 3, 0), (some 9, 0), (some 5, 0), (some 6, 0), (some 10, 0), (some 11, 0)], [3, 4, 5, 6, 7, 8, 17, 18, 11, 12, 13, 14, 15, 16, 19, 20, 21, 41, 42, 43, 44, 45, 46]))
set_option maxRecDepth 20000 in
theorem v_runs_3_1 {PT : PTy} (hp : HP5 PT) : vcOk PT w_runs_3_1 := vc_iv [(2, 0, 8), (3, 0, 10), (5, 0, 6), (6, 0, 6), (8, 0, 11), (9, 0, 9), (10, (-2147483648), 2147483647), (11, (-2147483648), 2147483647), (13, 0, 23)] [3, 4, 5, 6, 7, 8, 11, 12, 13, 14, 15, 16, 17, 18, 19, 20, 21, 35, 36, 37, 38, 39, 40, 41, 42, 43, 44, 45, 46] (by decide +kernel) (fun ρ α => by
  intro r2 g2 b2 r3 g3 b3 r5 g5 b5 r6 g6 b6 r8 g8 b8 r9 g9 b9 r10 g10 b10 r11 g11 b11 r13 g13 b13 a3 h3 a4 h4 a5 h5 a6 h6 a7 h7 a8 h8 a11 h11 a12 h12 a13 h13 a14 h14 a15 h15 a16 h16 a17 h17 a18 h18 a19 h19 a20 h20 a21 h21 a35 h35 a36 h36 a37 h37 a38 h38 a39 h39 a40 h40 a41 h41 a42 h42 a43 h43 a44 h44 a45 h45 a46 h46 f0 f1 f2 f3 tt
  clear f1 f3
  have e101 : PT 101 = P_g4 := pe101_5 hp
  have e104 : PT 104 = P_ru := pe104_5 hp
  simp only [hFp_101, hFp_104, e101, e104, P_g4, P_ru, den_s, den_c, Int.add_zero, List.map_cons, List.map_nil, g2.eq, g3.eq, g5.eq, g6.eq, g8.eq, g9.eq, g10.eq, g11.eq, g13.eq, h3, h4, h5, h6, h7, h8, h11, h12, h13, h14, h15, h16, h17, h18, h19, h20, h21, h35, h36, h37, h38, h39, h40, h41, h42, h43, h44, h45, h46] at f0 f2 ⊢
  first
    | omega
    | (obtain ⟨i1, i2⟩ := f2; rw [show r13 = 24 by omega] at i1 i2; exact ⟨i1, i2⟩)
    | (obtain ⟨i1, i2⟩ := f2; obtain ⟨j1, j2, j3, j4⟩ := f0; rw [i1] at j1; refine ⟨?_, ?_⟩; (rw [j1]; exact (foldI_s (by omega)).symm); (rw [j2, j3, j4]; exact roS_s i2 (by omega) (by omega) (by omega) j1)))
def w_runs_3_2 : VC := ((bY ++ [(0, 23)]), [(101, [(some 8, 0), (some 2, 0), (some 8, 0), (some 3, 0), (some 9, 0), (some 5, 0), (some 6, 0), (some 10, 0), (some 11, 0), (some 13, 0)], [3, 4, 5, 6, 7, 8, 17, 18, 11, 12, 13, 14, 15, 16, 35, 36, 37, 41, 42, 43, 38, 39, 44, 45, 40, 46]), (2, [(some 13, 0), (none, 24)], []), (104, [(some 13, 0), (some 2, 0), (some 8, 0), (some 3, 0), (some 9, 0), (some 5, 0), (some 6, 0), (some 10, 0), (some 11, 0)], [3, 4, 5, 6, 7, 8, 17, 18, 11, 12, 13, 14, 15, 16, 19, 20, 21, 35, 36, 37, 38, 39, 40]), (3, [(none, 24), (some 13, 0)], [])], (3, [(none, 24), (some 13, 1)], []))
set_option maxRecDepth 20000 in
theorem v_runs_3_2 {PT : PTy} (hp : HP5 PT) : vcOk PT w_runs_3_2 := vc_iv [(2, 0, 8), (3, 0, 10), (5, 0, 6), (6, 0, 6), (8, 0, 11), (9, 0, 9), (10, (-2147483648), 2147483647), (11, (-2147483648), 2147483647), (13, 0, 23)] [3, 4, 5, 6, 7, 8, 11, 12, 13, 14, 15, 16, 17, 18, 19, 20, 21, 35, 36, 37, 38, 39, 40, 41, 42, 43, 44, 45, 46] (by decide +kernel) (fun ρ α => by
  intro r2 g2 b2 r3 g3 b3 r5 g5 b5 r6 g6 b6 r8 g8 b8 r9 g9 b9 r10 g10 b10 r11 g11 b11 r13 g13 b13 a3 h3 a4 h4 a5 h5 a6 h6 a7 h7 a8 h8 a11 h11 a12 h12 a13 h13 a14 h14 a15 h15 a16 h16 a17 h17 a18 h18 a19 h19 a20 h20 a21 h21 a35 h35 a36 h36 a37 h37 a38 h38 a39 h39 a40 h40 a41 h41 a42 h42 a43 h43 a44 h44 a45 h45 a46 h46 f0 f1 f2 f3 tt
  clear f1 f3
  have e101 : PT 101 = P_g4 := pe101_5 hp
  have e104 : PT 104 = P_ru := pe104_5 hp
  simp only [hF3, hFp_101, hFp_104, e101, e104, P_g4, P_ru, den_s, den_c, Int.add_zero, List.map_cons, List.map_nil, g2.eq, g3.eq, g5.eq, g6.eq, g8.eq, g9.eq, g10.eq, g11.eq, g13.eq, h3, h4, h5, h6, h7, h8, h11, h12, h13, h14, h15, h16, h17, h18, h19, h20, h21, h35, h36, h37, h38, h39, h40, h41, h42, h43, h44, h45, h46] at f0 f2 ⊢
  first
    | omega
    | (obtain ⟨i1, i2⟩ := f2; rw [show r13 = 24 by omega] at i1 i2; exact ⟨i1, i2⟩)
    | (obtain ⟨i1, i2⟩ := f2; obtain ⟨j1, j2, j3, j4⟩ := f0; rw [i1] at j1; refine ⟨?_, ?_⟩; (rw [j1]; exact (foldI_s (by omega)).symm); (rw [j2, j3, j4]; exact roS_s i2 (by omega) (by omega) (by omega) j1)))
set_option maxRecDepth 1000000 in
theorem k_runs {PT : PTy} (hp : HP5 PT) : wfX c_runs = true ∧ xcOk PT c_runs := xctr (xl (k_goesBy hp) (xl0)) c_runs 40 mX7_runs rfl h_runs (by decide +kernel) (by decide +kernel) (by decide) (vcs_by [w_runs_0_0, w_runs_0_1] (by decide +kernel) (vc (v_runs_0_0 hp) (vc (v_runs_0_1 hp) vn))) (fmc (vcs_by [w_runs_1_0, w_runs_1_1, w_runs_1_2, w_runs_1_3] (by decide +kernel) (vc (v_runs_1_0 hp) (vc (v_runs_1_1 hp) (vc (v_runs_1_2 hp) (vc (v_runs_1_3 hp) vn))))) (fmc (vcs_by [w_runs_2_0, w_runs_2_1, w_runs_2_2, w_runs_2_3] (by decide +kernel) (vc (v_runs_2_0 hp) (vc (v_runs_2_1 hp) (vc (v_runs_2_2 hp) (vc (v_runs_2_3 hp) vn))))) (fmc (vcs_by [w_runs_3_0, w_runs_3_1, w_runs_3_2] (by decide +kernel) (vc (v_runs_3_0 hp) (vc (v_runs_3_1 hp) (vc (v_runs_3_2 hp) vn)))) fmn)))
def c_asTold : XC := (132, 5, (bY), [.inr (.inl 0)], gY2, [(78, [], [1])], [((bY ++ [(0, 8), (0, 10), (0, 11), ((-2147483648), 2147483647), ((-2147483648), 2147483647)]), none, (hst gY2 [(0, .inr (.inr (.inr (7, [.inr (.inl 1), .inr (.inl 2), .inl (some 13, 0), .inr (.inl 3), .inr (.inl 4), .inl (some 14, 0), .inr (.inl 5), .inr (.inl 6), .inr (.inl 7), .inr (.inl 8), .inl (some 4, 0), .inr (.inl 9), .inr (.inl 10), .inl (some 5, 0), .inr (.inl 11), .inr (.inl 12), .inr (.inl 13), .inl (some 6, 0), .inr (.inl 14), .inr (.inl 15), .inr (.inl 16), .inl (some 15, 0), .inl (some 4, 0), .inr (.inl 17), .inr (.inl 18), .inl (some 16, 0), .inl (some 17, 0), .inr (.inl 19), .inr (.inl 20), .inr (.inl 21), .inr (.inl 22), .inr (.inl 23), .inr (.inl 24), .inr (.inl 25), .inl (some 7, 0), .inr (.inl 26), .inr (.inl 27), .inr (.inl 28), .inr (.inl 29), .inr (.inl 30), .inr (.inl 31), .inr (.inl 32), .inr (.inl 33), .inr (.inl 34), .inl (some 12, 0)]))))]), (ansT 35 [(3, 35), (4, 36), (5, 37), (6, 38), (7, 39), (8, 40), (17, 41), (18, 42)]), 43, [(106, [(some 13, 0), (some 14, 0)], [1, 2, 35, 36, 37, 38, 39, 40]), (105, [(some 4, 0)], [9, 10, 41, 42]), (0, [(some 15, 0), (some 14, 0)], []), (0, [(some 4, 0), (some 4, 0)], []), (0, [(some 16, 0), (none, 0)], []), (0, [(some 17, 0), (none, 0)], [])])])
def h_asTold : List XH := [(22, (bY ++ [(0, 8), (0, 8), (0, 10), (0, 11)]), [some (.inr (.inl 0)), some (.inl (some 13, 0))], (hst gY2 [(0, .inr (.inr (.inr (7, [.inr (.inl 1), .inr (.inl 2), .inl (some 14, 0), .inr (.inl 3), .inr (.inl 4), .inl (some 15, 0), .inr (.inl 5), .inr (.inl 6), .inr (.inl 7), .inr (.inl 8), .inl (some 4, 0), .inr (.inl 9), .inr (.inl 10), .inl (some 5, 0), .inr (.inl 11), .inr (.inl 12), .inr (.inl 13), .inl (some 6, 0), .inr (.inl 14), .inr (.inl 15), .inr (.inl 16), .inl (some 16, 0), .inl (some 4, 0), .inr (.inl 17), .inr (.inl 18), .inl (some 10, 0), .inl (some 11, 0), .inr (.inl 19), .inr (.inl 20), .inr (.inl 21), .inr (.inl 22), .inr (.inl 23), .inr (.inl 24), .inr (.inl 25), .inl (some 7, 0), .inr (.inl 26), .inr (.inl 27), .inr (.inl 28), .inr (.inl 29), .inr (.inl 30), .inr (.inl 31), .inr (.inl 32), .inr (.inl 33), .inr (.inl 34), .inl (some 12, 0)]))))]), (ansT 35 [(3, 35), (4, 36), (5, 37), (6, 38), (7, 39), (8, 40), (17, 41), (18, 42)]), 43, [(106, [(some 14, 0), (some 15, 0)], [1, 2, 35, 36, 37, 38, 39, 40]), (105, [(some 13, 0)], [9, 10, 41, 42]), (0, [(some 16, 0), (some 15, 0)], []), (0, [(some 4, 0), (some 4, 0)], []), (3, [(some 4, 0), (some 13, 0)], [])], [(true, (none, 1)), (true, (some 13, 0))])]
def w_asTold_0_0 : VC := ((bY ++ [((-1), 54), (0, 8), (0, 10)]), [(79, [(some 13, 0), (none, 0), (some 14, 0), (some 15, 0)], [1, 2, 35, 36, 37, 38, 39, 40]), (78, [], [1])], (106, [(some 14, 0), (some 15, 0)], [1, 2, 35, 36, 37, 38, 39, 40]))
theorem pe78_5 {PT : PTy} (hp : HP5 PT) : PT 78 = P_ly := hp.1.1.1.2.2.2.2.2.2.2.1
theorem pe79_5 {PT : PTy} (hp : HP5 PT) : PT 79 = P_fo := hp.1.1.1.2.2.2.2.2.2.2.2.1
theorem pe106_5 {PT : PTy} (hp : HP5 PT) : PT 106 = P_rd := hp.2.2.2.2.2.2.2.2.2.2.2.2.1
set_option maxRecDepth 20000 in
theorem v_asTold_0_0 {PT : PTy} (hp : HP5 PT) : vcOk PT w_asTold_0_0 := vc_in [(13, (-1), 54), (14, 0, 8), (15, 0, 10)] (by decide +kernel) (fun ρ α => by
  intro b13 b14 b15 f0 f1 tt
  have e78 : PT 78 = P_ly := pe78_5 hp
  have e79 : PT 79 = P_fo := pe79_5 hp
  have e106 : PT 106 = P_rd := pe106_5 hp
  simp only [hFp_78, hFp_79, hFp_106, e78, e79, e106, P_ly, P_fo, P_rd, den_s, den_c, Int.add_zero, List.map_cons, List.map_nil] at f0 f1 ⊢
  first
    | omega
    | (obtain ⟨x, y, h1, h2, -⟩ := f0; exact ⟨x, y, h1, h2⟩)
    | (intro j h1 h2; omega))
def w_asTold_0_1 : VC := ((bY ++ [((-1), 54), (0, 8), (0, 10)]), [(79, [(some 13, 0), (none, 0), (some 14, 0), (some 15, 0)], [1, 2, 35, 36, 37, 38, 39, 40]), (78, [], [1])], (105, [(none, 0)], [9, 10, 17, 18]))
theorem pe105_5 {PT : PTy} (hp : HP5 PT) : PT 105 = P_cp2 := hp.2.2.2.2.2.2.2.2.2.2.2.1
set_option maxRecDepth 20000 in
theorem v_asTold_0_1 {PT : PTy} (hp : HP5 PT) : vcOk PT w_asTold_0_1 := vc_in [(13, (-1), 54), (14, 0, 8), (15, 0, 10)] (by decide +kernel) (fun ρ α => by
  intro b13 b14 b15 f0 f1 tt
  have e78 : PT 78 = P_ly := pe78_5 hp
  have e79 : PT 79 = P_fo := pe79_5 hp
  have e105 : PT 105 = P_cp2 := pe105_5 hp
  simp only [hFp_78, hFp_79, hFp_105, e78, e79, e105, P_ly, P_fo, P_cp2, den_s, den_c, Int.add_zero, List.map_cons, List.map_nil] at f0 f1 ⊢
  first
    | omega
    | (obtain ⟨x, y, h1, h2, -⟩ := f0; exact ⟨x, y, h1, h2⟩)
    | (intro j h1 h2; omega))
def w_asTold_0_2 : VC := ((bY ++ [((-1), 54), (0, 8), (0, 10)]), [(79, [(some 13, 0), (none, 0), (some 14, 0), (some 15, 0)], [1, 2, 35, 36, 37, 38, 39, 40]), (78, [], [1])], (0, [(some 15, 0), (some 15, 0)], []))
theorem v_asTold_0_2 {PT : PTy} (_ : HP5 PT) : vcOk PT w_asTold_0_2 := vc_of (fun ρ α _ _ => rfl)
def w_asTold_0_3 : VC := ((bY ++ [((-1), 54), (0, 8), (0, 10)]), [(79, [(some 13, 0), (none, 0), (some 14, 0), (some 15, 0)], [1, 2, 35, 36, 37, 38, 39, 40]), (78, [], [1])], (0, [(some 4, 0), (some 4, 0)], []))
theorem v_asTold_0_3 {PT : PTy} (_ : HP5 PT) : vcOk PT w_asTold_0_3 := vc_of (fun ρ α _ _ => rfl)
def w_asTold_0_4 : VC := ((bY ++ [((-1), 54), (0, 8), (0, 10)]), [(79, [(some 13, 0), (none, 0), (some 14, 0), (some 15, 0)], [1, 2, 35, 36, 37, 38, 39, 40]), (78, [], [1])], (3, [(some 4, 0), (none, 0)], []))
set_option maxRecDepth 20000 in
theorem v_asTold_0_4 {PT : PTy} (hp : HP5 PT) : vcOk PT w_asTold_0_4 := vc_in [(4, 0, 8), (13, (-1), 54), (14, 0, 8), (15, 0, 10)] (by decide +kernel) (fun ρ α => by
  intro b4 b13 b14 b15 f0 f1 tt
  have e78 : PT 78 = P_ly := pe78_5 hp
  have e79 : PT 79 = P_fo := pe79_5 hp
  simp only [hF3, hFp_78, hFp_79, e78, e79, P_ly, P_fo, den_s, den_c, Int.add_zero, List.map_cons, List.map_nil] at f0 f1 ⊢
  first
    | omega
    | (obtain ⟨x, y, h1, h2, -⟩ := f0; exact ⟨x, y, h1, h2⟩)
    | (intro j h1 h2; omega))
def w_asTold_1_0 : VC := ((bY ++ [(0, 8), (0, 8), (0, 10), (0, 11)]), [(3, [(some 13, 0), (some 4, 0)], []), (106, [(some 14, 0), (some 15, 0)], [1, 2, 35, 36, 37, 38, 39, 40]), (105, [(some 13, 0)], [9, 10, 41, 42]), (0, [(some 16, 0), (some 15, 0)], []), (0, [(some 4, 0), (some 4, 0)], []), (3, [(some 4, 0), (some 13, 0)], []), (78, [], [1])], (105, [(some 4, 0)], [9, 10, 41, 42]))
set_option maxRecDepth 20000 in
theorem v_asTold_1_0 {PT : PTy} (hp : HP5 PT) : vcOk PT w_asTold_1_0 := vc_iv [(4, 0, 8), (13, 0, 8), (14, 0, 8), (15, 0, 10), (16, 0, 11)] [1, 2, 9, 10, 35, 36, 37, 38, 39, 40, 41, 42] (by decide +kernel) (fun ρ α => by
  intro r4 g4 b4 r13 g13 b13 r14 g14 b14 r15 g15 b15 r16 g16 b16 a1 h1 a2 h2 a9 h9 a10 h10 a35 h35 a36 h36 a37 h37 a38 h38 a39 h39 a40 h40 a41 h41 a42 h42 f0 f1 f2 f3 f4 f5 f6 tt
  have e78 : PT 78 = P_ly := pe78_5 hp
  have e105 : PT 105 = P_cp2 := pe105_5 hp
  have e106 : PT 106 = P_rd := pe106_5 hp
  simp only [hF0, hF3, hFp_78, hFp_105, hFp_106, e78, e105, e106, P_ly, P_cp2, P_rd, den_s, den_c, Int.add_zero, List.map_cons, List.map_nil, g4.eq, g13.eq, g14.eq, g15.eq, g16.eq, h1, h2, h9, h10, h35, h36, h37, h38, h39, h40, h41, h42] at f0 f1 f2 f3 f4 f5 f6 ⊢
  first
    | omega
    | exact f1
    | (intro j h1 h2; exact f2 j h1 (by omega))
    | (intro j h1 h2; by_cases q : j = r13; (rw [q, updI_at, updI_at]; exact ⟨rfl, rfl⟩); (rw [updI_ne q, updI_ne q]; exact f2 j h1 (by omega))))
def w_asTold_1_1 : VC := ((bY ++ [(0, 8), (0, 8), (0, 10), (0, 11)]), [(3, [(some 13, 0), (some 4, 0)], []), (106, [(some 14, 0), (some 15, 0)], [1, 2, 35, 36, 37, 38, 39, 40]), (105, [(some 13, 0)], [9, 10, 41, 42]), (0, [(some 16, 0), (some 15, 0)], []), (0, [(some 4, 0), (some 4, 0)], []), (3, [(some 4, 0), (some 13, 0)], []), (78, [], [1])], (0, [(none, 0), (none, 0)], []))
theorem v_asTold_1_1 {PT : PTy} (_ : HP5 PT) : vcOk PT w_asTold_1_1 := vc_of (fun ρ α _ _ => rfl)
def w_asTold_1_2 : VC := ((bY ++ [(0, 8), (0, 8), (0, 10), (0, 11)]), [(3, [(some 13, 0), (some 4, 0)], []), (106, [(some 14, 0), (some 15, 0)], [1, 2, 35, 36, 37, 38, 39, 40]), (105, [(some 13, 0)], [9, 10, 41, 42]), (0, [(some 16, 0), (some 15, 0)], []), (0, [(some 4, 0), (some 4, 0)], []), (3, [(some 4, 0), (some 13, 0)], []), (78, [], [1])], (0, [(none, 0), (none, 0)], []))
theorem v_asTold_1_2 {PT : PTy} (_ : HP5 PT) : vcOk PT w_asTold_1_2 := vc_of (fun ρ α _ _ => rfl)
def w_asTold_1_3 : VC := (([(0, 23), (0, 49), (0, 8), (0, 10), (1, 8), (0, 6), (0, 6), (0, 8), (0, 11), (0, 9), ((-2147483648), 2147483647), ((-2147483648), 2147483647), (0, 5), (0, 7), (0, 8), (0, 10), (0, 11), (0, 23), (0, 9)]), [(21, [(some 13, 0), (some 18, 0)], [44, 42]), (20, [(some 18, 0), (some 13, 0)], [10]), (21, [(some 13, 0), (some 17, 0)], [43, 41]), (20, [(some 17, 0), (some 13, 0)], [9]), (2, [(some 13, 0), (some 4, 0)], []), (106, [(some 14, 0), (some 15, 0)], [1, 2, 35, 36, 37, 38, 39, 40]), (105, [(some 13, 0)], [9, 10, 41, 42]), (0, [(some 16, 0), (some 15, 0)], []), (0, [(some 4, 0), (some 4, 0)], []), (3, [(some 4, 0), (some 13, 0)], []), (78, [], [1])], (105, [(some 13, 1)], [9, 10, 43, 44]))
set_option maxRecDepth 20000 in
theorem v_asTold_1_3 {PT : PTy} (hp : HP5 PT) : vcOk PT w_asTold_1_3 := vc_iv [(4, 1, 8), (13, 0, 7), (14, 0, 8), (15, 0, 10), (16, 0, 11), (17, 0, 23), (18, 0, 9)] [1, 2, 9, 10, 35, 36, 37, 38, 39, 40, 41, 42, 43, 44] (by decide +kernel) (fun ρ α => by
  intro r4 g4 b4 r13 g13 b13 r14 g14 b14 r15 g15 b15 r16 g16 b16 r17 g17 b17 r18 g18 b18 a1 h1 a2 h2 a9 h9 a10 h10 a35 h35 a36 h36 a37 h37 a38 h38 a39 h39 a40 h40 a41 h41 a42 h42 a43 h43 a44 h44 f0 f1 f2 f3 f4 f5 f6 f7 f8 f9 f10 tt
  have e78 : PT 78 = P_ly := pe78_5 hp
  have e105 : PT 105 = P_cp2 := pe105_5 hp
  have e106 : PT 106 = P_rd := pe106_5 hp
  simp only [hF0, hF2, hF3, hF20, hF21, hFp_78, hFp_105, hFp_106, e78, e105, e106, P_ly, P_cp2, P_rd, den_s, den_c, Int.add_zero, List.map_cons, List.map_nil, g4.eq, g13.eq, g14.eq, g15.eq, g16.eq, g17.eq, g18.eq, h1, h2, h9, h10, h35, h36, h37, h38, h39, h40, h41, h42, h43, h44] at f0 f1 f2 f3 f4 f5 f6 f7 f8 f9 f10 ⊢
  subst f0
  subst f1
  subst f2
  subst f3
  first
    | omega
    | exact f5
    | (intro j h1 h2; exact f6 j h1 (by omega))
    | (intro j h1 h2; by_cases q : j = r13; (rw [q, updI_at, updI_at]; exact ⟨rfl, rfl⟩); (rw [updI_ne q, updI_ne q]; exact f6 j h1 (by omega))))
def w_asTold_1_4 : VC := (([(0, 23), (0, 49), (0, 8), (0, 10), (1, 8), (0, 6), (0, 6), (0, 8), (0, 11), (0, 9), ((-2147483648), 2147483647), ((-2147483648), 2147483647), (0, 5), (0, 7), (0, 8), (0, 10), (0, 11), (0, 23), (0, 9)]), [(21, [(some 13, 0), (some 18, 0)], [44, 42]), (20, [(some 18, 0), (some 13, 0)], [10]), (21, [(some 13, 0), (some 17, 0)], [43, 41]), (20, [(some 17, 0), (some 13, 0)], [9]), (2, [(some 13, 0), (some 4, 0)], []), (106, [(some 14, 0), (some 15, 0)], [1, 2, 35, 36, 37, 38, 39, 40]), (105, [(some 13, 0)], [9, 10, 41, 42]), (0, [(some 16, 0), (some 15, 0)], []), (0, [(some 4, 0), (some 4, 0)], []), (3, [(some 4, 0), (some 13, 0)], []), (78, [], [1])], (3, [(some 4, 0), (some 13, 1)], []))
set_option maxRecDepth 20000 in
theorem v_asTold_1_4 {PT : PTy} (hp : HP5 PT) : vcOk PT w_asTold_1_4 := vc_iv [(4, 1, 8), (13, 0, 7), (14, 0, 8), (15, 0, 10), (16, 0, 11), (17, 0, 23), (18, 0, 9)] [1, 2, 9, 10, 35, 36, 37, 38, 39, 40, 41, 42, 43, 44] (by decide +kernel) (fun ρ α => by
  intro r4 g4 b4 r13 g13 b13 r14 g14 b14 r15 g15 b15 r16 g16 b16 r17 g17 b17 r18 g18 b18 a1 h1 a2 h2 a9 h9 a10 h10 a35 h35 a36 h36 a37 h37 a38 h38 a39 h39 a40 h40 a41 h41 a42 h42 a43 h43 a44 h44 f0 f1 f2 f3 f4 f5 f6 f7 f8 f9 f10 tt
  have e78 : PT 78 = P_ly := pe78_5 hp
  have e105 : PT 105 = P_cp2 := pe105_5 hp
  have e106 : PT 106 = P_rd := pe106_5 hp
  simp only [hF0, hF2, hF3, hF20, hF21, hFp_78, hFp_105, hFp_106, e78, e105, e106, P_ly, P_cp2, P_rd, den_s, den_c, Int.add_zero, List.map_cons, List.map_nil, g4.eq, g13.eq, g14.eq, g15.eq, g16.eq, g17.eq, g18.eq, h1, h2, h9, h10, h35, h36, h37, h38, h39, h40, h41, h42, h43, h44] at f0 f1 f2 f3 f4 f5 f6 f7 f8 f9 f10 ⊢
  subst f0
  subst f1
  subst f2
  subst f3
  first
    | omega
    | exact f5
    | (intro j h1 h2; exact f6 j h1 (by omega))
    | (intro j h1 h2; by_cases q : j = r13; (rw [q, updI_at, updI_at]; exact ⟨rfl, rfl⟩); (rw [updI_ne q, updI_ne q]; exact f6 j h1 (by omega))))
set_option maxRecDepth 1000000 in
theorem k_asTold {PT : PTy} (hp : HP5 PT) : wfX c_asTold = true ∧ xcOk PT c_asTold := xctr (xl (k_faultOf hp.1.1.1) (xl0)) c_asTold 43 mX7_asTold rfl h_asTold (by decide +kernel) (by decide +kernel) (by decide) (vcs_by [w_asTold_0_0, w_asTold_0_1, w_asTold_0_2, w_asTold_0_3, w_asTold_0_4] (by decide +kernel) (vc (v_asTold_0_0 hp) (vc (v_asTold_0_1 hp) (vc (v_asTold_0_2 hp) (vc (v_asTold_0_3 hp) (vc (v_asTold_0_4 hp) vn)))))) (fmc (vcs_by [w_asTold_1_0, w_asTold_1_1, w_asTold_1_2, w_asTold_1_3, w_asTold_1_4] (by decide +kernel) (vc (v_asTold_1_0 hp) (vc (v_asTold_1_1 hp) (vc (v_asTold_1_2 hp) (vc (v_asTold_1_3 hp) (vc (v_asTold_1_4 hp) vn)))))) fmn)
/-! ===== both years alike ===== -/
def agE (n m : Int) (so sz wh gr md du so' sz' wh' gr' md' du' : Int → Int) : Prop := (∀ k, 0 ≤ k → k < n → so' k = so k ∧ sz' k = sz k ∧ 0 ≤ so k ∧ so k ≤ 2 ∧ 0 ≤ sz k ∧ sz k ≤ 9) ∧ (∀ p, 0 ≤ p → p < m → wh' p = wh p ∧ gr' p = gr p ∧ md' p = md p ∧ du' p = du p ∧ 0 ≤ wh p ∧ 0 ≤ gr p ∧ gr p ≤ 9 ∧ 0 ≤ md p ∧ -1 ≤ du p)
def agK (nk : Int) (kd ko kd' ko' : Int → Int) : Prop := ∀ i, 0 ≤ i → i < nk → kd' i = kd i ∧ ko' i = ko i ∧ 0 ≤ kd i ∧ 0 ≤ ko i
def agT (nl : Int) (ld lw lm ld' lw' lm' : Int → Int) : Prop := ∀ i, 0 ≤ i → i < nl → ld' i = ld i ∧ lw' i = lw i ∧ lm' i = lm i ∧ 0 ≤ ld i ∧ 0 ≤ lw i ∧ 0 ≤ lm i ∧ lm i ≤ 9
/-- alike where it counts -/
def RLk (n m : Int) (wh : Int → Int) (σ τ : ST3) : Prop := (∀ k, 0 ≤ k → k < n → σ.1 k = τ.1 k ∧ σ.2.1 k = τ.2.1 k ∧ 0 ≤ σ.1 k ∧ σ.1 k ≤ 99) ∧ (∀ p, 0 ≤ p → p < m → σ.2.2 p = τ.2.2 p ∧ (σ.2.2 p = 1 → wh p < n))
theorem RLk_c {n m : Int} {wh : Int → Int} {σ τ : ST3} (h : RLk n m wh σ τ) {k v w : Int} (hv : 0 ≤ k → k < n → v = w ∧ 0 ≤ v ∧ v ≤ 99) : RLk n m wh (updI σ.1 k v, σ.2) (updI τ.1 k w, τ.2) := by
  refine ⟨fun j h1 h2 => ?_, h.2⟩
  by_cases q : j = k
  · subst q
    simp only [updI_at]
    obtain ⟨e1, e2, e3⟩ := hv h1 h2
    exact ⟨e1, (h.1 j h1 h2).2.1, e2, e3⟩
  · simp only [updI_ne q]
    exact h.1 j h1 h2
theorem RLk_t {n m : Int} {wh : Int → Int} {σ τ : ST3} (h : RLk n m wh σ τ) {k v w : Int} (hv : 0 ≤ k → k < n → v = w) : RLk n m wh (σ.1, updI σ.2.1 k v, σ.2.2) (τ.1, updI τ.2.1 k w, τ.2.2) := by
  refine ⟨fun j h1 h2 => ?_, h.2⟩
  by_cases q : j = k
  · subst q
    simp only [updI_at]
    have := h.1 j h1 h2
    exact ⟨this.1, hv h1 h2, this.2.2⟩
  · simp only [updI_ne q]
    exact h.1 j h1 h2
theorem RLk_s {n m : Int} {wh : Int → Int} {σ τ : ST3} (h : RLk n m wh σ τ) {p v : Int} (hv : v = 1 → wh p < n) : RLk n m wh (σ.1, σ.2.1, updI σ.2.2 p v) (τ.1, τ.2.1, updI τ.2.2 p v) := by
  refine ⟨h.1, fun j h1 h2 => ?_⟩
  by_cases q : j = p
  · subst q
    show updI σ.2.2 j v j = updI τ.2.2 j v j ∧ (updI σ.2.2 j v j = 1 → wh j < n)
    rw [updI_at, updI_at]
    exact ⟨rfl, hv⟩
  · simp only [updI_ne q]
    exact h.2 j h1 h2
section EQ
variable {n m nk nl nt nK nL : Int} {so sz wh gr md du so' sz' wh' gr' md' du' kd ko kd' ko' ld lw lm ld' lw' lm' td tw tm td' tw' tm' : Int → Int}
theorem gn_ln (h : agE n m so sz wh gr md du so' sz' wh' gr' md' du') {p : Int} (h1 : 0 ≤ p) (h2 : p < m) (hw : wh p < n) : lnF so' wh' gr' p = gnF so wh gr p ∧ 0 ≤ gnF so wh gr p ∧ gnF so wh gr p ≤ 18 := by
  obtain ⟨e1, e2, -, -, e3, e4, e5, -⟩ := h.2 p h1 h2
  obtain ⟨s1, -, s2, s3, -⟩ := h.1 (wh p) e3 hw
  unfold lnF gnF
  rw [e1, e2, s1]
  by_cases q0 : so (wh p) = 0
  · rw [if_pos q0, if_neg (by omega), if_neg (by omega)]; omega
  · by_cases q1 : so (wh p) = 1
    · rw [if_neg q0, if_pos q1, if_pos q1]; omega
    · rw [if_neg q0, if_neg q1, if_neg q1, if_pos (by omega)]; omega
theorem clF_in {x : Int} (h1 : 0 ≤ x) (h2 : x ≤ 99) : clF x = x := by unfold clF; rw [if_neg (by omega), if_neg (by omega)]
theorem clF_b (x : Int) : 0 ≤ clF x ∧ clF x ≤ 99 := by
  unfold clF
  split
  · omega
  · split <;> omega
/-- a promise made -/
theorem eq_0 (h : agE n m so sz wh gr md du so' sz' wh' gr' md' du') {σ τ : ST3} (hR : RLk n m wh σ τ) {p : Int} (h1 : 0 ≤ p) (h2 : p < m) (hw : wh p < n) : RLk n m wh (lgF σ.1 (wh p) (gnF so wh gr p), σ.2.1, updI σ.2.2 p 1) (chF τ.1 (wh' p) (lnF so' wh' gr' p), τ.2.1, updI τ.2.2 p 1) := by
  obtain ⟨g1, g2, g3⟩ := gn_ln h h1 h2 hw
  have e1 := (h.2 p h1 h2).1
  refine RLk_s (p := p) (v := 1) (σ := (lgF σ.1 (wh p) (gnF so wh gr p), σ.2)) (τ := (chF τ.1 (wh' p) (lnF so' wh' gr' p), τ.2)) ?_ (fun _ => hw)
  rw [g1, e1]
  refine RLk_c hR (fun k1 k2 => ?_)
  have hc := hR.1 (wh p) k1 k2
  rw [← hc.1]
  unfold clF
  split <;> split <;> omega
/-- kept -/
theorem eq_1 (h : agE n m so sz wh gr md du so' sz' wh' gr' md' du') {σ τ : ST3} (hR : RLk n m wh σ τ) {p : Int} (h1 : 0 ≤ p) (h2 : p < m) : RLk n m wh (fuF sz wh gr p σ) (if τ.2.2 p = 1 then (chF τ.1 (wh' p) (twF (sz' (wh' p) - τ.1 (wh' p)) (gr' p)), τ.2.1, updI τ.2.2 p 2) else τ) := by
  have hs := hR.2 p h1 h2
  unfold fuF
  by_cases q : σ.2.2 p = 1
  · rw [if_pos q, if_pos (c := τ.2.2 p = 1) (by rw [← hs.1]; exact q)]
    obtain ⟨e1, e2, -, -, e3, e4, e5, -⟩ := h.2 p h1 h2
    have hw := hs.2 q
    obtain ⟨-, s1, -, -, s2, s3⟩ := h.1 (wh p) e3 hw
    have hc := hR.1 (wh p) e3 hw
    refine RLk_s (p := p) (v := 2) (σ := (updI σ.1 (wh p) _, σ.2)) (τ := (chF τ.1 (wh' p) _, τ.2)) ?_ (fun q => by omega)
    rw [e1, e2, s1]
    refine RLk_c hR (fun k1 k2 => ?_)
    rw [← hc.1]
    unfold twF
    have hb := clF_b
    by_cases a1 : sz (wh p) - σ.1 (wh p) > gr p
    · rw [if_pos a1, if_neg (by omega), clF_in (by omega) (by omega)]; omega
    · rw [if_neg a1]
      by_cases a2 : sz (wh p) - σ.1 (wh p) < - gr p
      · rw [if_pos a2, if_pos (by omega), clF_in (by omega) (by omega)]; omega
      · rw [if_neg a2, clF_in (by omega) (by omega)]
        split <;> omega
  · rw [if_neg q, if_neg (c := τ.2.2 p = 1) (by rw [← hs.1]; exact q)]
    exact hR
/-- broken -/
theorem eq_2 (h : agE n m so sz wh gr md du so' sz' wh' gr' md' du') {σ τ : ST3} (hR : RLk n m wh σ τ) {p : Int} (h1 : 0 ≤ p) (h2 : p < m) : RLk n m wh (faF so wh gr p σ) (if τ.2.2 p = 1 then (chF τ.1 (wh' p) (if so' (wh' p) = 2 then - lnF so' wh' gr' p + -2 else - lnF so' wh' gr' p), updI τ.2.1 (wh' p) (mAdd (τ.2.1 (wh' p)) 1), updI τ.2.2 p 3) else τ) := by
  have hs := hR.2 p h1 h2
  unfold faF
  by_cases q : σ.2.2 p = 1
  · rw [if_pos q, if_pos (c := τ.2.2 p = 1) (by rw [← hs.1]; exact q)]
    obtain ⟨e1, e2, -, -, e3, e4, e5, -⟩ := h.2 p h1 h2
    have hw := hs.2 q
    obtain ⟨s1, -, -, -, -, -⟩ := h.1 (wh p) e3 hw
    obtain ⟨g1, g2, g3⟩ := gn_ln h h1 h2 hw
    have hc := hR.1 (wh p) e3 hw
    rw [g1, e1, s1]
    refine RLk_s (p := p) (v := 3) (σ := (shF σ.1 (wh p) _, updI σ.2.1 (wh p) _, σ.2.2)) (τ := (chF τ.1 (wh p) _, updI τ.2.1 (wh p) _, τ.2.2)) ?_ (fun q => by omega)
    refine RLk_t (k := wh p) (σ := (shF σ.1 (wh p) _, σ.2)) (τ := (chF τ.1 (wh p) _, τ.2)) ?_ (fun _ _ => by rw [hc.2.1])
    refine RLk_c hR (fun k1 k2 => ?_)
    rw [← hc.1]
    unfold clF
    by_cases z : so (wh p) = 2
    · rw [if_pos z, if_pos z]
      split <;> split <;> omega
    · rw [if_neg z, if_neg z]
      split <;> split <;> omega
  · rw [if_neg q, if_neg (c := τ.2.2 p = 1) (by rw [← hs.1]; exact q)]
    exact hR
theorem eq_3 {σ τ : ST3} (hR : RLk n m wh σ τ) {k b : Int} (hb : 0 ≤ b) : RLk n m wh (shF σ.1 k b, σ.2) (chF τ.1 k (- b), τ.2) := by
  refine RLk_c hR (fun k1 k2 => ?_)
  have hc := hR.1 k k1 k2
  rw [← hc.1]
  unfold clF
  split <;> split <;> omega
theorem eq_4 {σ τ : ST3} (hR : RLk n m wh σ τ) {k b : Int} (hb : 0 ≤ b) : RLk n m wh (lgF σ.1 k b, σ.2) (chF τ.1 k b, τ.2) := by
  refine RLk_c hR (fun k1 k2 => ?_)
  have hc := hR.1 k k1 k2
  rw [← hc.1]
  unfold clF
  split <;> split <;> omega
end EQ
/-! acts of one key, in their order -/
def selL (key : Int) (P : Int → Bool) : Nat → AL
  | 0 => []
  | n + 1 => selL key P n ++ if P (n : Int) = true then [((key, (n : Int)) : Int × Int)] else []
def fK (k : Int) (l : AL) : AL := l.filter (fun y => decide (y.1 = k))
def fLt (k : Int) (l : AL) : AL := l.filter (fun y => decide (y.1 < k))
theorem fK_ins (k : Int) (x : Int × Int) (l : AL) : fK k (ins x l) = fK k l ++ if x.1 = k then [x] else [] := by
  unfold fK ins
  rw [List.filter_append, List.filter_cons, List.filter_filter, List.filter_filter]
  by_cases h : x.1 = k
  · have e1 : l.filter (fun a => decide (a.1 = k) && decide (a.1 ≤ x.1)) = l.filter (fun y => decide (y.1 = k)) := List.filter_congr (fun a _ => by
      by_cases q : a.1 = k <;> simp [q, h])
    have e2 : l.filter (fun a => decide (a.1 = k) && decide (x.1 < a.1)) = [] := List.filter_eq_nil_iff.mpr (fun a _ => by simp; omega)
    rw [e1, e2, if_pos (decide_eq_true h), if_pos h]
  · rw [if_neg (by simpa using h), if_neg h, List.append_nil]
    by_cases q : k < x.1
    · have e1 : l.filter (fun a => decide (a.1 = k) && decide (a.1 ≤ x.1)) = l.filter (fun y => decide (y.1 = k)) := List.filter_congr (fun a _ => by
        by_cases z : a.1 = k
        · simp [z]; omega
        · simp [z])
      have e2 : l.filter (fun a => decide (a.1 = k) && decide (x.1 < a.1)) = [] := List.filter_eq_nil_iff.mpr (fun a _ => by simp; omega)
      rw [e1, e2, List.append_nil]
    · have e1 : l.filter (fun a => decide (a.1 = k) && decide (a.1 ≤ x.1)) = [] := List.filter_eq_nil_iff.mpr (fun a _ => by simp; omega)
      have e2 : l.filter (fun a => decide (a.1 = k) && decide (x.1 < a.1)) = l.filter (fun y => decide (y.1 = k)) := List.filter_congr (fun a _ => by
        by_cases z : a.1 = k
        · simp [z]; omega
        · simp [z])
      rw [e1, e2, List.nil_append]
theorem fLt_s {a : Int} : ∀ {l : AL}, srt l → fLt (a + 1) l = fLt a l ++ fK a l
  | [], _ => rfl
  | x :: l, h => by
    have ih := fLt_s (a := a) h.2
    unfold fLt fK at ih ⊢
    rw [List.filter_cons, List.filter_cons, List.filter_cons]
    by_cases q : x.1 < a
    · rw [if_pos (decide_eq_true (by omega)), if_pos (decide_eq_true q), if_neg (by simp; omega), ih]; rfl
    · by_cases q2 : x.1 = a
      · have e : l.filter (fun y => decide (y.1 < a)) = [] := List.filter_eq_nil_iff.mpr (fun y hy => by have := h.1 y hy; simp; omega)
        rw [if_pos (decide_eq_true (by omega)), if_neg (by simp; omega), if_pos (decide_eq_true q2), ih, e]; rfl
      · rw [if_neg (by simp; omega), if_neg (by simp; omega), if_neg (by simp; omega), ih]
theorem fK_fold {f : Int → AL → AL} {k : Int} {P : Int → Bool} {s : AL} {N : Nat} (hf : ∀ i : Int, 0 ≤ i → i < N → ∀ l, fK k (f i l) = fK k l ++ if P i = true then [(k, i)] else []) : ∀ (j : Nat), j ≤ N → fK k (foldI f s j) = fK k s ++ selL k P j
  | 0, _ => (List.append_nil _).symm
  | j + 1, hj => by
    show fK k (f j (foldI f s j)) = _
    rw [hf j (by omega) (by omega), fK_fold hf j (by omega), List.append_assoc]
    rfl
theorem fK_same {f : Int → AL → AL} {k : Int} {s : AL} {N : Nat} (hf : ∀ i : Int, 0 ≤ i → i < N → ∀ l, fK k (f i l) = fK k l) : ∀ (j : Nat), j ≤ N → fK k (foldI f s j) = fK k s
  | 0, _ => rfl
  | j + 1, hj => by
    show fK k (f j (foldI f s j)) = _
    rw [hf j (by omega) (by omega), fK_same hf j (by omega)]
section AT
variable {n m nk nl nt d : Int} {wh md du kd ko ld lw td tw : Int → Int}
def pM (n d : Int) (wh md : Int → Int) (p : Int) : Bool := decide ((0 ≤ wh p ∧ wh p < n) ∧ md p = d)
def pB (n d : Int) (wh du : Int → Int) (p : Int) : Bool := decide ((0 ≤ wh p ∧ wh p < n) ∧ du p = d)
def pK (m d : Int) (kd ko : Int → Int) (i : Int) : Bool := decide ((0 ≤ ko i ∧ ko i < m) ∧ kd i = d)
theorem app_if {l : AL} {c : Prop} [Decidable c] {x y : Int × Int} (h : c → x = y) : (l ++ if c then [x] else []) = l ++ if c then [y] else [] := by
  by_cases q : c
  · rw [if_pos q, if_pos q, h q]
  · rw [if_neg q, if_neg q]
theorem stpV_0 (hd : 0 ≤ d) (i : Int) (l : AL) : fK (5 * d) (stpV n wh md du i l) = fK (5 * d) l ++ if pM n d wh md i = true then [(5 * d, i)] else [] := by
  unfold stpV pM
  by_cases h : 0 ≤ wh i ∧ wh i < n
  · rw [if_pos h]
    by_cases h2 : du i = -1
    · rw [if_pos h2, fK_ins]
      by_cases q : md i = d
      · rw [if_pos (by show 5 * md i = 5 * d; omega), if_pos (by simp [h, q]), q]
      · rw [if_neg (by show ¬ 5 * md i = 5 * d; omega), if_neg (by simp [q])]
    · rw [if_neg h2, fK_ins, fK_ins]
      rw [if_neg (c := (5 * du i + 2, i).1 = 5 * d) (by show ¬ 5 * du i + 2 = 5 * d; omega), List.append_nil]
      by_cases q : md i = d
      · rw [if_pos (by show 5 * md i = 5 * d; omega), if_pos (by simp [h, q]), q]
      · rw [if_neg (by show ¬ 5 * md i = 5 * d; omega), if_neg (by simp [q])]
  · rw [if_neg h, if_neg (by simp only [decide_eq_true_eq]; exact fun z => h z.1), List.append_nil]
theorem stpV_2 (hd : 0 ≤ d) (i : Int) (l : AL) : fK (5 * d + 2) (stpV n wh md du i l) = fK (5 * d + 2) l ++ if pB n d wh du i = true then [(5 * d + 2, i)] else [] := by
  unfold stpV pB
  by_cases h : 0 ≤ wh i ∧ wh i < n
  · rw [if_pos h]
    by_cases h2 : du i = -1
    · rw [if_pos h2, fK_ins, if_neg (by show ¬ 5 * md i = 5 * d + 2; omega), if_neg (by simp only [decide_eq_true_eq]; omega)]
    · rw [if_neg h2, fK_ins, fK_ins]
      rw [if_neg (c := (5 * md i, i).1 = 5 * d + 2) (by show ¬ 5 * md i = 5 * d + 2; omega), List.append_nil]
      by_cases q : du i = d
      · rw [if_pos (by show 5 * du i + 2 = 5 * d + 2; omega), if_pos (by simp [h, q]), q]
      · rw [if_neg (by show ¬ 5 * du i + 2 = 5 * d + 2; omega), if_neg (by simp [q])]
  · rw [if_neg h, if_neg (by simp only [decide_eq_true_eq]; exact fun z => h z.1), List.append_nil]
theorem stpV_n {k : Int} (hk : ¬ k % 5 = 0 ∧ ¬ k % 5 = 2) (i : Int) (l : AL) : fK k (stpV n wh md du i l) = fK k l := by
  unfold stpV
  split
  · split
    · rw [fK_ins, if_neg (by show ¬ 5 * md i = k; omega), List.append_nil]
    · rw [fK_ins, fK_ins, if_neg (by show ¬ 5 * md i = k; omega), if_neg (by show ¬ 5 * du i + 2 = k; omega), List.append_nil, List.append_nil]
  · rfl
theorem stpK_1 (i : Int) (l : AL) : fK (5 * d + 1) (stpK m kd ko i l) = fK (5 * d + 1) l ++ if pK m d kd ko i = true then [(5 * d + 1, i)] else [] := by
  unfold stpK pK
  by_cases h : 0 ≤ ko i ∧ ko i < m
  · rw [if_pos h, fK_ins]
    by_cases q : kd i = d
    · rw [if_pos (by show 5 * kd i + 1 = 5 * d + 1; omega), if_pos (by simp [h, q]), q]
    · rw [if_neg (by show ¬ 5 * kd i + 1 = 5 * d + 1; omega), if_neg (by simp [q])]
  · rw [if_neg h, if_neg (by simp only [decide_eq_true_eq]; exact fun z => h z.1), List.append_nil]
theorem stpK_n {k : Int} (hk : ¬ k % 5 = 1) (i : Int) (l : AL) : fK k (stpK m kd ko i l) = fK k l := by
  unfold stpK
  split
  · rw [fK_ins, if_neg (by show ¬ 5 * kd i + 1 = k; omega), List.append_nil]
  · rfl
theorem stpT_k {e : Int} (he : 0 ≤ e ∧ e ≤ 4) (i : Int) (l : AL) : fK (5 * d + e) (stpT n e td tw i l) = fK (5 * d + e) l ++ if pK n d td tw i = true then [(5 * d + e, i)] else [] := by
  unfold stpT pK
  by_cases h : 0 ≤ tw i ∧ tw i < n
  · rw [if_pos h, fK_ins]
    by_cases q : td i = d
    · rw [if_pos (by show 5 * td i + e = 5 * d + e; omega), if_pos (by simp [h, q]), q]
    · rw [if_neg (by show ¬ 5 * td i + e = 5 * d + e; omega), if_neg (by simp [q])]
  · rw [if_neg h, if_neg (by simp only [decide_eq_true_eq]; exact fun z => h z.1), List.append_nil]
theorem stpT_n {k e : Int} (he : 0 ≤ e ∧ e ≤ 4) (hk : ¬ k % 5 = e) (i : Int) (l : AL) : fK k (stpT n e td tw i l) = fK k l := by
  unfold stpT
  split
  · rw [fK_ins, if_neg (by show ¬ 5 * td i + e = k; omega), List.append_nil]
  · rfl
theorem aT_0 (hd : 0 ≤ d) : fK (5 * d) (aT n m nk nl nt wh md du kd ko ld lw td tw) = selL (5 * d) (pM n d wh md) m.toNat := by
  unfold aT aL aK aV
  rw [fK_same (N := nt.toNat) (fun i _ _ l => stpT_n (by omega) (by omega) i l) _ (Nat.le_refl _), fK_same (N := nl.toNat) (fun i _ _ l => stpT_n (by omega) (by omega) i l) _ (Nat.le_refl _), fK_same (N := nk.toNat) (fun i _ _ l => stpK_n (by omega) i l) _ (Nat.le_refl _), fK_fold (N := m.toNat) (fun i _ _ l => stpV_0 hd i l) _ (Nat.le_refl _)]
  rfl
theorem aT_1 (hd : 0 ≤ d) : fK (5 * d + 1) (aT n m nk nl nt wh md du kd ko ld lw td tw) = selL (5 * d + 1) (pK m d kd ko) nk.toNat := by
  unfold aT aL aK aV
  rw [fK_same (N := nt.toNat) (fun i _ _ l => stpT_n (by omega) (by omega) i l) _ (Nat.le_refl _), fK_same (N := nl.toNat) (fun i _ _ l => stpT_n (by omega) (by omega) i l) _ (Nat.le_refl _), fK_fold (N := nk.toNat) (fun i _ _ l => stpK_1 i l) _ (Nat.le_refl _), fK_same (N := m.toNat) (fun i _ _ l => stpV_n (by omega) i l) _ (Nat.le_refl _)]
  rfl
theorem aT_2 (hd : 0 ≤ d) : fK (5 * d + 2) (aT n m nk nl nt wh md du kd ko ld lw td tw) = selL (5 * d + 2) (pB n d wh du) m.toNat := by
  unfold aT aL aK aV
  rw [fK_same (N := nt.toNat) (fun i _ _ l => stpT_n (by omega) (by omega) i l) _ (Nat.le_refl _), fK_same (N := nl.toNat) (fun i _ _ l => stpT_n (by omega) (by omega) i l) _ (Nat.le_refl _), fK_same (N := nk.toNat) (fun i _ _ l => stpK_n (by omega) i l) _ (Nat.le_refl _), fK_fold (N := m.toNat) (fun i _ _ l => stpV_2 hd i l) _ (Nat.le_refl _)]
  rfl
theorem aT_3 (hd : 0 ≤ d) : fK (5 * d + 3) (aT n m nk nl nt wh md du kd ko ld lw td tw) = selL (5 * d + 3) (pK n d ld lw) nl.toNat := by
  unfold aT aL aK aV
  rw [fK_same (N := nt.toNat) (fun i _ _ l => stpT_n (by omega) (by omega) i l) _ (Nat.le_refl _), fK_fold (N := nl.toNat) (fun i _ _ l => stpT_k (by omega) i l) _ (Nat.le_refl _), fK_same (N := nk.toNat) (fun i _ _ l => stpK_n (by omega) i l) _ (Nat.le_refl _), fK_same (N := m.toNat) (fun i _ _ l => stpV_n (by omega) i l) _ (Nat.le_refl _)]
  rfl
theorem aT_4 (hd : 0 ≤ d) : fK (5 * d + 4) (aT n m nk nl nt wh md du kd ko ld lw td tw) = selL (5 * d + 4) (pK n d td tw) nt.toNat := by
  unfold aT aL aK aV
  rw [fK_fold (N := nt.toNat) (fun i _ _ l => stpT_k (by omega) i l) _ (Nat.le_refl _), fK_same (N := nl.toNat) (fun i _ _ l => stpT_n (by omega) (by omega) i l) _ (Nat.le_refl _), fK_same (N := nk.toNat) (fun i _ _ l => stpK_n (by omega) i l) _ (Nat.le_refl _), fK_same (N := m.toNat) (fun i _ _ l => stpV_n (by omega) i l) _ (Nat.le_refl _)]
  rfl
theorem fLt_5 {l : AL} (h : srt l) (d : Int) : fLt (5 * (d + 1)) l = fLt (5 * d) l ++ (fK (5 * d) l ++ (fK (5 * d + 1) l ++ (fK (5 * d + 2) l ++ (fK (5 * d + 3) l ++ fK (5 * d + 4) l)))) := by
  rw [show 5 * (d + 1) = 5 * d + 4 + 1 by omega, fLt_s h, show 5 * d + 4 = 5 * d + 3 + 1 by omega, fLt_s h, show 5 * d + 3 = 5 * d + 2 + 1 by omega, fLt_s h, show 5 * d + 2 = 5 * d + 1 + 1 by omega, fLt_s h, fLt_s h]
  simp only [List.append_assoc]
end AT
/-- a fold over the acts of a key against one over all numbers -/
def fdA (F : Int → Int → ST3 → ST3) (σ : ST3) (l : AL) : ST3 := l.foldl (fun s x => F x.1 x.2 s) σ
theorem fdA_app (F : Int → Int → ST3 → ST3) (σ : ST3) (l k : AL) : fdA F σ (l ++ k) = fdA F (fdA F σ l) k := List.foldl_append
theorem sel_rel {R : ST3 → ST3 → Prop} {F : Int → Int → ST3 → ST3} {key : Int} {P : Int → Bool} {g : Int → ST3 → ST3} {N : Nat} (h1 : ∀ i : Int, 0 ≤ i → i < N → P i = true → ∀ σ τ, R σ τ → R (F key i σ) (g i τ)) (h2 : ∀ i : Int, 0 ≤ i → i < N → ¬ P i = true → ∀ σ τ, R σ τ → R σ (g i τ)) {σ τ : ST3} (hR : R σ τ) : ∀ (j : Nat), j ≤ N → R (fdA F σ (selL key P j)) (foldI g τ j)
  | 0, _ => hR
  | j + 1, hj => by
    have ih := sel_rel h1 h2 hR j (by omega)
    show R (fdA F σ (selL key P j ++ if P (j : Int) = true then [((key, (j : Int)) : Int × Int)] else [])) (g j (foldI g τ j))
    rw [fdA_app]
    by_cases q : P (j : Int) = true
    · rw [if_pos q]
      exact h1 j (by omega) (by omega) q _ _ ih
    · rw [if_neg q]
      exact h2 j (by omega) (by omega) q _ _ ih
theorem foldI_fst {f : Int → (Int → Int) → (Int → Int)} {τ : ST3} : ∀ (N : Nat), foldI (fun i (t : ST3) => (f i t.1, t.2)) τ N = (foldI f τ.1 N, τ.2)
  | 0 => rfl
  | N + 1 => by
    show (f N (foldI (fun i (t : ST3) => (f i t.1, t.2)) τ N).1, (foldI (fun i (t : ST3) => (f i t.1, t.2)) τ N).2) = _
    rw [foldI_fst N]
    rfl
theorem and1 (b : BitVec 32) : b &&& 1#32 = 0#32 ∨ b &&& 1#32 = 1#32 := by
  rw [BitVec.and_one_eq_setWidth_ofBool_getLsbD]
  cases b.getLsbD 0
  · left; rfl
  · right; rfl
theorem mAnd_1 (x : Int) : mAnd x 1 = 0 ∨ mAnd x 1 = 1 := by
  unfold mAnd
  have e : Int32.ofInt 1 = 1 := rfl
  rw [e]
  generalize Int32.ofInt x = y
  rcases and1 y.toBitVec with q | q
  · left
    have : y &&& 1 = 0 := Int32.toBitVec_inj.mp q
    rw [this]; rfl
  · right
    have : y &&& 1 = 1 := Int32.toBitVec_inj.mp q
    rw [this]; rfl
section YR
variable {n m nk nl nt nK nL : Int} {so sz wh gr md du so' sz' wh' gr' md' du' kd ko kd' ko' ld lw lm ld' lw' lm' td tw tm td' tw' tm' : Int → Int}
theorem day_rel (hE : agE n m so sz wh gr md du so' sz' wh' gr' md' du') (hK : agK nk kd ko kd' ko') (hL : agT nl ld lw lm ld' lw' lm') (hT : agT nt td tw tm td' tw' tm') {σ τ : ST3} (hR : RLk n m wh σ τ) {d : Int} (hd : 0 ≤ d) :
    RLk n m wh (fdA (acF so sz wh gr ko lw lm tw tm nK nL) σ (selL (5 * d) (pM n d wh md) m.toNat ++ (selL (5 * d + 1) (pK m d kd ko) nk.toNat ++ (selL (5 * d + 2) (pB n d wh du) m.toNat ++ (selL (5 * d + 3) (pK n d ld lw) nl.toNat ++ selL (5 * d + 4) (pK n d td tw) nt.toNat))))) (dyS n m m nk nl nt nK nL so' sz' wh' gr' md' du' kd' ko' ld' lw' lm' td' tw' tm' d τ) := by
  unfold dyS d3S
  rw [fdA_app, fdA_app, fdA_app, fdA_app]
  have r0 := sel_rel (F := acF so sz wh gr ko lw lm tw tm nK nL) (key := 5 * d) (P := pM n d wh md) (g := mkS n so' wh' gr' md' d) (N := m.toNat) (R := RLk n m wh) (fun i i1 i2 hp σ τ h => by
      unfold pM at hp
      simp only [decide_eq_true_eq] at hp
      obtain ⟨e1, -, e2, -⟩ := hE.2 i i1 (by omega)
      rw [acF_0 (by omega)]
      unfold mkS
      rw [if_pos (by omega)]
      exact eq_0 hE h i1 (by omega) hp.1.2) (fun i i1 i2 hp σ τ h => by
      unfold pM at hp
      simp only [decide_eq_true_eq] at hp
      obtain ⟨e1, -, e2, -, e3, -⟩ := hE.2 i i1 (by omega)
      unfold mkS
      rw [if_neg (by omega)]
      exact h) hR m.toNat (Nat.le_refl _)
  have r1 := sel_rel (F := acF so sz wh gr ko lw lm tw tm nK nL) (key := 5 * d + 1) (P := pK m d kd ko) (g := kpS m nK sz' wh' gr' kd' ko' d) (N := nk.toNat) (R := RLk n m wh) (fun i i1 i2 hp σ τ h => by
      unfold pK at hp
      simp only [decide_eq_true_eq] at hp
      obtain ⟨e1, e2, -, -⟩ := hK i i1 (by omega)
      rw [acF_1 (by omega)]
      unfold kpS
      rw [e2]
      have hq := eq_1 hE h hp.1.1 hp.1.2
      rcases mAnd_1 (mShr nK i) with z | z
      · rw [if_pos z]
        by_cases q : τ.2.2 (ko i) = 1
        · rw [if_pos ⟨by omega, by omega, by omega, q⟩]
          rw [if_pos q] at hq
          exact hq
        · rw [if_neg (fun w => q w.2.2.2)]
          rw [if_neg q] at hq
          exact hq
      · rw [if_neg (by omega), if_neg (fun w => w.2.1 z)]
        exact h) (fun i i1 i2 hp σ τ h => by
      unfold pK at hp
      simp only [decide_eq_true_eq] at hp
      obtain ⟨e1, e2, e3, e4⟩ := hK i i1 (by omega)
      unfold kpS
      rw [if_neg (by omega)]
      exact h) r0 nk.toNat (Nat.le_refl _)
  have r2 := sel_rel (F := acF so sz wh gr ko lw lm tw tm nK nL) (key := 5 * d + 2) (P := pB n d wh du) (g := brS so' wh' gr' du' d) (N := m.toNat) (R := RLk n m wh) (fun i i1 i2 hp σ τ h => by
      unfold pB at hp
      simp only [decide_eq_true_eq] at hp
      obtain ⟨-, -, -, e2, -⟩ := hE.2 i i1 (by omega)
      rw [acF_2 (by omega)]
      unfold brS
      have hq := eq_2 hE h i1 (show i < m by omega)
      by_cases q : τ.2.2 i = 1
      · rw [if_pos ⟨by omega, q⟩]
        rw [if_pos q] at hq
        exact hq
      · rw [if_neg (fun w => q w.2)]
        rw [if_neg q] at hq
        exact hq) (fun i i1 i2 hp σ τ h => by
      unfold pB at hp
      simp only [decide_eq_true_eq] at hp
      obtain ⟨-, -, -, e2, e3, -⟩ := hE.2 i i1 (by omega)
      unfold brS
      have hs := h.2 i i1 (by omega)
      rw [if_neg (fun w => by
        have := hs.2 (by rw [hs.1]; exact w.2)
        omega)]
      exact h) r1 m.toNat (Nat.le_refl _)
  have r3 := sel_rel (F := acF so sz wh gr ko lw lm tw tm nK nL) (key := 5 * d + 3) (P := pK n d ld lw) (g := fun i t => (liS n nL ld' lw' lm' d i t.1, t.2)) (N := nl.toNat) (R := RLk n m wh) (fun i i1 i2 hp σ τ h => by
      unfold pK at hp
      simp only [decide_eq_true_eq] at hp
      obtain ⟨e1, e2, e3, -, -, e4, -⟩ := hL i i1 (by omega)
      rw [acF_3 (by omega)]
      unfold liS
      rcases mAnd_1 (mShr nL i) with z | z
      · rw [if_pos z, if_pos ⟨by omega, by omega, by omega⟩, e2, e3]
        exact eq_3 h e4
      · rw [if_neg (by omega), if_neg (fun w => w.2.2 z)]
        exact h) (fun i i1 i2 hp σ τ h => by
      unfold pK at hp
      simp only [decide_eq_true_eq] at hp
      obtain ⟨e1, e2, e3, -, e5, e4, -⟩ := hL i i1 (by omega)
      unfold liS
      rw [if_neg (by omega)]
      exact h) r2 nl.toNat (Nat.le_refl _)
  have r4 := sel_rel (F := acF so sz wh gr ko lw lm tw tm nK nL) (key := 5 * d + 4) (P := pK n d td tw) (g := fun i t => (leS n td' tw' tm' d i t.1, t.2)) (N := nt.toNat) (R := RLk n m wh) (fun i i1 i2 hp σ τ h => by
      unfold pK at hp
      simp only [decide_eq_true_eq] at hp
      obtain ⟨e1, e2, e3, -, -, e4, -⟩ := hT i i1 (by omega)
      rw [acF_4 (by omega)]
      unfold leS
      rw [if_pos ⟨by omega, by omega⟩, e2, e3]
      exact eq_4 h e4) (fun i i1 i2 hp σ τ h => by
      unfold pK at hp
      simp only [decide_eq_true_eq] at hp
      obtain ⟨e1, e2, e3, -, e5, e4, -⟩ := hT i i1 (by omega)
      unfold leS
      rw [if_neg (by omega)]
      exact h) r3 nt.toNat (Nat.le_refl _)
  rw [foldI_fst, foldI_fst] at r4
  exact r4
/-- no act stands ahead of day 0 -/
theorem ins_pos {x : Int × Int} {l : AL} (hx : 0 ≤ x.1) (h : ∀ y ∈ l, 0 ≤ y.1) : ∀ y ∈ ins x l, 0 ≤ y.1 := fun y hy => by
  unfold ins at hy
  rcases List.mem_append.mp hy with q | q
  · exact h y (List.mem_filter.mp q).1
  · rcases List.mem_cons.mp q with rfl | q
    · exact hx
    · exact h y (List.mem_filter.mp q).1
theorem fold_pos {f : Int → AL → AL} {s : AL} {N : Nat} (hf : ∀ i : Int, 0 ≤ i → i < N → ∀ l, (∀ y ∈ l, 0 ≤ y.1) → ∀ y ∈ f i l, 0 ≤ y.1) (hs : ∀ y ∈ s, 0 ≤ y.1) : ∀ (j : Nat), j ≤ N → ∀ y ∈ foldI f s j, 0 ≤ y.1
  | 0, _ => hs
  | j + 1, hj => hf j (by omega) (by omega) _ (fold_pos hf hs j (by omega))
theorem aT_pos (hE : agE n m so sz wh gr md du so' sz' wh' gr' md' du') (hK : agK nk kd ko kd' ko') (hL : agT nl ld lw lm ld' lw' lm') (hT : agT nt td tw tm td' tw' tm') : ∀ y ∈ aT n m nk nl nt wh md du kd ko ld lw td tw, 0 ≤ y.1 := by
  refine fold_pos (N := nt.toNat) (fun i i1 i2 l hl => ?_) (fold_pos (N := nl.toNat) (fun i i1 i2 l hl => ?_) (fold_pos (N := nk.toNat) (fun i i1 i2 l hl => ?_) (fold_pos (N := m.toNat) (fun i i1 i2 l hl => ?_) (fun y hy => absurd hy List.not_mem_nil) _ (Nat.le_refl _)) _ (Nat.le_refl _)) _ (Nat.le_refl _)) _ (Nat.le_refl _)
  · obtain ⟨-, -, -, e, -⟩ := hT i i1 (by omega)
    unfold stpT
    split
    · exact ins_pos (by show 0 ≤ 5 * td i + 4; omega) hl
    · exact hl
  · obtain ⟨-, -, -, e, -⟩ := hL i i1 (by omega)
    unfold stpT
    split
    · exact ins_pos (by show 0 ≤ 5 * ld i + 3; omega) hl
    · exact hl
  · obtain ⟨-, -, e, -⟩ := hK i i1 (by omega)
    unfold stpK
    split
    · exact ins_pos (by show 0 ≤ 5 * kd i + 1; omega) hl
    · exact hl
  · obtain ⟨-, -, -, -, -, -, -, e, e2⟩ := hE.2 i i1 (by omega)
    unfold stpV
    split
    · split
      · exact ins_pos (by show 0 ≤ 5 * md i; omega) hl
      · exact ins_pos (by show 0 ≤ 5 * du i + 2; omega) (ins_pos (by show 0 ≤ 5 * md i; omega) hl)
    · exact hl
theorem year_rel (hE : agE n m so sz wh gr md du so' sz' wh' gr' md' du') (hK : agK nk kd ko kd' ko') (hL : agT nl ld lw lm ld' lw' lm') (hT : agT nt td tw tm td' tw' tm') {σ τ : ST3} (hR : RLk n m wh σ τ) : ∀ (d : Nat), RLk n m wh (fdA (acF so sz wh gr ko lw lm tw tm nK nL) σ (fLt (5 * (d : Int)) (aT n m nk nl nt wh md du kd ko ld lw td tw))) (rnS (dyS n m m nk nl nt nK nL so' sz' wh' gr' md' du' kd' ko' ld' lw' lm' td' tw' tm') τ d)
  | 0 => by
    have e : fLt (5 * ((0 : Nat) : Int)) (aT n m nk nl nt wh md du kd ko ld lw td tw) = [] := List.filter_eq_nil_iff.mpr (fun y hy => by
      have := aT_pos hE hK hL hT y hy
      simp
      omega)
    rw [e]
    exact hR
  | d + 1 => by
    have ih := year_rel hE hK hL hT hR d
    rw [show 5 * ((d + 1 : Nat) : Int) = 5 * ((d : Int) + 1) by omega, fLt_5 aT_srt, fdA_app, aT_0 (by omega), aT_1 (by omega), aT_2 (by omega), aT_3 (by omega), aT_4 (by omega)]
    exact day_rel hE hK hL hT ih (by omega)
end YR
/-! a run over the rows, against the list -/
theorem rnF_fdA {F : Int → Int → ST3 → ST3} {f g : Int → Int} {l : AL} {n : Int} (h : isL l n f g) {σ : ST3} : ∀ (a b : Nat), a + b ≤ l.length → rnF F f g (a : Int) (fdA F σ (l.take a)) b = fdA F σ (l.take (a + b))
  | a, 0, _ => rfl
  | a, b + 1, hb => by
    have ih := rnF_fdA (F := F) h (σ := σ) a b (by omega)
    show F (f ((a : Int) + (b : Int))) (g ((a : Int) + (b : Int))) (rnF F f g (a : Int) (fdA F σ (l.take a)) b) = _
    rw [ih]
    have e := h.2 (a + b) (by omega)
    rw [show ((a : Int) + (b : Int)) = ((a + b : Nat) : Int) by omega, e.1, e.2, show a + (b + 1) = a + b + 1 by omega]
    have hl : a + b < l.length := by omega
    rw [List.take_succ, List.getElem?_eq_getElem hl, fdA_app]
    have e2 : l.getD (a + b) (0, 0) = l[a + b] := by rw [List.getD_eq_getElem?_getD, List.getElem?_eq_getElem hl]; rfl
    rw [e2]
    rfl
/-- the acts up to a place are those below a key -/
theorem take_fLt {l : AL} {n lim : Int} {f g : Int → Int} (hs : srt l) (h : isL l n f g) {b : Nat} (hb : b ≤ l.length) (h1 : ∀ i : Int, 0 ≤ i → i < b → f i < lim) (h2 : ¬ ((b : Int) < n ∧ f b < lim)) : l.take b = fLt lim l := by
  have hn := h.1
  unfold fLt
  conv => rhs; rw [← List.take_append_drop b l]
  rw [List.filter_append]
  have e1 : (l.take b).filter (fun y => decide (y.1 < lim)) = l.take b := List.filter_eq_self.mpr (fun y hy => by
    obtain ⟨i, hi⟩ := List.getElem?_of_mem hy
    have hlt : i < (l.take b).length := (List.getElem?_eq_some_iff.mp hi).1
    rw [List.length_take] at hlt
    rw [List.getElem?_take_of_lt (by omega)] at hi
    have := h1 i (by omega) (by omega)
    rw [(h.2 i (by omega)).1, List.getD_eq_getElem?_getD, hi] at this
    exact decide_eq_true this)
  have e2 : (l.drop b).filter (fun y => decide (y.1 < lim)) = [] := List.filter_eq_nil_iff.mpr (fun y hy => by
    by_cases hbl : b < l.length
    · have hf : ¬ f b < lim := fun q => h2 ⟨by omega, q⟩
      have hd : l.drop b = l[b] :: l.drop (b + 1) := List.drop_eq_getElem_cons hbl
      have hsd : srt (l.drop b) := (srt_app.mp (by rw [List.take_append_drop]; exact hs : srt (l.take b ++ l.drop b))).2.1
      have e3 : (l[b]).1 = f b := by rw [(h.2 b hbl).1, List.getD_eq_getElem?_getD, List.getElem?_eq_getElem hbl]; rfl
      rw [hd] at hy hsd
      simp only [decide_eq_true_eq]
      rcases List.mem_cons.mp hy with q | q
      · rw [q, e3]; exact hf
      · have := hsd.1 y q
        omega
    · rw [List.drop_eq_nil_of_le (by omega)] at hy
      exact absurd hy List.not_mem_nil)
  rw [e1, e2, List.append_nil]
