/-! ===== pure pictures: loops, texts ===== -/
def foldI {σ : Type} (f : Int → σ → σ) (s : σ) : Nat → σ
  | 0 => s
  | n + 1 => f (n : Int) (foldI f s n)
theorem foldI_s {σ : Type} {f : Int → σ → σ} {s : σ} {x : Int} (h : 0 ≤ x) : foldI f s (x + 1).toNat = f x (foldI f s x.toNat) := by
  obtain ⟨n, rfl⟩ := Int.eq_ofNat_of_zero_le h
  rfl
theorem foldI_cg {σ : Type} {f g : Int → σ → σ} {s : σ} : ∀ (n : Nat), (∀ i : Int, 0 ≤ i → i < n → ∀ t, f i t = g i t) → foldI f s n = foldI g s n
  | 0, _ => rfl
  | n + 1, h => by
    show f n (foldI f s n) = g n (foldI g s n)
    rw [foldI_cg n (fun i h1 h2 t => h i h1 (by omega) t), h n (by omega) (by omega)]
def ansT (n : Nat) (l : List (Nat × Nat)) : List Nat := (List.range n).map (fun k => (l.lookup k).getD k)
/-- may a byte stand at a place of the people's text, of the promises' -/
def gP (i b : Int) : Prop := (i % 3 = 0 ∧ (b = 109 ∨ b = 115 ∨ b = 97)) ∨ (i % 3 = 1 ∧ 48 ≤ b ∧ b ≤ 57) ∨ (i % 3 = 2 ∧ b = 59)
def gV (i b : Int) : Prop := (i % 5 = 0 ∧ 97 ≤ b ∧ b ≤ 104) ∨ (i % 5 = 1 ∧ 49 ≤ b ∧ b ≤ 57) ∨ ((i % 5 = 2 ∨ i % 5 = 3) ∧ 97 ≤ b ∧ b ≤ 120) ∨ (i % 5 = 4 ∧ b = 59)
def allG (g : Int → Int → Prop) (A : Int → Int) (n : Int) : Prop := ∀ i, 0 ≤ i → i < n → g i (A i)
theorem allG_z {g : Int → Int → Prop} {A : Int → Int} : allG g A 0 := fun i h1 h2 => by omega
theorem allG_s {g : Int → Int → Prop} {A : Int → Int} {n : Int} (h : allG g A n) (hn : g n (A n)) : allG g A (n + 1) := fun i h1 h2 => by
  by_cases e : i = n
  · rw [e]; exact hn
  · exact h i h1 (by omega)
def wellP (L : Int) (A : Int → Int) : Prop := allG gP A L ∧ (L = 0 ∨ L % 3 = 2)
def wellV (L : Int) (A : Int → Int) : Prop := allG gV A L ∧ (L = 0 ∨ L % 5 = 4)
def ffP (r L : Int) (A : Int → Int) : Prop := (r = -1 ∧ wellP L A) ∨ (0 ≤ r ∧ r < L ∧ allG gP A r ∧ ¬ gP r (A r)) ∨ (r = L ∧ allG gP A L ∧ ¬ (L = 0 ∨ L % 3 = 2))
def ffV (r L : Int) (A : Int → Int) : Prop := (r = -1 ∧ wellV L A) ∨ (0 ≤ r ∧ r < L ∧ allG gV A r ∧ ¬ gV r (A r)) ∨ (r = L ∧ allG gV A L ∧ ¬ (L = 0 ∨ L % 5 = 4))
theorem ffP_no {r L : Int} {A : Int → Int} (h : ffP r L A) (hr : ¬ r = -1) (hL : 0 ≤ L) : ¬ wellP L A := by
  intro w
  rcases h with ⟨q, -⟩ | ⟨q1, q2, -, q3⟩ | ⟨-, -, q⟩
  · exact hr q
  · exact q3 (w.1 r q1 q2)
  · exact q w.2
theorem ffP_yes {r L : Int} {A : Int → Int} (h : ffP r L A) (hr : r = -1) (hL : 0 ≤ L) : wellP L A := by
  rcases h with ⟨-, q⟩ | ⟨q1, q2, -, q3⟩ | ⟨q, -, -⟩
  · exact q
  · omega
  · omega
theorem ffV_no {r L : Int} {A : Int → Int} (h : ffV r L A) (hr : ¬ r = -1) (hL : 0 ≤ L) : ¬ wellV L A := by
  intro w
  rcases h with ⟨q, -⟩ | ⟨q1, q2, -, q3⟩ | ⟨-, -, q⟩
  · exact hr q
  · exact q3 (w.1 r q1 q2)
  · exact q w.2
theorem ffV_yes {r L : Int} {A : Int → Int} (h : ffV r L A) (hr : r = -1) (hL : 0 ≤ L) : wellV L A := by
  rcases h with ⟨-, q⟩ | ⟨q1, q2, -, q3⟩ | ⟨q, -, -⟩
  · exact q
  · omega
  · omega
/-- how many people, promises -/
def nP (n L : Int) (A : Int → Int) : Prop := (wellP L A → n = (L + 1) / 3) ∧ (¬ wellP L A → n = 0)
def nV (m L : Int) (A : Int → Int) : Prop := (wellV L A → m = (L + 1) / 5) ∧ (¬ wellV L A → m = 0)
def soP (b : Int) : Int := if b = 115 then 1 else if b = 97 then 2 else 0
def tkP (n : Int) (A so sz : Int → Int) : Prop := ∀ i, 0 ≤ i → i < n → so i = soP (A (3 * i)) ∧ sz i = A (3 * i + 1) - 48
def tkV (n : Int) (A wh gr md du : Int → Int) : Prop := ∀ i, 0 ≤ i → i < n → wh i = A (5 * i) - 97 ∧ gr i = A (5 * i + 1) - 48 ∧ md i = A (5 * i + 2) - 97 ∧ du i = A (5 * i + 3) - 97
theorem tkP_z {A so sz : Int → Int} : tkP 0 A so sz := fun i h1 h2 => by omega
theorem tkV_z {A wh gr md du : Int → Int} : tkV 0 A wh gr md du := fun i h1 h2 => by omega
theorem tkP_s {n : Int} {A so sz : Int → Int} (h : tkP n A so sz) {x y : Int} (hx : x = soP (A (3 * n))) (hy : y = A (3 * n + 1) - 48) : tkP (n + 1) A (updI so n x) (updI sz n y) := fun i h1 h2 => by
  by_cases e : i = n
  · subst e
    rw [updI_at, updI_at]
    exact ⟨hx, hy⟩
  · rw [updI_ne e, updI_ne e]
    exact h i h1 (by omega)
theorem tkV_s {n : Int} {A wh gr md du : Int → Int} (h : tkV n A wh gr md du) {x y z w : Int} (hx : x = A (5 * n) - 97) (hy : y = A (5 * n + 1) - 48) (hz : z = A (5 * n + 2) - 97) (hw : w = A (5 * n + 3) - 97) : tkV (n + 1) A (updI wh n x) (updI gr n y) (updI md n z) (updI du n w) := fun i h1 h2 => by
  by_cases e : i = n
  · subst e
    rw [updI_at, updI_at, updI_at, updI_at]
    exact ⟨hx, hy, hz, hw⟩
  · rw [updI_ne e, updI_ne e, updI_ne e, updI_ne e]
    exact h i h1 (by omega)
/-- the bytes of a person, of a promise, where the text is well -/
theorem wellP_at {L n i : Int} {A : Int → Int} (h : nP n L A) (hL : 0 ≤ L) (h1 : 0 ≤ i) (h2 : i < n) : (A (3 * i) = 109 ∨ A (3 * i) = 115 ∨ A (3 * i) = 97) ∧ 48 ≤ A (3 * i + 1) ∧ A (3 * i + 1) ≤ 57 := by
  by_cases w : wellP L A
  · have e := h.1 w
    have w2 := w.2
    have g1 := w.1 (3 * i) (by omega) (by omega)
    have g2 := w.1 (3 * i + 1) (by omega) (by omega)
    unfold gP at g1 g2
    omega
  · have := h.2 w
    omega
theorem wellV_at {L n i : Int} {A : Int → Int} (h : nV n L A) (hL : 0 ≤ L) (h1 : 0 ≤ i) (h2 : i < n) : (97 ≤ A (5 * i) ∧ A (5 * i) ≤ 104) ∧ (49 ≤ A (5 * i + 1) ∧ A (5 * i + 1) ≤ 57) ∧ (97 ≤ A (5 * i + 2) ∧ A (5 * i + 2) ≤ 120) ∧ (97 ≤ A (5 * i + 3) ∧ A (5 * i + 3) ≤ 120) := by
  by_cases w : wellV L A
  · have e := h.1 w
    have w2 := w.2
    have g1 := w.1 (5 * i) (by omega) (by omega)
    have g2 := w.1 (5 * i + 1) (by omega) (by omega)
    have g3 := w.1 (5 * i + 2) (by omega) (by omega)
    have g4 := w.1 (5 * i + 3) (by omega) (by omega)
    unfold gV at g1 g2 g3 g4
    omega
  · have := h.2 w
    omega
/-! ===== reading a text to its end, or to its fault ===== -/
def sh (T : Int → Int) : Int → Int := fun i => T (i + 49)
theorem allG_3 {g : Int → Int → Prop} {A : Int → Int} {n m : Int} (h : allG g A n) (h0 : n < m → g n (A n)) (h1 : n + 1 < m → g (n + 1) (A (n + 1))) (h2 : n + 2 < m → g (n + 2) (A (n + 2))) (hm : m ≤ n + 3) : allG g A m := fun j j1 j2 => by
  by_cases q : j < n
  · exact h j j1 q
  · rcases (show j = n ∨ j = n + 1 ∨ j = n + 2 by omega) with e | e | e
    · subst e; exact h0 j2
    · subst e; exact h1 j2
    · subst e; exact h2 j2
theorem allG_5 {g : Int → Int → Prop} {A : Int → Int} {n m : Int} (h : allG g A n) (h0 : n < m → g n (A n)) (h1 : n + 1 < m → g (n + 1) (A (n + 1))) (h2 : n + 2 < m → g (n + 2) (A (n + 2))) (h3 : n + 3 < m → g (n + 3) (A (n + 3))) (h4 : n + 4 < m → g (n + 4) (A (n + 4))) (hm : m ≤ n + 5) : allG g A m := fun j j1 j2 => by
  by_cases q : j < n
  · exact h j j1 q
  · rcases (show j = n ∨ j = n + 1 ∨ j = n + 2 ∨ j = n + 3 ∨ j = n + 4 by omega) with e | e | e | e | e
    · subst e; exact h0 j2
    · subst e; exact h1 j2
    · subst e; exact h2 j2
    · subst e; exact h3 j2
    · subst e; exact h4 j2
def rdP (r n L : Int) (T so me : Int → Int) : Prop := ffP r L T ∧ nP n L T ∧ tkP n T so me
def rdV (r n L : Int) (T wh gr md du : Int → Int) : Prop := ffV r L T ∧ nV n L T ∧ tkV n T wh gr md du
theorem rdP_f {r L : Int} {T so me : Int → Int} (h : ffP r L T) (hr : ¬ r = -1) (hL : 0 ≤ L) : rdP r 0 L T so me := ⟨h, ⟨fun w => absurd w (ffP_no h hr hL), fun _ => rfl⟩, tkP_z⟩
theorem rdP_w {n L : Int} {T so me : Int → Int} (w : wellP L T) (hn : n = (L + 1) / 3) (ht : tkP n T so me) : rdP (-1) n L T so me := ⟨Or.inl ⟨rfl, w⟩, ⟨fun _ => hn, fun q => absurd w q⟩, ht⟩
theorem rdV_f {r L : Int} {T wh gr md du : Int → Int} (h : ffV r L T) (hr : ¬ r = -1) (hL : 0 ≤ L) : rdV r 0 L T wh gr md du := ⟨h, ⟨fun w => absurd w (ffV_no h hr hL), fun _ => rfl⟩, tkV_z⟩
theorem rdV_w {n L : Int} {T wh gr md du : Int → Int} (w : wellV L T) (hn : n = (L + 1) / 5) (ht : tkV n T wh gr md du) : rdV (-1) n L T wh gr md du := ⟨Or.inl ⟨rfl, w⟩, ⟨fun _ => hn, fun q => absurd w q⟩, ht⟩
def rpI (at_ n pp L : Int) (T so me : Int → Int) : Prop := at_ = 3 * n ∧ at_ ≤ L ∧ allG gP T at_ ∧ tkP n T so me ∧ pp = 0
def rvI (at_ n pp L : Int) (T wh gr md du : Int → Int) : Prop := at_ = 5 * n ∧ at_ ≤ L ∧ allG gV T at_ ∧ tkV n T wh gr md du ∧ pp = 0
/-! ===== the class: its texts; printed by wip/gen/x ===== -/
def P_allP (l : List Int) (a : List (Int → Int)) : Prop := match l, a with
  | [i], [A] => allG gP A i
  | _, _ => False
theorem hFp_64 {PT : PTy} {ρ : Nat → Int} {α : Nat → Int → Int} (l : List AN) (a : List Nat) : hF PT ρ α (64, l, a) = PT 64 (l.map (den ρ)) (a.map α) := rfl
def P_allV (l : List Int) (a : List (Int → Int)) : Prop := match l, a with
  | [i], [A] => allG gV A i
  | _, _ => False
theorem hFp_65 {PT : PTy} {ρ : Nat → Int} {α : Nat → Int → Int} (l : List AN) (a : List Nat) : hF PT ρ α (65, l, a) = PT 65 (l.map (den ρ)) (a.map α) := rfl
def P_ffP (l : List Int) (a : List (Int → Int)) : Prop := match l, a with
  | [r, L], [A] => ffP r L A
  | _, _ => False
theorem hFp_66 {PT : PTy} {ρ : Nat → Int} {α : Nat → Int → Int} (l : List AN) (a : List Nat) : hF PT ρ α (66, l, a) = PT 66 (l.map (den ρ)) (a.map α) := rfl
def P_ffV (l : List Int) (a : List (Int → Int)) : Prop := match l, a with
  | [r, L], [A] => ffV r L A
  | _, _ => False
theorem hFp_67 {PT : PTy} {ρ : Nat → Int} {α : Nat → Int → Int} (l : List AN) (a : List Nat) : hF PT ρ α (67, l, a) = PT 67 (l.map (den ρ)) (a.map α) := rfl
def P_nP (l : List Int) (a : List (Int → Int)) : Prop := match l, a with
  | [n, L], [A] => nP n L A
  | _, _ => False
theorem hFp_68 {PT : PTy} {ρ : Nat → Int} {α : Nat → Int → Int} (l : List AN) (a : List Nat) : hF PT ρ α (68, l, a) = PT 68 (l.map (den ρ)) (a.map α) := rfl
def P_nV (l : List Int) (a : List (Int → Int)) : Prop := match l, a with
  | [n, L], [A] => nV n L A
  | _, _ => False
theorem hFp_69 {PT : PTy} {ρ : Nat → Int} {α : Nat → Int → Int} (l : List AN) (a : List Nat) : hF PT ρ α (69, l, a) = PT 69 (l.map (den ρ)) (a.map α) := rfl
def P_tkP (l : List Int) (a : List (Int → Int)) : Prop := match l, a with
  | [n], [A, so, sz] => tkP n A so sz
  | _, _ => False
theorem hFp_70 {PT : PTy} {ρ : Nat → Int} {α : Nat → Int → Int} (l : List AN) (a : List Nat) : hF PT ρ α (70, l, a) = PT 70 (l.map (den ρ)) (a.map α) := rfl
def P_tkV (l : List Int) (a : List (Int → Int)) : Prop := match l, a with
  | [n], [A, wh, gr, md, du] => tkV n A wh gr md du
  | _, _ => False
theorem hFp_71 {PT : PTy} {ρ : Nat → Int} {α : Nat → Int → Int} (l : List AN) (a : List Nat) : hF PT ρ α (71, l, a) = PT 71 (l.map (den ρ)) (a.map α) := rfl
def HP1 (PT : PTy) : Prop := HP0 PT ∧ (PT 64 = P_allP ∧ PT 65 = P_allV ∧ PT 66 = P_ffP ∧ PT 67 = P_ffV ∧ PT 68 = P_nP ∧ PT 69 = P_nV ∧ PT 70 = P_tkP ∧ PT 71 = P_tkV ∧ True)
def c_FF_P : XC := (30, 1, (bX), [.inr (.inl 1)], (gX 999), [], [((bX ++ [((-1), 23)]), some (.inl (some 14, 0)), (gX 999), (List.range 58), 58, [(66, [(some 14, 0), (some 0, 0)], [2])])])
def h_FF_P : List XH := [(2, (bX ++ [(0, 23)]), [some (.inr (.inl 1)), some (.inl (some 14, 0)), none], (gX 999), (List.range 58), 58, [(64, [(some 14, 0)], [2])], [(true, (none, 1)), (true, (some 14, 0))])]
def w_FF_P_0_0 : VC := ((bX), [], (64, [(none, 0)], [2]))
theorem pe64_1 {PT : PTy} (hp : HP1 PT) : PT 64 = P_allP := hp.2.1
set_option maxRecDepth 20000 in
theorem v_FF_P_0_0 {PT : PTy} (hp : HP1 PT) : vcOk PT w_FF_P_0_0 := vc_in [] (by decide +kernel) (fun ρ α => by
  intro tt
  have e64 : PT 64 = P_allP := pe64_1 hp
  simp only [hFp_64, e64, P_allP, den_s, den_c, Int.add_zero, List.map_cons, List.map_nil] at ⊢
  exact allG_z)
def w_FF_P_1_0 : VC := (([(0, 0), (0, 49), (0, 8), (0, 11), (0, 9), (0, 6), (0, 6), (0, 8), (0, 9), (0, 49), (0, 49), ((-2147483648), 2147483647), ((-2147483648), 2147483647), (0, 5), (0, 23)]), [(1, [(none, 1), (none, 0)], []), (0, [(some 0, 0), (none, 0)], []), (3, [(some 14, 0), (some 0, 0)], []), (64, [(some 14, 0)], [2])], (66, [(none, (-1)), (some 0, 0)], [2]))
theorem pe66_1 {PT : PTy} (hp : HP1 PT) : PT 66 = P_ffP := hp.2.2.2.1
set_option maxRecDepth 20000 in
theorem v_FF_P_1_0 {PT : PTy} (hp : HP1 PT) : vcOk PT w_FF_P_1_0 := vc_in [(0, 0, 0), (14, 0, 23)] (by decide +kernel) (fun ρ α => by
  intro b0 b14 f0 f1 f2 f3 tt
  clear f0
  have e64 : PT 64 = P_allP := pe64_1 hp
  have e66 : PT 66 = P_ffP := pe66_1 hp
  simp only [hF0, hF3, hFp_64, hFp_66, e64, e66, P_allP, P_ffP, den_s, den_c, Int.add_zero, List.map_cons, List.map_nil] at f1 f2 f3 ⊢
  first
    | exact allG_s f3 (by unfold gP; omega)
    | (unfold ffP; exact Or.inl ⟨rfl, fun j h1 h2 => f3 j h1 (by omega), by omega⟩)
    | (unfold ffP; exact Or.inr (Or.inr ⟨rfl, fun j h1 h2 => f3 j h1 (by omega), by omega⟩))
    | (unfold ffP; exact Or.inr (Or.inl ⟨by omega, by omega, f3, by unfold gP; omega⟩)))
def w_FF_P_1_1 : VC := (([(1, 23), (0, 49), (0, 8), (0, 11), (0, 9), (0, 6), (0, 6), (0, 8), (0, 9), (0, 49), (0, 49), ((-2147483648), 2147483647), ((-2147483648), 2147483647), (0, 5), (0, 23), (0, 1)]), [(0, [(none, 0), (none, 0)], []), (1, [(some 15, 0), (none, 2)], []), (8, [(some 15, 0), (some 0, 0), (none, 3)], []), (0, [(none, 0), (none, 0)], []), (1, [(some 0, 0), (none, 0)], []), (3, [(some 14, 0), (some 0, 0)], []), (64, [(some 14, 0)], [2])], (66, [(some 0, 0), (some 0, 0)], [2]))
set_option maxRecDepth 20000 in
theorem v_FF_P_1_1 {PT : PTy} (hp : HP1 PT) : vcOk PT w_FF_P_1_1 := vc_in [(0, 1, 23), (14, 0, 23), (15, 0, 1)] (by decide +kernel) (fun ρ α => by
  intro b0 b14 b15 f0 f1 f2 f3 f4 f5 f6 tt
  clear f0 f1 f3 f4
  have e64 : PT 64 = P_allP := pe64_1 hp
  have e66 : PT 66 = P_ffP := pe66_1 hp
  simp only [hF3, hF8, hFp_64, hFp_66, e64, e66, P_allP, P_ffP, den_s, den_c, Int.add_zero, List.map_cons, List.map_nil] at f2 f5 f6 ⊢
  first
    | exact allG_s f6 (by unfold gP; omega)
    | (unfold ffP; exact Or.inl ⟨rfl, fun j h1 h2 => f6 j h1 (by omega), by omega⟩)
    | (unfold ffP; exact Or.inr (Or.inr ⟨rfl, fun j h1 h2 => f6 j h1 (by omega), by omega⟩))
    | (unfold ffP; exact Or.inr (Or.inl ⟨by omega, by omega, f6, by unfold gP; omega⟩)))
def w_FF_P_1_2 : VC := (([(1, 23), (0, 49), (0, 8), (0, 11), (0, 9), (0, 6), (0, 6), (0, 8), (0, 9), (0, 49), (0, 49), ((-2147483648), 2147483647), ((-2147483648), 2147483647), (0, 5), (0, 23), (2, 2)]), [(1, [(none, 1), (none, 0)], []), (0, [(some 15, 0), (none, 2)], []), (8, [(some 15, 0), (some 0, 0), (none, 3)], []), (0, [(none, 0), (none, 0)], []), (1, [(some 0, 0), (none, 0)], []), (3, [(some 14, 0), (some 0, 0)], []), (64, [(some 14, 0)], [2])], (66, [(none, (-1)), (some 0, 0)], [2]))
set_option maxRecDepth 20000 in
theorem v_FF_P_1_2 {PT : PTy} (hp : HP1 PT) : vcOk PT w_FF_P_1_2 := vc_in [(0, 1, 23), (14, 0, 23), (15, 2, 2)] (by decide +kernel) (fun ρ α => by
  intro b0 b14 b15 f0 f1 f2 f3 f4 f5 f6 tt
  clear f0 f3 f4
  have e64 : PT 64 = P_allP := pe64_1 hp
  have e66 : PT 66 = P_ffP := pe66_1 hp
  simp only [hF0, hF3, hF8, hFp_64, hFp_66, e64, e66, P_allP, P_ffP, den_s, den_c, Int.add_zero, List.map_cons, List.map_nil] at f1 f2 f5 f6 ⊢
  first
    | exact allG_s f6 (by unfold gP; omega)
    | (unfold ffP; exact Or.inl ⟨rfl, fun j h1 h2 => f6 j h1 (by omega), by omega⟩)
    | (unfold ffP; exact Or.inr (Or.inr ⟨rfl, fun j h1 h2 => f6 j h1 (by omega), by omega⟩))
    | (unfold ffP; exact Or.inr (Or.inl ⟨by omega, by omega, f6, by unfold gP; omega⟩)))
def w_FF_P_1_3 : VC := (([(1, 23), (0, 49), (0, 8), (0, 11), (0, 9), (0, 6), (0, 6), (0, 8), (0, 9), (0, 49), (0, 49), ((-2147483648), 2147483647), ((-2147483648), 2147483647), (0, 5), (0, 22), (0, 255), (0, 2)]), [(0, [(none, 0), (none, 0)], []), (1, [(some 15, 0), (none, 59)], []), (1, [(some 16, 0), (none, 0)], []), (1, [(some 16, 0), (none, 1)], []), (8, [(some 16, 0), (some 14, 0), (none, 3)], []), (20, [(some 15, 0), (some 14, 0)], [2]), (0, [(none, 0), (none, 0)], []), (2, [(some 14, 0), (some 0, 0)], []), (64, [(some 14, 0)], [2])], (66, [(some 14, 0), (some 0, 0)], [2]))
set_option maxRecDepth 20000 in
theorem v_FF_P_1_3 {PT : PTy} (hp : HP1 PT) : vcOk PT w_FF_P_1_3 := vc_in [(0, 1, 23), (14, 0, 22), (15, 0, 255), (16, 0, 2)] (by decide +kernel) (fun ρ α => by
  intro b0 b14 b15 b16 f0 f1 f2 f3 f4 f5 f6 f7 f8 tt
  clear f0 f6
  have e64 : PT 64 = P_allP := pe64_1 hp
  have e66 : PT 66 = P_ffP := pe66_1 hp
  simp only [hF1, hF2, hF8, hF20, hFp_64, hFp_66, e64, e66, P_allP, P_ffP, den_s, den_c, Int.add_zero, List.map_cons, List.map_nil] at f1 f2 f3 f4 f5 f7 f8 ⊢
  first
    | exact allG_s f8 (by unfold gP; omega)
    | (unfold ffP; exact Or.inl ⟨rfl, fun j h1 h2 => f8 j h1 (by omega), by omega⟩)
    | (unfold ffP; exact Or.inr (Or.inr ⟨rfl, fun j h1 h2 => f8 j h1 (by omega), by omega⟩))
    | (unfold ffP; exact Or.inr (Or.inl ⟨by omega, by omega, f8, by unfold gP; omega⟩)))
def w_FF_P_1_4 : VC := (([(1, 23), (0, 49), (0, 8), (0, 11), (0, 9), (0, 6), (0, 6), (0, 8), (0, 9), (0, 49), (0, 49), ((-2147483648), 2147483647), ((-2147483648), 2147483647), (0, 5), (0, 22), (59, 59), (0, 2)]), [(1, [(none, 1), (none, 0)], []), (0, [(some 15, 0), (none, 59)], []), (1, [(some 16, 0), (none, 0)], []), (1, [(some 16, 0), (none, 1)], []), (8, [(some 16, 0), (some 14, 0), (none, 3)], []), (20, [(some 15, 0), (some 14, 0)], [2]), (0, [(none, 0), (none, 0)], []), (2, [(some 14, 0), (some 0, 0)], []), (64, [(some 14, 0)], [2])], (64, [(some 14, 1)], [2]))
set_option maxRecDepth 20000 in
theorem v_FF_P_1_4 {PT : PTy} (hp : HP1 PT) : vcOk PT w_FF_P_1_4 := vc_in [(0, 1, 23), (14, 0, 22), (15, 59, 59), (16, 0, 2)] (by decide +kernel) (fun ρ α => by
  intro b0 b14 b15 b16 f0 f1 f2 f3 f4 f5 f6 f7 f8 tt
  clear f0 f6
  have e64 : PT 64 = P_allP := pe64_1 hp
  simp only [hF0, hF1, hF2, hF8, hF20, hFp_64, e64, P_allP, den_s, den_c, Int.add_zero, List.map_cons, List.map_nil] at f1 f2 f3 f4 f5 f7 f8 ⊢
  first
    | exact allG_s f8 (by unfold gP; omega)
    | (unfold ffP; exact Or.inl ⟨rfl, fun j h1 h2 => f8 j h1 (by omega), by omega⟩)
    | (unfold ffP; exact Or.inr (Or.inr ⟨rfl, fun j h1 h2 => f8 j h1 (by omega), by omega⟩))
    | (unfold ffP; exact Or.inr (Or.inl ⟨by omega, by omega, f8, by unfold gP; omega⟩)))
def w_FF_P_1_5 : VC := (([(1, 23), (0, 49), (0, 8), (0, 11), (0, 9), (0, 6), (0, 6), (0, 8), (0, 9), (0, 49), (0, 49), ((-2147483648), 2147483647), ((-2147483648), 2147483647), (0, 5), (0, 22), (109, 109), (0, 0)]), [(1, [(none, 1), (none, 0)], []), (0, [(some 15, 0), (none, 109)], []), (0, [(some 16, 0), (none, 0)], []), (8, [(some 16, 0), (some 14, 0), (none, 3)], []), (20, [(some 15, 0), (some 14, 0)], [2]), (0, [(none, 0), (none, 0)], []), (2, [(some 14, 0), (some 0, 0)], []), (64, [(some 14, 0)], [2])], (64, [(some 14, 1)], [2]))
set_option maxRecDepth 20000 in
theorem v_FF_P_1_5 {PT : PTy} (hp : HP1 PT) : vcOk PT w_FF_P_1_5 := vc_in [(0, 1, 23), (14, 0, 22), (15, 109, 109), (16, 0, 0)] (by decide +kernel) (fun ρ α => by
  intro b0 b14 b15 b16 f0 f1 f2 f3 f4 f5 f6 f7 tt
  clear f0 f5
  have e64 : PT 64 = P_allP := pe64_1 hp
  simp only [hF0, hF2, hF8, hF20, hFp_64, e64, P_allP, den_s, den_c, Int.add_zero, List.map_cons, List.map_nil] at f1 f2 f3 f4 f6 f7 ⊢
  first
    | exact allG_s f7 (by unfold gP; omega)
    | (unfold ffP; exact Or.inl ⟨rfl, fun j h1 h2 => f7 j h1 (by omega), by omega⟩)
    | (unfold ffP; exact Or.inr (Or.inr ⟨rfl, fun j h1 h2 => f7 j h1 (by omega), by omega⟩))
    | (unfold ffP; exact Or.inr (Or.inl ⟨by omega, by omega, f7, by unfold gP; omega⟩)))
def w_FF_P_1_6 : VC := (([(1, 23), (0, 49), (0, 8), (0, 11), (0, 9), (0, 6), (0, 6), (0, 8), (0, 9), (0, 49), (0, 49), ((-2147483648), 2147483647), ((-2147483648), 2147483647), (0, 5), (0, 22), (115, 115), (0, 0)]), [(1, [(none, 1), (none, 0)], []), (0, [(some 15, 0), (none, 115)], []), (1, [(some 15, 0), (none, 109)], []), (0, [(some 16, 0), (none, 0)], []), (8, [(some 16, 0), (some 14, 0), (none, 3)], []), (20, [(some 15, 0), (some 14, 0)], [2]), (0, [(none, 0), (none, 0)], []), (2, [(some 14, 0), (some 0, 0)], []), (64, [(some 14, 0)], [2])], (64, [(some 14, 1)], [2]))
set_option maxRecDepth 20000 in
theorem v_FF_P_1_6 {PT : PTy} (hp : HP1 PT) : vcOk PT w_FF_P_1_6 := vc_in [(0, 1, 23), (14, 0, 22), (15, 115, 115), (16, 0, 0)] (by decide +kernel) (fun ρ α => by
  intro b0 b14 b15 b16 f0 f1 f2 f3 f4 f5 f6 f7 f8 tt
  clear f0 f2 f6
  have e64 : PT 64 = P_allP := pe64_1 hp
  simp only [hF0, hF2, hF8, hF20, hFp_64, e64, P_allP, den_s, den_c, Int.add_zero, List.map_cons, List.map_nil] at f1 f3 f4 f5 f7 f8 ⊢
  first
    | exact allG_s f8 (by unfold gP; omega)
    | (unfold ffP; exact Or.inl ⟨rfl, fun j h1 h2 => f8 j h1 (by omega), by omega⟩)
    | (unfold ffP; exact Or.inr (Or.inr ⟨rfl, fun j h1 h2 => f8 j h1 (by omega), by omega⟩))
    | (unfold ffP; exact Or.inr (Or.inl ⟨by omega, by omega, f8, by unfold gP; omega⟩)))
def w_FF_P_1_7 : VC := (([(1, 23), (0, 49), (0, 8), (0, 11), (0, 9), (0, 6), (0, 6), (0, 8), (0, 9), (0, 49), (0, 49), ((-2147483648), 2147483647), ((-2147483648), 2147483647), (0, 5), (0, 22), (0, 255), (0, 0)]), [(0, [(none, 0), (none, 0)], []), (1, [(some 15, 0), (none, 97)], []), (1, [(some 15, 0), (none, 115)], []), (1, [(some 15, 0), (none, 109)], []), (0, [(some 16, 0), (none, 0)], []), (8, [(some 16, 0), (some 14, 0), (none, 3)], []), (20, [(some 15, 0), (some 14, 0)], [2]), (0, [(none, 0), (none, 0)], []), (2, [(some 14, 0), (some 0, 0)], []), (64, [(some 14, 0)], [2])], (66, [(some 14, 0), (some 0, 0)], [2]))
set_option maxRecDepth 20000 in
theorem v_FF_P_1_7 {PT : PTy} (hp : HP1 PT) : vcOk PT w_FF_P_1_7 := vc_in [(0, 1, 23), (14, 0, 22), (15, 0, 255), (16, 0, 0)] (by decide +kernel) (fun ρ α => by
  intro b0 b14 b15 b16 f0 f1 f2 f3 f4 f5 f6 f7 f8 f9 tt
  clear f0 f7
  have e64 : PT 64 = P_allP := pe64_1 hp
  have e66 : PT 66 = P_ffP := pe66_1 hp
  simp only [hF0, hF1, hF2, hF8, hF20, hFp_64, hFp_66, e64, e66, P_allP, P_ffP, den_s, den_c, Int.add_zero, List.map_cons, List.map_nil] at f1 f2 f3 f4 f5 f6 f8 f9 ⊢
  first
    | exact allG_s f9 (by unfold gP; omega)
    | (unfold ffP; exact Or.inl ⟨rfl, fun j h1 h2 => f9 j h1 (by omega), by omega⟩)
    | (unfold ffP; exact Or.inr (Or.inr ⟨rfl, fun j h1 h2 => f9 j h1 (by omega), by omega⟩))
    | (unfold ffP; exact Or.inr (Or.inl ⟨by omega, by omega, f9, by unfold gP; omega⟩)))
def w_FF_P_1_8 : VC := (([(1, 23), (0, 49), (0, 8), (0, 11), (0, 9), (0, 6), (0, 6), (0, 8), (0, 9), (0, 49), (0, 49), ((-2147483648), 2147483647), ((-2147483648), 2147483647), (0, 5), (0, 22), (97, 97), (0, 0)]), [(1, [(none, 1), (none, 0)], []), (0, [(some 15, 0), (none, 97)], []), (1, [(some 15, 0), (none, 115)], []), (1, [(some 15, 0), (none, 109)], []), (0, [(some 16, 0), (none, 0)], []), (8, [(some 16, 0), (some 14, 0), (none, 3)], []), (20, [(some 15, 0), (some 14, 0)], [2]), (0, [(none, 0), (none, 0)], []), (2, [(some 14, 0), (some 0, 0)], []), (64, [(some 14, 0)], [2])], (64, [(some 14, 1)], [2]))
set_option maxRecDepth 20000 in
theorem v_FF_P_1_8 {PT : PTy} (hp : HP1 PT) : vcOk PT w_FF_P_1_8 := vc_in [(0, 1, 23), (14, 0, 22), (15, 97, 97), (16, 0, 0)] (by decide +kernel) (fun ρ α => by
  intro b0 b14 b15 b16 f0 f1 f2 f3 f4 f5 f6 f7 f8 f9 tt
  clear f0 f2 f3 f7
  have e64 : PT 64 = P_allP := pe64_1 hp
  simp only [hF0, hF2, hF8, hF20, hFp_64, e64, P_allP, den_s, den_c, Int.add_zero, List.map_cons, List.map_nil] at f1 f4 f5 f6 f8 f9 ⊢
  first
    | exact allG_s f9 (by unfold gP; omega)
    | (unfold ffP; exact Or.inl ⟨rfl, fun j h1 h2 => f9 j h1 (by omega), by omega⟩)
    | (unfold ffP; exact Or.inr (Or.inr ⟨rfl, fun j h1 h2 => f9 j h1 (by omega), by omega⟩))
    | (unfold ffP; exact Or.inr (Or.inl ⟨by omega, by omega, f9, by unfold gP; omega⟩)))
def w_FF_P_1_9 : VC := (([(1, 23), (0, 49), (0, 8), (0, 11), (0, 9), (0, 6), (0, 6), (0, 8), (0, 9), (0, 49), (0, 49), ((-2147483648), 2147483647), ((-2147483648), 2147483647), (0, 5), (0, 22), (0, 47), (1, 1)]), [(0, [(none, 0), (none, 0)], []), (2, [(some 15, 0), (none, 48)], []), (0, [(some 16, 0), (none, 1)], []), (8, [(some 16, 0), (some 14, 0), (none, 3)], []), (20, [(some 15, 0), (some 14, 0)], [2]), (0, [(none, 0), (none, 0)], []), (2, [(some 14, 0), (some 0, 0)], []), (64, [(some 14, 0)], [2])], (66, [(some 14, 0), (some 0, 0)], [2]))
set_option maxRecDepth 20000 in
theorem v_FF_P_1_9 {PT : PTy} (hp : HP1 PT) : vcOk PT w_FF_P_1_9 := vc_in [(0, 1, 23), (14, 0, 22), (15, 0, 47), (16, 1, 1)] (by decide +kernel) (fun ρ α => by
  intro b0 b14 b15 b16 f0 f1 f2 f3 f4 f5 f6 f7 tt
  clear f0 f1 f5
  have e64 : PT 64 = P_allP := pe64_1 hp
  have e66 : PT 66 = P_ffP := pe66_1 hp
  simp only [hF0, hF2, hF8, hF20, hFp_64, hFp_66, e64, e66, P_allP, P_ffP, den_s, den_c, Int.add_zero, List.map_cons, List.map_nil] at f2 f3 f4 f6 f7 ⊢
  first
    | exact allG_s f7 (by unfold gP; omega)
    | (unfold ffP; exact Or.inl ⟨rfl, fun j h1 h2 => f7 j h1 (by omega), by omega⟩)
    | (unfold ffP; exact Or.inr (Or.inr ⟨rfl, fun j h1 h2 => f7 j h1 (by omega), by omega⟩))
    | (unfold ffP; exact Or.inr (Or.inl ⟨by omega, by omega, f7, by unfold gP; omega⟩)))
def w_FF_P_1_10 : VC := (([(1, 23), (0, 49), (0, 8), (0, 11), (0, 9), (0, 6), (0, 6), (0, 8), (0, 9), (0, 49), (0, 49), ((-2147483648), 2147483647), ((-2147483648), 2147483647), (0, 5), (0, 22), (58, 255), (1, 1)]), [(0, [(none, 0), (none, 0)], []), (2, [(none, 57), (some 15, 0)], []), (3, [(some 15, 0), (none, 48)], []), (0, [(some 16, 0), (none, 1)], []), (8, [(some 16, 0), (some 14, 0), (none, 3)], []), (20, [(some 15, 0), (some 14, 0)], [2]), (0, [(none, 0), (none, 0)], []), (2, [(some 14, 0), (some 0, 0)], []), (64, [(some 14, 0)], [2])], (66, [(some 14, 0), (some 0, 0)], [2]))
set_option maxRecDepth 20000 in
theorem v_FF_P_1_10 {PT : PTy} (hp : HP1 PT) : vcOk PT w_FF_P_1_10 := vc_in [(0, 1, 23), (14, 0, 22), (15, 58, 255), (16, 1, 1)] (by decide +kernel) (fun ρ α => by
  intro b0 b14 b15 b16 f0 f1 f2 f3 f4 f5 f6 f7 f8 tt
  clear f0 f1 f2 f6
  have e64 : PT 64 = P_allP := pe64_1 hp
  have e66 : PT 66 = P_ffP := pe66_1 hp
  simp only [hF0, hF2, hF8, hF20, hFp_64, hFp_66, e64, e66, P_allP, P_ffP, den_s, den_c, Int.add_zero, List.map_cons, List.map_nil] at f3 f4 f5 f7 f8 ⊢
  first
    | exact allG_s f8 (by unfold gP; omega)
    | (unfold ffP; exact Or.inl ⟨rfl, fun j h1 h2 => f8 j h1 (by omega), by omega⟩)
    | (unfold ffP; exact Or.inr (Or.inr ⟨rfl, fun j h1 h2 => f8 j h1 (by omega), by omega⟩))
    | (unfold ffP; exact Or.inr (Or.inl ⟨by omega, by omega, f8, by unfold gP; omega⟩)))
def w_FF_P_1_11 : VC := (([(1, 23), (0, 49), (0, 8), (0, 11), (0, 9), (0, 6), (0, 6), (0, 8), (0, 9), (0, 49), (0, 49), ((-2147483648), 2147483647), ((-2147483648), 2147483647), (0, 5), (0, 22), (48, 57), (1, 1)]), [(1, [(none, 1), (none, 0)], []), (3, [(none, 57), (some 15, 0)], []), (3, [(some 15, 0), (none, 48)], []), (0, [(some 16, 0), (none, 1)], []), (8, [(some 16, 0), (some 14, 0), (none, 3)], []), (20, [(some 15, 0), (some 14, 0)], [2]), (0, [(none, 0), (none, 0)], []), (2, [(some 14, 0), (some 0, 0)], []), (64, [(some 14, 0)], [2])], (64, [(some 14, 1)], [2]))
set_option maxRecDepth 20000 in
theorem v_FF_P_1_11 {PT : PTy} (hp : HP1 PT) : vcOk PT w_FF_P_1_11 := vc_in [(0, 1, 23), (14, 0, 22), (15, 48, 57), (16, 1, 1)] (by decide +kernel) (fun ρ α => by
  intro b0 b14 b15 b16 f0 f1 f2 f3 f4 f5 f6 f7 f8 tt
  clear f0 f1 f2 f6
  have e64 : PT 64 = P_allP := pe64_1 hp
  simp only [hF0, hF2, hF8, hF20, hFp_64, e64, P_allP, den_s, den_c, Int.add_zero, List.map_cons, List.map_nil] at f3 f4 f5 f7 f8 ⊢
  first
    | exact allG_s f8 (by unfold gP; omega)
    | (unfold ffP; exact Or.inl ⟨rfl, fun j h1 h2 => f8 j h1 (by omega), by omega⟩)
    | (unfold ffP; exact Or.inr (Or.inr ⟨rfl, fun j h1 h2 => f8 j h1 (by omega), by omega⟩))
    | (unfold ffP; exact Or.inr (Or.inl ⟨by omega, by omega, f8, by unfold gP; omega⟩)))
set_option maxRecDepth 1000000 in
theorem k_FF_P {PT : PTy} (hp : HP1 PT) : wfX c_FF_P = true ∧ xcOk PT c_FF_P := xctr (xl0) c_FF_P 55 mX3_firstFault rfl h_FF_P (by decide +kernel) (by decide +kernel) (by decide) (vcs_by [w_FF_P_0_0] (by decide +kernel) (vc (v_FF_P_0_0 hp) vn)) (fmc (vcs_by [w_FF_P_1_0, w_FF_P_1_1, w_FF_P_1_2, w_FF_P_1_3, w_FF_P_1_4, w_FF_P_1_5, w_FF_P_1_6, w_FF_P_1_7, w_FF_P_1_8, w_FF_P_1_9, w_FF_P_1_10, w_FF_P_1_11] (by decide +kernel) (vc (v_FF_P_1_0 hp) (vc (v_FF_P_1_1 hp) (vc (v_FF_P_1_2 hp) (vc (v_FF_P_1_3 hp) (vc (v_FF_P_1_4 hp) (vc (v_FF_P_1_5 hp) (vc (v_FF_P_1_6 hp) (vc (v_FF_P_1_7 hp) (vc (v_FF_P_1_8 hp) (vc (v_FF_P_1_9 hp) (vc (v_FF_P_1_10 hp) (vc (v_FF_P_1_11 hp) vn))))))))))))) fmn)
def c_FF_V : XC := (30, 1, (bX), [.inr (.inl 3)], (gX 999), [], [((bX ++ [((-1), 49)]), some (.inl (some 14, 0)), (gX 999), (List.range 58), 58, [(67, [(some 14, 0), (some 1, 0)], [4])])])
def h_FF_V : List XH := [(2, (bX ++ [(0, 49)]), [some (.inr (.inl 3)), some (.inl (some 14, 0)), none], (gX 999), (List.range 58), 58, [(65, [(some 14, 0)], [4])], [(true, (none, 1)), (true, (some 14, 0))])]
def w_FF_V_0_0 : VC := ((bX), [], (65, [(none, 0)], [4]))
theorem pe65_1 {PT : PTy} (hp : HP1 PT) : PT 65 = P_allV := hp.2.2.1
set_option maxRecDepth 20000 in
theorem v_FF_V_0_0 {PT : PTy} (hp : HP1 PT) : vcOk PT w_FF_V_0_0 := vc_in [] (by decide +kernel) (fun ρ α => by
  intro tt
  have e65 : PT 65 = P_allV := pe65_1 hp
  simp only [hFp_65, e65, P_allV, den_s, den_c, Int.add_zero, List.map_cons, List.map_nil] at ⊢
  exact allG_z)
def w_FF_V_1_0 : VC := (([(0, 23), (0, 0), (0, 8), (0, 11), (0, 9), (0, 6), (0, 6), (0, 8), (0, 9), (0, 49), (0, 49), ((-2147483648), 2147483647), ((-2147483648), 2147483647), (0, 5), (0, 49)]), [(1, [(none, 1), (none, 0)], []), (0, [(some 1, 0), (none, 0)], []), (3, [(some 14, 0), (some 1, 0)], []), (65, [(some 14, 0)], [4])], (67, [(none, (-1)), (some 1, 0)], [4]))
theorem pe67_1 {PT : PTy} (hp : HP1 PT) : PT 67 = P_ffV := hp.2.2.2.2.1
set_option maxRecDepth 20000 in
theorem v_FF_V_1_0 {PT : PTy} (hp : HP1 PT) : vcOk PT w_FF_V_1_0 := vc_in [(1, 0, 0), (14, 0, 49)] (by decide +kernel) (fun ρ α => by
  intro b1 b14 f0 f1 f2 f3 tt
  clear f0
  have e65 : PT 65 = P_allV := pe65_1 hp
  have e67 : PT 67 = P_ffV := pe67_1 hp
  simp only [hF0, hF3, hFp_65, hFp_67, e65, e67, P_allV, P_ffV, den_s, den_c, Int.add_zero, List.map_cons, List.map_nil] at f1 f2 f3 ⊢
  first
    | exact allG_s f3 (by unfold gV; omega)
    | (unfold ffV; exact Or.inl ⟨rfl, fun j h1 h2 => f3 j h1 (by omega), by omega⟩)
    | (unfold ffV; exact Or.inr (Or.inr ⟨rfl, fun j h1 h2 => f3 j h1 (by omega), by omega⟩))
    | (unfold ffV; exact Or.inr (Or.inl ⟨by omega, by omega, f3, by unfold gV; omega⟩)))
def w_FF_V_1_1 : VC := (([(0, 23), (1, 49), (0, 8), (0, 11), (0, 9), (0, 6), (0, 6), (0, 8), (0, 9), (0, 49), (0, 49), ((-2147483648), 2147483647), ((-2147483648), 2147483647), (0, 5), (0, 49), (0, 3)]), [(0, [(none, 0), (none, 0)], []), (1, [(some 15, 0), (none, 4)], []), (8, [(some 15, 0), (some 1, 0), (none, 5)], []), (1, [(none, 1), (none, 0)], []), (1, [(some 1, 0), (none, 0)], []), (3, [(some 14, 0), (some 1, 0)], []), (65, [(some 14, 0)], [4])], (67, [(some 1, 0), (some 1, 0)], [4]))
set_option maxRecDepth 20000 in
theorem v_FF_V_1_1 {PT : PTy} (hp : HP1 PT) : vcOk PT w_FF_V_1_1 := vc_in [(1, 1, 49), (14, 0, 49), (15, 0, 3)] (by decide +kernel) (fun ρ α => by
  intro b1 b14 b15 f0 f1 f2 f3 f4 f5 f6 tt
  clear f0 f1 f3 f4
  have e65 : PT 65 = P_allV := pe65_1 hp
  have e67 : PT 67 = P_ffV := pe67_1 hp
  simp only [hF3, hF8, hFp_65, hFp_67, e65, e67, P_allV, P_ffV, den_s, den_c, Int.add_zero, List.map_cons, List.map_nil] at f2 f5 f6 ⊢
  first
    | exact allG_s f6 (by unfold gV; omega)
    | (unfold ffV; exact Or.inl ⟨rfl, fun j h1 h2 => f6 j h1 (by omega), by omega⟩)
    | (unfold ffV; exact Or.inr (Or.inr ⟨rfl, fun j h1 h2 => f6 j h1 (by omega), by omega⟩))
    | (unfold ffV; exact Or.inr (Or.inl ⟨by omega, by omega, f6, by unfold gV; omega⟩)))
def w_FF_V_1_2 : VC := (([(0, 23), (1, 49), (0, 8), (0, 11), (0, 9), (0, 6), (0, 6), (0, 8), (0, 9), (0, 49), (0, 49), ((-2147483648), 2147483647), ((-2147483648), 2147483647), (0, 5), (0, 49), (4, 4)]), [(1, [(none, 1), (none, 0)], []), (0, [(some 15, 0), (none, 4)], []), (8, [(some 15, 0), (some 1, 0), (none, 5)], []), (1, [(none, 1), (none, 0)], []), (1, [(some 1, 0), (none, 0)], []), (3, [(some 14, 0), (some 1, 0)], []), (65, [(some 14, 0)], [4])], (67, [(none, (-1)), (some 1, 0)], [4]))
set_option maxRecDepth 20000 in
theorem v_FF_V_1_2 {PT : PTy} (hp : HP1 PT) : vcOk PT w_FF_V_1_2 := vc_in [(1, 1, 49), (14, 0, 49), (15, 4, 4)] (by decide +kernel) (fun ρ α => by
  intro b1 b14 b15 f0 f1 f2 f3 f4 f5 f6 tt
  clear f0 f3 f4
  have e65 : PT 65 = P_allV := pe65_1 hp
  have e67 : PT 67 = P_ffV := pe67_1 hp
  simp only [hF0, hF3, hF8, hFp_65, hFp_67, e65, e67, P_allV, P_ffV, den_s, den_c, Int.add_zero, List.map_cons, List.map_nil] at f1 f2 f5 f6 ⊢
  first
    | exact allG_s f6 (by unfold gV; omega)
    | (unfold ffV; exact Or.inl ⟨rfl, fun j h1 h2 => f6 j h1 (by omega), by omega⟩)
    | (unfold ffV; exact Or.inr (Or.inr ⟨rfl, fun j h1 h2 => f6 j h1 (by omega), by omega⟩))
    | (unfold ffV; exact Or.inr (Or.inl ⟨by omega, by omega, f6, by unfold gV; omega⟩)))
def w_FF_V_1_3 : VC := (([(0, 23), (1, 49), (0, 8), (0, 11), (0, 9), (0, 6), (0, 6), (0, 8), (0, 9), (0, 49), (0, 49), ((-2147483648), 2147483647), ((-2147483648), 2147483647), (0, 5), (0, 48), (0, 96), (0, 0)]), [(0, [(none, 0), (none, 0)], []), (2, [(some 15, 0), (none, 97)], []), (0, [(some 16, 0), (none, 0)], []), (8, [(some 16, 0), (some 14, 0), (none, 5)], []), (20, [(some 15, 0), (some 14, 0)], [4]), (1, [(none, 1), (none, 0)], []), (2, [(some 14, 0), (some 1, 0)], []), (65, [(some 14, 0)], [4])], (67, [(some 14, 0), (some 1, 0)], [4]))
set_option maxRecDepth 20000 in
theorem v_FF_V_1_3 {PT : PTy} (hp : HP1 PT) : vcOk PT w_FF_V_1_3 := vc_in [(1, 1, 49), (14, 0, 48), (15, 0, 96), (16, 0, 0)] (by decide +kernel) (fun ρ α => by
  intro b1 b14 b15 b16 f0 f1 f2 f3 f4 f5 f6 f7 tt
  clear f0 f1 f5
  have e65 : PT 65 = P_allV := pe65_1 hp
  have e67 : PT 67 = P_ffV := pe67_1 hp
  simp only [hF0, hF2, hF8, hF20, hFp_65, hFp_67, e65, e67, P_allV, P_ffV, den_s, den_c, Int.add_zero, List.map_cons, List.map_nil] at f2 f3 f4 f6 f7 ⊢
  first
    | exact allG_s f7 (by unfold gV; omega)
    | (unfold ffV; exact Or.inl ⟨rfl, fun j h1 h2 => f7 j h1 (by omega), by omega⟩)
    | (unfold ffV; exact Or.inr (Or.inr ⟨rfl, fun j h1 h2 => f7 j h1 (by omega), by omega⟩))
    | (unfold ffV; exact Or.inr (Or.inl ⟨by omega, by omega, f7, by unfold gV; omega⟩)))
def w_FF_V_1_4 : VC := (([(0, 23), (1, 49), (0, 8), (0, 11), (0, 9), (0, 6), (0, 6), (0, 8), (0, 9), (0, 49), (0, 49), ((-2147483648), 2147483647), ((-2147483648), 2147483647), (0, 5), (0, 48), (105, 255), (0, 0)]), [(0, [(none, 0), (none, 0)], []), (2, [(none, 104), (some 15, 0)], []), (3, [(some 15, 0), (none, 97)], []), (0, [(some 16, 0), (none, 0)], []), (8, [(some 16, 0), (some 14, 0), (none, 5)], []), (20, [(some 15, 0), (some 14, 0)], [4]), (1, [(none, 1), (none, 0)], []), (2, [(some 14, 0), (some 1, 0)], []), (65, [(some 14, 0)], [4])], (67, [(some 14, 0), (some 1, 0)], [4]))
set_option maxRecDepth 20000 in
theorem v_FF_V_1_4 {PT : PTy} (hp : HP1 PT) : vcOk PT w_FF_V_1_4 := vc_in [(1, 1, 49), (14, 0, 48), (15, 105, 255), (16, 0, 0)] (by decide +kernel) (fun ρ α => by
  intro b1 b14 b15 b16 f0 f1 f2 f3 f4 f5 f6 f7 f8 tt
  clear f0 f1 f2 f6
  have e65 : PT 65 = P_allV := pe65_1 hp
  have e67 : PT 67 = P_ffV := pe67_1 hp
  simp only [hF0, hF2, hF8, hF20, hFp_65, hFp_67, e65, e67, P_allV, P_ffV, den_s, den_c, Int.add_zero, List.map_cons, List.map_nil] at f3 f4 f5 f7 f8 ⊢
  first
    | exact allG_s f8 (by unfold gV; omega)
    | (unfold ffV; exact Or.inl ⟨rfl, fun j h1 h2 => f8 j h1 (by omega), by omega⟩)
    | (unfold ffV; exact Or.inr (Or.inr ⟨rfl, fun j h1 h2 => f8 j h1 (by omega), by omega⟩))
    | (unfold ffV; exact Or.inr (Or.inl ⟨by omega, by omega, f8, by unfold gV; omega⟩)))
def w_FF_V_1_5 : VC := (([(0, 23), (1, 49), (0, 8), (0, 11), (0, 9), (0, 6), (0, 6), (0, 8), (0, 9), (0, 49), (0, 49), ((-2147483648), 2147483647), ((-2147483648), 2147483647), (0, 5), (0, 48), (97, 104), (0, 0)]), [(1, [(none, 1), (none, 0)], []), (3, [(none, 104), (some 15, 0)], []), (3, [(some 15, 0), (none, 97)], []), (0, [(some 16, 0), (none, 0)], []), (8, [(some 16, 0), (some 14, 0), (none, 5)], []), (20, [(some 15, 0), (some 14, 0)], [4]), (1, [(none, 1), (none, 0)], []), (2, [(some 14, 0), (some 1, 0)], []), (65, [(some 14, 0)], [4])], (65, [(some 14, 1)], [4]))
set_option maxRecDepth 20000 in
theorem v_FF_V_1_5 {PT : PTy} (hp : HP1 PT) : vcOk PT w_FF_V_1_5 := vc_in [(1, 1, 49), (14, 0, 48), (15, 97, 104), (16, 0, 0)] (by decide +kernel) (fun ρ α => by
  intro b1 b14 b15 b16 f0 f1 f2 f3 f4 f5 f6 f7 f8 tt
  clear f0 f1 f2 f6
  have e65 : PT 65 = P_allV := pe65_1 hp
  simp only [hF0, hF2, hF8, hF20, hFp_65, e65, P_allV, den_s, den_c, Int.add_zero, List.map_cons, List.map_nil] at f3 f4 f5 f7 f8 ⊢
  first
    | exact allG_s f8 (by unfold gV; omega)
    | (unfold ffV; exact Or.inl ⟨rfl, fun j h1 h2 => f8 j h1 (by omega), by omega⟩)
    | (unfold ffV; exact Or.inr (Or.inr ⟨rfl, fun j h1 h2 => f8 j h1 (by omega), by omega⟩))
    | (unfold ffV; exact Or.inr (Or.inl ⟨by omega, by omega, f8, by unfold gV; omega⟩)))
def w_FF_V_1_6 : VC := (([(0, 23), (1, 49), (0, 8), (0, 11), (0, 9), (0, 6), (0, 6), (0, 8), (0, 9), (0, 49), (0, 49), ((-2147483648), 2147483647), ((-2147483648), 2147483647), (0, 5), (0, 48), (0, 48), (1, 1)]), [(0, [(none, 0), (none, 0)], []), (2, [(some 15, 0), (none, 49)], []), (0, [(some 16, 0), (none, 1)], []), (8, [(some 16, 0), (some 14, 0), (none, 5)], []), (20, [(some 15, 0), (some 14, 0)], [4]), (1, [(none, 1), (none, 0)], []), (2, [(some 14, 0), (some 1, 0)], []), (65, [(some 14, 0)], [4])], (67, [(some 14, 0), (some 1, 0)], [4]))
set_option maxRecDepth 20000 in
theorem v_FF_V_1_6 {PT : PTy} (hp : HP1 PT) : vcOk PT w_FF_V_1_6 := vc_in [(1, 1, 49), (14, 0, 48), (15, 0, 48), (16, 1, 1)] (by decide +kernel) (fun ρ α => by
  intro b1 b14 b15 b16 f0 f1 f2 f3 f4 f5 f6 f7 tt
  clear f0 f1 f5
  have e65 : PT 65 = P_allV := pe65_1 hp
  have e67 : PT 67 = P_ffV := pe67_1 hp
  simp only [hF0, hF2, hF8, hF20, hFp_65, hFp_67, e65, e67, P_allV, P_ffV, den_s, den_c, Int.add_zero, List.map_cons, List.map_nil] at f2 f3 f4 f6 f7 ⊢
  first
    | exact allG_s f7 (by unfold gV; omega)
    | (unfold ffV; exact Or.inl ⟨rfl, fun j h1 h2 => f7 j h1 (by omega), by omega⟩)
    | (unfold ffV; exact Or.inr (Or.inr ⟨rfl, fun j h1 h2 => f7 j h1 (by omega), by omega⟩))
    | (unfold ffV; exact Or.inr (Or.inl ⟨by omega, by omega, f7, by unfold gV; omega⟩)))
def w_FF_V_1_7 : VC := (([(0, 23), (1, 49), (0, 8), (0, 11), (0, 9), (0, 6), (0, 6), (0, 8), (0, 9), (0, 49), (0, 49), ((-2147483648), 2147483647), ((-2147483648), 2147483647), (0, 5), (0, 48), (58, 255), (1, 1)]), [(0, [(none, 0), (none, 0)], []), (2, [(none, 57), (some 15, 0)], []), (3, [(some 15, 0), (none, 49)], []), (0, [(some 16, 0), (none, 1)], []), (8, [(some 16, 0), (some 14, 0), (none, 5)], []), (20, [(some 15, 0), (some 14, 0)], [4]), (1, [(none, 1), (none, 0)], []), (2, [(some 14, 0), (some 1, 0)], []), (65, [(some 14, 0)], [4])], (67, [(some 14, 0), (some 1, 0)], [4]))
set_option maxRecDepth 20000 in
theorem v_FF_V_1_7 {PT : PTy} (hp : HP1 PT) : vcOk PT w_FF_V_1_7 := vc_in [(1, 1, 49), (14, 0, 48), (15, 58, 255), (16, 1, 1)] (by decide +kernel) (fun ρ α => by
  intro b1 b14 b15 b16 f0 f1 f2 f3 f4 f5 f6 f7 f8 tt
  clear f0 f1 f2 f6
  have e65 : PT 65 = P_allV := pe65_1 hp
  have e67 : PT 67 = P_ffV := pe67_1 hp
  simp only [hF0, hF2, hF8, hF20, hFp_65, hFp_67, e65, e67, P_allV, P_ffV, den_s, den_c, Int.add_zero, List.map_cons, List.map_nil] at f3 f4 f5 f7 f8 ⊢
  first
    | exact allG_s f8 (by unfold gV; omega)
    | (unfold ffV; exact Or.inl ⟨rfl, fun j h1 h2 => f8 j h1 (by omega), by omega⟩)
    | (unfold ffV; exact Or.inr (Or.inr ⟨rfl, fun j h1 h2 => f8 j h1 (by omega), by omega⟩))
    | (unfold ffV; exact Or.inr (Or.inl ⟨by omega, by omega, f8, by unfold gV; omega⟩)))
def w_FF_V_1_8 : VC := (([(0, 23), (1, 49), (0, 8), (0, 11), (0, 9), (0, 6), (0, 6), (0, 8), (0, 9), (0, 49), (0, 49), ((-2147483648), 2147483647), ((-2147483648), 2147483647), (0, 5), (0, 48), (49, 57), (1, 1)]), [(1, [(none, 1), (none, 0)], []), (3, [(none, 57), (some 15, 0)], []), (3, [(some 15, 0), (none, 49)], []), (0, [(some 16, 0), (none, 1)], []), (8, [(some 16, 0), (some 14, 0), (none, 5)], []), (20, [(some 15, 0), (some 14, 0)], [4]), (1, [(none, 1), (none, 0)], []), (2, [(some 14, 0), (some 1, 0)], []), (65, [(some 14, 0)], [4])], (65, [(some 14, 1)], [4]))
set_option maxRecDepth 20000 in
theorem v_FF_V_1_8 {PT : PTy} (hp : HP1 PT) : vcOk PT w_FF_V_1_8 := vc_in [(1, 1, 49), (14, 0, 48), (15, 49, 57), (16, 1, 1)] (by decide +kernel) (fun ρ α => by
  intro b1 b14 b15 b16 f0 f1 f2 f3 f4 f5 f6 f7 f8 tt
  clear f0 f1 f2 f6
  have e65 : PT 65 = P_allV := pe65_1 hp
  simp only [hF0, hF2, hF8, hF20, hFp_65, e65, P_allV, den_s, den_c, Int.add_zero, List.map_cons, List.map_nil] at f3 f4 f5 f7 f8 ⊢
  first
    | exact allG_s f8 (by unfold gV; omega)
    | (unfold ffV; exact Or.inl ⟨rfl, fun j h1 h2 => f8 j h1 (by omega), by omega⟩)
    | (unfold ffV; exact Or.inr (Or.inr ⟨rfl, fun j h1 h2 => f8 j h1 (by omega), by omega⟩))
    | (unfold ffV; exact Or.inr (Or.inl ⟨by omega, by omega, f8, by unfold gV; omega⟩)))
def w_FF_V_1_9 : VC := (([(0, 23), (1, 49), (0, 8), (0, 11), (0, 9), (0, 6), (0, 6), (0, 8), (0, 9), (0, 49), (0, 49), ((-2147483648), 2147483647), ((-2147483648), 2147483647), (0, 5), (0, 48), (0, 96), (2, 2)]), [(0, [(none, 0), (none, 0)], []), (2, [(some 15, 0), (none, 97)], []), (0, [(some 16, 0), (none, 2)], []), (8, [(some 16, 0), (some 14, 0), (none, 5)], []), (20, [(some 15, 0), (some 14, 0)], [4]), (1, [(none, 1), (none, 0)], []), (2, [(some 14, 0), (some 1, 0)], []), (65, [(some 14, 0)], [4])], (67, [(some 14, 0), (some 1, 0)], [4]))
set_option maxRecDepth 20000 in
theorem v_FF_V_1_9 {PT : PTy} (hp : HP1 PT) : vcOk PT w_FF_V_1_9 := vc_in [(1, 1, 49), (14, 0, 48), (15, 0, 96), (16, 2, 2)] (by decide +kernel) (fun ρ α => by
  intro b1 b14 b15 b16 f0 f1 f2 f3 f4 f5 f6 f7 tt
  clear f0 f1 f5
  have e65 : PT 65 = P_allV := pe65_1 hp
  have e67 : PT 67 = P_ffV := pe67_1 hp
  simp only [hF0, hF2, hF8, hF20, hFp_65, hFp_67, e65, e67, P_allV, P_ffV, den_s, den_c, Int.add_zero, List.map_cons, List.map_nil] at f2 f3 f4 f6 f7 ⊢
  first
    | exact allG_s f7 (by unfold gV; omega)
    | (unfold ffV; exact Or.inl ⟨rfl, fun j h1 h2 => f7 j h1 (by omega), by omega⟩)
    | (unfold ffV; exact Or.inr (Or.inr ⟨rfl, fun j h1 h2 => f7 j h1 (by omega), by omega⟩))
    | (unfold ffV; exact Or.inr (Or.inl ⟨by omega, by omega, f7, by unfold gV; omega⟩)))
def w_FF_V_1_10 : VC := (([(0, 23), (1, 49), (0, 8), (0, 11), (0, 9), (0, 6), (0, 6), (0, 8), (0, 9), (0, 49), (0, 49), ((-2147483648), 2147483647), ((-2147483648), 2147483647), (0, 5), (0, 48), (121, 255), (2, 2)]), [(0, [(none, 0), (none, 0)], []), (2, [(none, 120), (some 15, 0)], []), (3, [(some 15, 0), (none, 97)], []), (0, [(some 16, 0), (none, 2)], []), (8, [(some 16, 0), (some 14, 0), (none, 5)], []), (20, [(some 15, 0), (some 14, 0)], [4]), (1, [(none, 1), (none, 0)], []), (2, [(some 14, 0), (some 1, 0)], []), (65, [(some 14, 0)], [4])], (67, [(some 14, 0), (some 1, 0)], [4]))
set_option maxRecDepth 20000 in
theorem v_FF_V_1_10 {PT : PTy} (hp : HP1 PT) : vcOk PT w_FF_V_1_10 := vc_in [(1, 1, 49), (14, 0, 48), (15, 121, 255), (16, 2, 2)] (by decide +kernel) (fun ρ α => by
  intro b1 b14 b15 b16 f0 f1 f2 f3 f4 f5 f6 f7 f8 tt
  clear f0 f1 f2 f6
  have e65 : PT 65 = P_allV := pe65_1 hp
  have e67 : PT 67 = P_ffV := pe67_1 hp
  simp only [hF0, hF2, hF8, hF20, hFp_65, hFp_67, e65, e67, P_allV, P_ffV, den_s, den_c, Int.add_zero, List.map_cons, List.map_nil] at f3 f4 f5 f7 f8 ⊢
  first
    | exact allG_s f8 (by unfold gV; omega)
    | (unfold ffV; exact Or.inl ⟨rfl, fun j h1 h2 => f8 j h1 (by omega), by omega⟩)
    | (unfold ffV; exact Or.inr (Or.inr ⟨rfl, fun j h1 h2 => f8 j h1 (by omega), by omega⟩))
    | (unfold ffV; exact Or.inr (Or.inl ⟨by omega, by omega, f8, by unfold gV; omega⟩)))
def w_FF_V_1_11 : VC := (([(0, 23), (1, 49), (0, 8), (0, 11), (0, 9), (0, 6), (0, 6), (0, 8), (0, 9), (0, 49), (0, 49), ((-2147483648), 2147483647), ((-2147483648), 2147483647), (0, 5), (0, 48), (97, 120), (2, 2)]), [(1, [(none, 1), (none, 0)], []), (3, [(none, 120), (some 15, 0)], []), (3, [(some 15, 0), (none, 97)], []), (0, [(some 16, 0), (none, 2)], []), (8, [(some 16, 0), (some 14, 0), (none, 5)], []), (20, [(some 15, 0), (some 14, 0)], [4]), (1, [(none, 1), (none, 0)], []), (2, [(some 14, 0), (some 1, 0)], []), (65, [(some 14, 0)], [4])], (65, [(some 14, 1)], [4]))
set_option maxRecDepth 20000 in
theorem v_FF_V_1_11 {PT : PTy} (hp : HP1 PT) : vcOk PT w_FF_V_1_11 := vc_in [(1, 1, 49), (14, 0, 48), (15, 97, 120), (16, 2, 2)] (by decide +kernel) (fun ρ α => by
  intro b1 b14 b15 b16 f0 f1 f2 f3 f4 f5 f6 f7 f8 tt
  clear f0 f1 f2 f6
  have e65 : PT 65 = P_allV := pe65_1 hp
  simp only [hF0, hF2, hF8, hF20, hFp_65, e65, P_allV, den_s, den_c, Int.add_zero, List.map_cons, List.map_nil] at f3 f4 f5 f7 f8 ⊢
  first
    | exact allG_s f8 (by unfold gV; omega)
    | (unfold ffV; exact Or.inl ⟨rfl, fun j h1 h2 => f8 j h1 (by omega), by omega⟩)
    | (unfold ffV; exact Or.inr (Or.inr ⟨rfl, fun j h1 h2 => f8 j h1 (by omega), by omega⟩))
    | (unfold ffV; exact Or.inr (Or.inl ⟨by omega, by omega, f8, by unfold gV; omega⟩)))
def w_FF_V_1_12 : VC := (([(0, 23), (1, 49), (0, 8), (0, 11), (0, 9), (0, 6), (0, 6), (0, 8), (0, 9), (0, 49), (0, 49), ((-2147483648), 2147483647), ((-2147483648), 2147483647), (0, 5), (0, 48), (0, 96), (3, 3)]), [(0, [(none, 0), (none, 0)], []), (2, [(some 15, 0), (none, 97)], []), (0, [(some 16, 0), (none, 3)], []), (8, [(some 16, 0), (some 14, 0), (none, 5)], []), (20, [(some 15, 0), (some 14, 0)], [4]), (1, [(none, 1), (none, 0)], []), (2, [(some 14, 0), (some 1, 0)], []), (65, [(some 14, 0)], [4])], (67, [(some 14, 0), (some 1, 0)], [4]))
set_option maxRecDepth 20000 in
theorem v_FF_V_1_12 {PT : PTy} (hp : HP1 PT) : vcOk PT w_FF_V_1_12 := vc_in [(1, 1, 49), (14, 0, 48), (15, 0, 96), (16, 3, 3)] (by decide +kernel) (fun ρ α => by
  intro b1 b14 b15 b16 f0 f1 f2 f3 f4 f5 f6 f7 tt
  clear f0 f1 f5
  have e65 : PT 65 = P_allV := pe65_1 hp
  have e67 : PT 67 = P_ffV := pe67_1 hp
  simp only [hF0, hF2, hF8, hF20, hFp_65, hFp_67, e65, e67, P_allV, P_ffV, den_s, den_c, Int.add_zero, List.map_cons, List.map_nil] at f2 f3 f4 f6 f7 ⊢
  first
    | exact allG_s f7 (by unfold gV; omega)
    | (unfold ffV; exact Or.inl ⟨rfl, fun j h1 h2 => f7 j h1 (by omega), by omega⟩)
    | (unfold ffV; exact Or.inr (Or.inr ⟨rfl, fun j h1 h2 => f7 j h1 (by omega), by omega⟩))
    | (unfold ffV; exact Or.inr (Or.inl ⟨by omega, by omega, f7, by unfold gV; omega⟩)))
def w_FF_V_1_13 : VC := (([(0, 23), (1, 49), (0, 8), (0, 11), (0, 9), (0, 6), (0, 6), (0, 8), (0, 9), (0, 49), (0, 49), ((-2147483648), 2147483647), ((-2147483648), 2147483647), (0, 5), (0, 48), (121, 255), (3, 3)]), [(0, [(none, 0), (none, 0)], []), (2, [(none, 120), (some 15, 0)], []), (3, [(some 15, 0), (none, 97)], []), (0, [(some 16, 0), (none, 3)], []), (8, [(some 16, 0), (some 14, 0), (none, 5)], []), (20, [(some 15, 0), (some 14, 0)], [4]), (1, [(none, 1), (none, 0)], []), (2, [(some 14, 0), (some 1, 0)], []), (65, [(some 14, 0)], [4])], (67, [(some 14, 0), (some 1, 0)], [4]))
set_option maxRecDepth 20000 in
theorem v_FF_V_1_13 {PT : PTy} (hp : HP1 PT) : vcOk PT w_FF_V_1_13 := vc_in [(1, 1, 49), (14, 0, 48), (15, 121, 255), (16, 3, 3)] (by decide +kernel) (fun ρ α => by
  intro b1 b14 b15 b16 f0 f1 f2 f3 f4 f5 f6 f7 f8 tt
  clear f0 f1 f2 f6
  have e65 : PT 65 = P_allV := pe65_1 hp
  have e67 : PT 67 = P_ffV := pe67_1 hp
  simp only [hF0, hF2, hF8, hF20, hFp_65, hFp_67, e65, e67, P_allV, P_ffV, den_s, den_c, Int.add_zero, List.map_cons, List.map_nil] at f3 f4 f5 f7 f8 ⊢
  first
    | exact allG_s f8 (by unfold gV; omega)
    | (unfold ffV; exact Or.inl ⟨rfl, fun j h1 h2 => f8 j h1 (by omega), by omega⟩)
    | (unfold ffV; exact Or.inr (Or.inr ⟨rfl, fun j h1 h2 => f8 j h1 (by omega), by omega⟩))
    | (unfold ffV; exact Or.inr (Or.inl ⟨by omega, by omega, f8, by unfold gV; omega⟩)))
def w_FF_V_1_14 : VC := (([(0, 23), (1, 49), (0, 8), (0, 11), (0, 9), (0, 6), (0, 6), (0, 8), (0, 9), (0, 49), (0, 49), ((-2147483648), 2147483647), ((-2147483648), 2147483647), (0, 5), (0, 48), (97, 120), (3, 3)]), [(1, [(none, 1), (none, 0)], []), (3, [(none, 120), (some 15, 0)], []), (3, [(some 15, 0), (none, 97)], []), (0, [(some 16, 0), (none, 3)], []), (8, [(some 16, 0), (some 14, 0), (none, 5)], []), (20, [(some 15, 0), (some 14, 0)], [4]), (1, [(none, 1), (none, 0)], []), (2, [(some 14, 0), (some 1, 0)], []), (65, [(some 14, 0)], [4])], (65, [(some 14, 1)], [4]))
set_option maxRecDepth 20000 in
theorem v_FF_V_1_14 {PT : PTy} (hp : HP1 PT) : vcOk PT w_FF_V_1_14 := vc_in [(1, 1, 49), (14, 0, 48), (15, 97, 120), (16, 3, 3)] (by decide +kernel) (fun ρ α => by
  intro b1 b14 b15 b16 f0 f1 f2 f3 f4 f5 f6 f7 f8 tt
  clear f0 f1 f2 f6
  have e65 : PT 65 = P_allV := pe65_1 hp
  simp only [hF0, hF2, hF8, hF20, hFp_65, e65, P_allV, den_s, den_c, Int.add_zero, List.map_cons, List.map_nil] at f3 f4 f5 f7 f8 ⊢
  first
    | exact allG_s f8 (by unfold gV; omega)
    | (unfold ffV; exact Or.inl ⟨rfl, fun j h1 h2 => f8 j h1 (by omega), by omega⟩)
    | (unfold ffV; exact Or.inr (Or.inr ⟨rfl, fun j h1 h2 => f8 j h1 (by omega), by omega⟩))
    | (unfold ffV; exact Or.inr (Or.inl ⟨by omega, by omega, f8, by unfold gV; omega⟩)))
def w_FF_V_1_15 : VC := (([(0, 23), (1, 49), (0, 8), (0, 11), (0, 9), (0, 6), (0, 6), (0, 8), (0, 9), (0, 49), (0, 49), ((-2147483648), 2147483647), ((-2147483648), 2147483647), (0, 5), (0, 48), (0, 255), (4, 4)]), [(0, [(none, 0), (none, 0)], []), (1, [(some 15, 0), (none, 59)], []), (0, [(some 16, 0), (none, 4)], []), (8, [(some 16, 0), (some 14, 0), (none, 5)], []), (20, [(some 15, 0), (some 14, 0)], [4]), (1, [(none, 1), (none, 0)], []), (2, [(some 14, 0), (some 1, 0)], []), (65, [(some 14, 0)], [4])], (67, [(some 14, 0), (some 1, 0)], [4]))
set_option maxRecDepth 20000 in
theorem v_FF_V_1_15 {PT : PTy} (hp : HP1 PT) : vcOk PT w_FF_V_1_15 := vc_in [(1, 1, 49), (14, 0, 48), (15, 0, 255), (16, 4, 4)] (by decide +kernel) (fun ρ α => by
  intro b1 b14 b15 b16 f0 f1 f2 f3 f4 f5 f6 f7 tt
  clear f0 f5
  have e65 : PT 65 = P_allV := pe65_1 hp
  have e67 : PT 67 = P_ffV := pe67_1 hp
  simp only [hF0, hF1, hF2, hF8, hF20, hFp_65, hFp_67, e65, e67, P_allV, P_ffV, den_s, den_c, Int.add_zero, List.map_cons, List.map_nil] at f1 f2 f3 f4 f6 f7 ⊢
  first
    | exact allG_s f7 (by unfold gV; omega)
    | (unfold ffV; exact Or.inl ⟨rfl, fun j h1 h2 => f7 j h1 (by omega), by omega⟩)
    | (unfold ffV; exact Or.inr (Or.inr ⟨rfl, fun j h1 h2 => f7 j h1 (by omega), by omega⟩))
    | (unfold ffV; exact Or.inr (Or.inl ⟨by omega, by omega, f7, by unfold gV; omega⟩)))
def w_FF_V_1_16 : VC := (([(0, 23), (1, 49), (0, 8), (0, 11), (0, 9), (0, 6), (0, 6), (0, 8), (0, 9), (0, 49), (0, 49), ((-2147483648), 2147483647), ((-2147483648), 2147483647), (0, 5), (0, 48), (59, 59), (4, 4)]), [(1, [(none, 1), (none, 0)], []), (0, [(some 15, 0), (none, 59)], []), (0, [(some 16, 0), (none, 4)], []), (8, [(some 16, 0), (some 14, 0), (none, 5)], []), (20, [(some 15, 0), (some 14, 0)], [4]), (1, [(none, 1), (none, 0)], []), (2, [(some 14, 0), (some 1, 0)], []), (65, [(some 14, 0)], [4])], (65, [(some 14, 1)], [4]))
set_option maxRecDepth 20000 in
theorem v_FF_V_1_16 {PT : PTy} (hp : HP1 PT) : vcOk PT w_FF_V_1_16 := vc_in [(1, 1, 49), (14, 0, 48), (15, 59, 59), (16, 4, 4)] (by decide +kernel) (fun ρ α => by
  intro b1 b14 b15 b16 f0 f1 f2 f3 f4 f5 f6 f7 tt
  clear f0 f5
  have e65 : PT 65 = P_allV := pe65_1 hp
  simp only [hF0, hF2, hF8, hF20, hFp_65, e65, P_allV, den_s, den_c, Int.add_zero, List.map_cons, List.map_nil] at f1 f2 f3 f4 f6 f7 ⊢
  first
    | exact allG_s f7 (by unfold gV; omega)
    | (unfold ffV; exact Or.inl ⟨rfl, fun j h1 h2 => f7 j h1 (by omega), by omega⟩)
    | (unfold ffV; exact Or.inr (Or.inr ⟨rfl, fun j h1 h2 => f7 j h1 (by omega), by omega⟩))
    | (unfold ffV; exact Or.inr (Or.inl ⟨by omega, by omega, f7, by unfold gV; omega⟩)))
set_option maxRecDepth 1000000 in
theorem k_FF_V {PT : PTy} (hp : HP1 PT) : wfX c_FF_V = true ∧ xcOk PT c_FF_V := xctr (xl0) c_FF_V 53 mX3_firstFault rfl h_FF_V (by decide +kernel) (by decide +kernel) (by decide) (vcs_by [w_FF_V_0_0] (by decide +kernel) (vc (v_FF_V_0_0 hp) vn)) (fmc (vcs_by [w_FF_V_1_0, w_FF_V_1_1, w_FF_V_1_2, w_FF_V_1_3, w_FF_V_1_4, w_FF_V_1_5, w_FF_V_1_6, w_FF_V_1_7, w_FF_V_1_8, w_FF_V_1_9, w_FF_V_1_10, w_FF_V_1_11, w_FF_V_1_12, w_FF_V_1_13, w_FF_V_1_14, w_FF_V_1_15, w_FF_V_1_16] (by decide +kernel) (vc (v_FF_V_1_0 hp) (vc (v_FF_V_1_1 hp) (vc (v_FF_V_1_2 hp) (vc (v_FF_V_1_3 hp) (vc (v_FF_V_1_4 hp) (vc (v_FF_V_1_5 hp) (vc (v_FF_V_1_6 hp) (vc (v_FF_V_1_7 hp) (vc (v_FF_V_1_8 hp) (vc (v_FF_V_1_9 hp) (vc (v_FF_V_1_10 hp) (vc (v_FF_V_1_11 hp) (vc (v_FF_V_1_12 hp) (vc (v_FF_V_1_13 hp) (vc (v_FF_V_1_14 hp) (vc (v_FF_V_1_15 hp) (vc (v_FF_V_1_16 hp) vn)))))))))))))))))) fmn)
def c_take_P : XC := (19, 2, (bX), [.inr (.inl 6), .inr (.inl 1)], (gX 999), [], [((bX ++ [(0, 8)]), none, (hst (gX 999) [(6, .inr (.inr (.inr (1, [.inr (.inl 7), .inr (.inl 8), .inl (some 14, 0)]))))]), (ansT 58 [(7, 58), (8, 59)]), 60, [(68, [(some 14, 0), (some 0, 0)], [2]), (70, [(some 14, 0)], [2, 58, 59])])])
def h_take_P : List XH := [(31, (bX ++ [(0, 8), (0, 8)]), [some (.inr (.inl 6)), some (.inr (.inl 1)), some (.inl (some 14, 0)), none], (hst (gX 999) [(6, .inr (.inr (.inr (1, [.inr (.inl 7), .inr (.inl 8), .inl (some 15, 0)]))))]), (ansT 58 [(7, 58), (8, 59)]), 60, [(68, [(some 15, 0), (some 0, 0)], [2]), (70, [(some 14, 0)], [2, 58, 59])], [(true, (none, 1)), (true, (some 14, 0))])]
def w_take_P_0_0 : VC := ((bX ++ [(0, 23)]), [(1, [(some 14, 0), (none, (-1))], []), (66, [(some 14, 0), (some 0, 0)], [2])], (68, [(none, 0), (some 0, 0)], [2]))
theorem pe68_1 {PT : PTy} (hp : HP1 PT) : PT 68 = P_nP := hp.2.2.2.2.2.1
set_option maxRecDepth 20000 in
theorem v_take_P_0_0 {PT : PTy} (hp : HP1 PT) : vcOk PT w_take_P_0_0 := vc_in [(0, 0, 23), (14, 0, 23)] (by decide +kernel) (fun ρ α => by
  intro b0 b14 f0 f1 tt
  have e66 : PT 66 = P_ffP := pe66_1 hp
  have e68 : PT 68 = P_nP := pe68_1 hp
  simp only [hF1, hFp_66, hFp_68, e66, e68, P_ffP, P_nP, den_s, den_c, Int.add_zero, List.map_cons, List.map_nil] at f0 f1 ⊢
  exact ⟨fun w => absurd w (ffP_no f1 f0 b0.1), fun _ => rfl⟩)
def w_take_P_0_1 : VC := ((bX ++ [(0, 23)]), [(1, [(some 14, 0), (none, (-1))], []), (66, [(some 14, 0), (some 0, 0)], [2])], (70, [(none, 0)], [2, 7, 8]))
theorem pe70_1 {PT : PTy} (hp : HP1 PT) : PT 70 = P_tkP := hp.2.2.2.2.2.2.2.1
set_option maxRecDepth 20000 in
theorem v_take_P_0_1 {PT : PTy} (hp : HP1 PT) : vcOk PT w_take_P_0_1 := vc_in [(0, 0, 23), (14, 0, 23)] (by decide +kernel) (fun ρ α => by
  intro b0 b14 f0 f1 tt
  clear f0
  have e66 : PT 66 = P_ffP := pe66_1 hp
  have e70 : PT 70 = P_tkP := pe70_1 hp
  simp only [hFp_66, hFp_70, e66, e70, P_ffP, P_tkP, den_s, den_c, Int.add_zero, List.map_cons, List.map_nil] at f1 ⊢
  exact tkP_z)
def w_take_P_0_2 : VC := ((bX ++ [((-1), (-1)), (0, 24), (0, 8)]), [(23, [(some 16, 0), (some 15, 0), (none, 8)], []), (7, [(some 15, 0), (some 0, 1), (none, 3)], []), (0, [(some 14, 0), (none, (-1))], []), (66, [(some 14, 0), (some 0, 0)], [2])], (68, [(some 16, 0), (some 0, 0)], [2]))
set_option maxRecDepth 20000 in
theorem v_take_P_0_2 {PT : PTy} (hp : HP1 PT) : vcOk PT w_take_P_0_2 := vc_in [(0, 0, 23), (14, (-1), (-1)), (15, 0, 24), (16, 0, 8)] (by decide +kernel) (fun ρ α => by
  intro b0 b14 b15 b16 f0 f1 f2 f3 tt
  have e66 : PT 66 = P_ffP := pe66_1 hp
  have e68 : PT 68 = P_nP := pe68_1 hp
  simp only [hF0, hF7, hF23, hFp_66, hFp_68, e66, e68, P_ffP, P_nP, den_s, den_c, Int.add_zero, List.map_cons, List.map_nil] at f0 f1 f2 f3 ⊢
  exact ⟨fun _ => by omega, fun w => absurd (ffP_yes f3 f2 b0.1) w⟩)
def w_take_P_0_3 : VC := ((bX ++ [((-1), (-1)), (0, 24), (0, 8)]), [(23, [(some 16, 0), (some 15, 0), (none, 8)], []), (7, [(some 15, 0), (some 0, 1), (none, 3)], []), (0, [(some 14, 0), (none, (-1))], []), (66, [(some 14, 0), (some 0, 0)], [2])], (70, [(none, 0)], [2, 7, 8]))
set_option maxRecDepth 20000 in
theorem v_take_P_0_3 {PT : PTy} (hp : HP1 PT) : vcOk PT w_take_P_0_3 := vc_in [(0, 0, 23), (14, (-1), (-1)), (15, 0, 24), (16, 0, 8)] (by decide +kernel) (fun ρ α => by
  intro b0 b14 b15 b16 f0 f1 f2 f3 tt
  have e66 : PT 66 = P_ffP := pe66_1 hp
  have e70 : PT 70 = P_tkP := pe70_1 hp
  simp only [hF0, hF7, hF23, hFp_66, hFp_70, e66, e70, P_ffP, P_tkP, den_s, den_c, Int.add_zero, List.map_cons, List.map_nil] at f0 f1 f2 f3 ⊢
  exact tkP_z)
def w_take_P_1_0 : VC := ((bX ++ [(0, 8), (0, 8)]), [(3, [(some 14, 0), (some 15, 0)], []), (68, [(some 15, 0), (some 0, 0)], [2]), (70, [(some 14, 0)], [2, 58, 59])], (70, [(some 15, 0)], [2, 58, 59]))
set_option maxRecDepth 20000 in
theorem v_take_P_1_0 {PT : PTy} (hp : HP1 PT) : vcOk PT w_take_P_1_0 := vc_in [(0, 0, 23), (14, 0, 8), (15, 0, 8)] (by decide +kernel) (fun ρ α => by
  intro b0 b14 b15 f0 f1 f2 tt
  have e68 : PT 68 = P_nP := pe68_1 hp
  have e70 : PT 70 = P_tkP := pe70_1 hp
  simp only [hF3, hFp_68, hFp_70, e68, e70, P_nP, P_tkP, den_s, den_c, Int.add_zero, List.map_cons, List.map_nil] at f0 f1 f2 ⊢
  exact fun j h1 h2 => f2 j h1 (by omega))
def w_take_P_1_1 : VC := ((bX ++ [(0, 7), (1, 8), (0, 21), (0, 255), (0, 21), (0, 255)]), [(20, [(some 19, 0), (some 18, 1)], [2]), (6, [(some 18, 0), (none, 3), (some 14, 0)], []), (21, [(some 14, 0), (none, 0)], [60, 58]), (1, [(some 17, 0), (none, 97)], []), (1, [(some 17, 0), (none, 115)], []), (20, [(some 17, 0), (some 16, 0)], [2]), (6, [(some 16, 0), (none, 3), (some 14, 0)], []), (2, [(some 14, 0), (some 15, 0)], []), (68, [(some 15, 0), (some 0, 0)], [2]), (70, [(some 14, 0)], [2, 58, 59])], (3, [(some 19, (-48)), (none, 0)], []))
set_option maxRecDepth 20000 in
theorem v_take_P_1_1 {PT : PTy} (hp : HP1 PT) : vcOk PT w_take_P_1_1 := vc_iv [(0, 0, 23), (14, 0, 7), (15, 1, 8), (16, 0, 21), (17, 0, 255), (18, 0, 21), (19, 0, 255)] [2, 58, 59, 60] (by decide +kernel) (fun ρ α => by
  intro r0 g0 b0 r14 g14 b14 r15 g15 b15 r16 g16 b16 r17 g17 b17 r18 g18 b18 r19 g19 b19 a2 h2 a58 h58 a59 h59 a60 h60 f0 f1 f2 f3 f4 f5 f6 f7 f8 f9 tt
  have e68 : PT 68 = P_nP := pe68_1 hp
  have e70 : PT 70 = P_tkP := pe70_1 hp
  simp only [hF1, hF2, hF3, hF6, hF20, hF21, hFp_68, hFp_70, e68, e70, P_nP, P_tkP, den_s, den_c, Int.add_zero, List.map_cons, List.map_nil, g0.eq, g14.eq, g15.eq, g16.eq, g17.eq, g18.eq, g19.eq, h2, h58, h59, h60] at f0 f1 f2 f3 f4 f5 f6 f7 f8 f9 ⊢
  subst f0
  subst f1
  subst f2
  subst f5
  subst f6
  first
    | exact tkP_s f9 (by unfold soP; repeat' split; all_goals omega) (by omega)
    | (have w := wellP_at f8 b0.1 (i := r14) (by omega) (by omega); omega))
def w_take_P_1_2 : VC := ((bX ++ [(0, 7), (1, 8), (0, 21), (0, 255), (0, 21), (0, 255)]), [(20, [(some 19, 0), (some 18, 1)], [2]), (6, [(some 18, 0), (none, 3), (some 14, 0)], []), (21, [(some 14, 0), (none, 0)], [60, 58]), (1, [(some 17, 0), (none, 97)], []), (1, [(some 17, 0), (none, 115)], []), (20, [(some 17, 0), (some 16, 0)], [2]), (6, [(some 16, 0), (none, 3), (some 14, 0)], []), (2, [(some 14, 0), (some 15, 0)], []), (68, [(some 15, 0), (some 0, 0)], [2]), (70, [(some 14, 0)], [2, 58, 59])], (3, [(none, 9), (some 19, (-48))], []))
set_option maxRecDepth 20000 in
theorem v_take_P_1_2 {PT : PTy} (hp : HP1 PT) : vcOk PT w_take_P_1_2 := vc_iv [(0, 0, 23), (14, 0, 7), (15, 1, 8), (16, 0, 21), (17, 0, 255), (18, 0, 21), (19, 0, 255)] [2, 58, 59, 60] (by decide +kernel) (fun ρ α => by
  intro r0 g0 b0 r14 g14 b14 r15 g15 b15 r16 g16 b16 r17 g17 b17 r18 g18 b18 r19 g19 b19 a2 h2 a58 h58 a59 h59 a60 h60 f0 f1 f2 f3 f4 f5 f6 f7 f8 f9 tt
  have e68 : PT 68 = P_nP := pe68_1 hp
  have e70 : PT 70 = P_tkP := pe70_1 hp
  simp only [hF1, hF2, hF3, hF6, hF20, hF21, hFp_68, hFp_70, e68, e70, P_nP, P_tkP, den_s, den_c, Int.add_zero, List.map_cons, List.map_nil, g0.eq, g14.eq, g15.eq, g16.eq, g17.eq, g18.eq, g19.eq, h2, h58, h59, h60] at f0 f1 f2 f3 f4 f5 f6 f7 f8 f9 ⊢
  subst f0
  subst f1
  subst f2
  subst f5
  subst f6
  first
    | exact tkP_s f9 (by unfold soP; repeat' split; all_goals omega) (by omega)
    | (have w := wellP_at f8 b0.1 (i := r14) (by omega) (by omega); omega))
def w_take_P_1_3 : VC := ((bX ++ [(0, 7), (1, 8), (0, 21), (0, 255), (0, 21), (48, 57)]), [(21, [(some 14, 0), (some 19, (-48))], [61, 59]), (20, [(some 19, 0), (some 18, 1)], [2]), (6, [(some 18, 0), (none, 3), (some 14, 0)], []), (21, [(some 14, 0), (none, 0)], [60, 58]), (1, [(some 17, 0), (none, 97)], []), (1, [(some 17, 0), (none, 115)], []), (20, [(some 17, 0), (some 16, 0)], [2]), (6, [(some 16, 0), (none, 3), (some 14, 0)], []), (2, [(some 14, 0), (some 15, 0)], []), (68, [(some 15, 0), (some 0, 0)], [2]), (70, [(some 14, 0)], [2, 58, 59])], (70, [(some 14, 1)], [2, 60, 61]))
set_option maxRecDepth 20000 in
theorem v_take_P_1_3 {PT : PTy} (hp : HP1 PT) : vcOk PT w_take_P_1_3 := vc_iv [(0, 0, 23), (14, 0, 7), (15, 1, 8), (16, 0, 21), (17, 0, 255), (18, 0, 21), (19, 48, 57)] [2, 58, 59, 60, 61] (by decide +kernel) (fun ρ α => by
  intro r0 g0 b0 r14 g14 b14 r15 g15 b15 r16 g16 b16 r17 g17 b17 r18 g18 b18 r19 g19 b19 a2 h2 a58 h58 a59 h59 a60 h60 a61 h61 f0 f1 f2 f3 f4 f5 f6 f7 f8 f9 f10 tt
  have e68 : PT 68 = P_nP := pe68_1 hp
  have e70 : PT 70 = P_tkP := pe70_1 hp
  simp only [hF1, hF2, hF6, hF20, hF21, hFp_68, hFp_70, e68, e70, P_nP, P_tkP, den_s, den_c, Int.add_zero, List.map_cons, List.map_nil, g0.eq, g14.eq, g15.eq, g16.eq, g17.eq, g18.eq, g19.eq, h2, h58, h59, h60, h61] at f0 f1 f2 f3 f4 f5 f6 f7 f8 f9 f10 ⊢
  subst f0
  subst f1
  subst f2
  subst f3
  subst f6
  subst f7
  first
    | exact tkP_s f10 (by unfold soP; repeat' split; all_goals omega) (by omega)
    | (have w := wellP_at f9 b0.1 (i := r14) (by omega) (by omega); omega))
def w_take_P_1_4 : VC := ((bX ++ [(0, 7), (1, 8), (0, 21), (97, 97), (0, 21), (0, 255)]), [(20, [(some 19, 0), (some 18, 1)], [2]), (6, [(some 18, 0), (none, 3), (some 14, 0)], []), (21, [(some 14, 0), (none, 2)], [60, 58]), (0, [(some 17, 0), (none, 97)], []), (1, [(some 17, 0), (none, 115)], []), (20, [(some 17, 0), (some 16, 0)], [2]), (6, [(some 16, 0), (none, 3), (some 14, 0)], []), (2, [(some 14, 0), (some 15, 0)], []), (68, [(some 15, 0), (some 0, 0)], [2]), (70, [(some 14, 0)], [2, 58, 59])], (3, [(some 19, (-48)), (none, 0)], []))
set_option maxRecDepth 20000 in
theorem v_take_P_1_4 {PT : PTy} (hp : HP1 PT) : vcOk PT w_take_P_1_4 := vc_iv [(0, 0, 23), (14, 0, 7), (15, 1, 8), (16, 0, 21), (17, 97, 97), (18, 0, 21), (19, 0, 255)] [2, 58, 59, 60] (by decide +kernel) (fun ρ α => by
  intro r0 g0 b0 r14 g14 b14 r15 g15 b15 r16 g16 b16 r17 g17 b17 r18 g18 b18 r19 g19 b19 a2 h2 a58 h58 a59 h59 a60 h60 f0 f1 f2 f3 f4 f5 f6 f7 f8 f9 tt
  clear f4
  have e68 : PT 68 = P_nP := pe68_1 hp
  have e70 : PT 70 = P_tkP := pe70_1 hp
  simp only [hF0, hF2, hF3, hF6, hF20, hF21, hFp_68, hFp_70, e68, e70, P_nP, P_tkP, den_s, den_c, Int.add_zero, List.map_cons, List.map_nil, g0.eq, g14.eq, g15.eq, g16.eq, g17.eq, g18.eq, g19.eq, h2, h58, h59, h60] at f0 f1 f2 f3 f5 f6 f7 f8 f9 ⊢
  subst f0
  subst f1
  subst f2
  subst f5
  subst f6
  first
    | exact tkP_s f9 (by unfold soP; repeat' split; all_goals omega) (by omega)
    | (have w := wellP_at f8 b0.1 (i := r14) (by omega) (by omega); omega))
def w_take_P_1_5 : VC := ((bX ++ [(0, 7), (1, 8), (0, 21), (97, 97), (0, 21), (0, 255)]), [(20, [(some 19, 0), (some 18, 1)], [2]), (6, [(some 18, 0), (none, 3), (some 14, 0)], []), (21, [(some 14, 0), (none, 2)], [60, 58]), (0, [(some 17, 0), (none, 97)], []), (1, [(some 17, 0), (none, 115)], []), (20, [(some 17, 0), (some 16, 0)], [2]), (6, [(some 16, 0), (none, 3), (some 14, 0)], []), (2, [(some 14, 0), (some 15, 0)], []), (68, [(some 15, 0), (some 0, 0)], [2]), (70, [(some 14, 0)], [2, 58, 59])], (3, [(none, 9), (some 19, (-48))], []))
set_option maxRecDepth 20000 in
theorem v_take_P_1_5 {PT : PTy} (hp : HP1 PT) : vcOk PT w_take_P_1_5 := vc_iv [(0, 0, 23), (14, 0, 7), (15, 1, 8), (16, 0, 21), (17, 97, 97), (18, 0, 21), (19, 0, 255)] [2, 58, 59, 60] (by decide +kernel) (fun ρ α => by
  intro r0 g0 b0 r14 g14 b14 r15 g15 b15 r16 g16 b16 r17 g17 b17 r18 g18 b18 r19 g19 b19 a2 h2 a58 h58 a59 h59 a60 h60 f0 f1 f2 f3 f4 f5 f6 f7 f8 f9 tt
  clear f4
  have e68 : PT 68 = P_nP := pe68_1 hp
  have e70 : PT 70 = P_tkP := pe70_1 hp
  simp only [hF0, hF2, hF3, hF6, hF20, hF21, hFp_68, hFp_70, e68, e70, P_nP, P_tkP, den_s, den_c, Int.add_zero, List.map_cons, List.map_nil, g0.eq, g14.eq, g15.eq, g16.eq, g17.eq, g18.eq, g19.eq, h2, h58, h59, h60] at f0 f1 f2 f3 f5 f6 f7 f8 f9 ⊢
  subst f0
  subst f1
  subst f2
  subst f5
  subst f6
  first
    | exact tkP_s f9 (by unfold soP; repeat' split; all_goals omega) (by omega)
    | (have w := wellP_at f8 b0.1 (i := r14) (by omega) (by omega); omega))
def w_take_P_1_6 : VC := ((bX ++ [(0, 7), (1, 8), (0, 21), (97, 97), (0, 21), (48, 57)]), [(21, [(some 14, 0), (some 19, (-48))], [61, 59]), (20, [(some 19, 0), (some 18, 1)], [2]), (6, [(some 18, 0), (none, 3), (some 14, 0)], []), (21, [(some 14, 0), (none, 2)], [60, 58]), (0, [(some 17, 0), (none, 97)], []), (1, [(some 17, 0), (none, 115)], []), (20, [(some 17, 0), (some 16, 0)], [2]), (6, [(some 16, 0), (none, 3), (some 14, 0)], []), (2, [(some 14, 0), (some 15, 0)], []), (68, [(some 15, 0), (some 0, 0)], [2]), (70, [(some 14, 0)], [2, 58, 59])], (70, [(some 14, 1)], [2, 60, 61]))
set_option maxRecDepth 20000 in
theorem v_take_P_1_6 {PT : PTy} (hp : HP1 PT) : vcOk PT w_take_P_1_6 := vc_iv [(0, 0, 23), (14, 0, 7), (15, 1, 8), (16, 0, 21), (17, 97, 97), (18, 0, 21), (19, 48, 57)] [2, 58, 59, 60, 61] (by decide +kernel) (fun ρ α => by
  intro r0 g0 b0 r14 g14 b14 r15 g15 b15 r16 g16 b16 r17 g17 b17 r18 g18 b18 r19 g19 b19 a2 h2 a58 h58 a59 h59 a60 h60 a61 h61 f0 f1 f2 f3 f4 f5 f6 f7 f8 f9 f10 tt
  clear f5
  have e68 : PT 68 = P_nP := pe68_1 hp
  have e70 : PT 70 = P_tkP := pe70_1 hp
  simp only [hF0, hF2, hF6, hF20, hF21, hFp_68, hFp_70, e68, e70, P_nP, P_tkP, den_s, den_c, Int.add_zero, List.map_cons, List.map_nil, g0.eq, g14.eq, g15.eq, g16.eq, g17.eq, g18.eq, g19.eq, h2, h58, h59, h60, h61] at f0 f1 f2 f3 f4 f6 f7 f8 f9 f10 ⊢
  subst f0
  subst f1
  subst f2
  subst f3
  subst f6
  subst f7
  first
    | exact tkP_s f10 (by unfold soP; repeat' split; all_goals omega) (by omega)
    | (have w := wellP_at f9 b0.1 (i := r14) (by omega) (by omega); omega))
def w_take_P_1_7 : VC := ((bX ++ [(0, 7), (1, 8), (0, 21), (115, 115), (0, 21), (0, 255)]), [(20, [(some 19, 0), (some 18, 1)], [2]), (6, [(some 18, 0), (none, 3), (some 14, 0)], []), (21, [(some 14, 0), (none, 1)], [60, 58]), (0, [(some 17, 0), (none, 115)], []), (20, [(some 17, 0), (some 16, 0)], [2]), (6, [(some 16, 0), (none, 3), (some 14, 0)], []), (2, [(some 14, 0), (some 15, 0)], []), (68, [(some 15, 0), (some 0, 0)], [2]), (70, [(some 14, 0)], [2, 58, 59])], (3, [(some 19, (-48)), (none, 0)], []))
set_option maxRecDepth 20000 in
theorem v_take_P_1_7 {PT : PTy} (hp : HP1 PT) : vcOk PT w_take_P_1_7 := vc_iv [(0, 0, 23), (14, 0, 7), (15, 1, 8), (16, 0, 21), (17, 115, 115), (18, 0, 21), (19, 0, 255)] [2, 58, 59, 60] (by decide +kernel) (fun ρ α => by
  intro r0 g0 b0 r14 g14 b14 r15 g15 b15 r16 g16 b16 r17 g17 b17 r18 g18 b18 r19 g19 b19 a2 h2 a58 h58 a59 h59 a60 h60 f0 f1 f2 f3 f4 f5 f6 f7 f8 tt
  have e68 : PT 68 = P_nP := pe68_1 hp
  have e70 : PT 70 = P_tkP := pe70_1 hp
  simp only [hF0, hF2, hF3, hF6, hF20, hF21, hFp_68, hFp_70, e68, e70, P_nP, P_tkP, den_s, den_c, Int.add_zero, List.map_cons, List.map_nil, g0.eq, g14.eq, g15.eq, g16.eq, g17.eq, g18.eq, g19.eq, h2, h58, h59, h60] at f0 f1 f2 f3 f4 f5 f6 f7 f8 ⊢
  subst f0
  subst f1
  subst f2
  subst f4
  subst f5
  first
    | exact tkP_s f8 (by unfold soP; repeat' split; all_goals omega) (by omega)
    | (have w := wellP_at f7 b0.1 (i := r14) (by omega) (by omega); omega))
def w_take_P_1_8 : VC := ((bX ++ [(0, 7), (1, 8), (0, 21), (115, 115), (0, 21), (0, 255)]), [(20, [(some 19, 0), (some 18, 1)], [2]), (6, [(some 18, 0), (none, 3), (some 14, 0)], []), (21, [(some 14, 0), (none, 1)], [60, 58]), (0, [(some 17, 0), (none, 115)], []), (20, [(some 17, 0), (some 16, 0)], [2]), (6, [(some 16, 0), (none, 3), (some 14, 0)], []), (2, [(some 14, 0), (some 15, 0)], []), (68, [(some 15, 0), (some 0, 0)], [2]), (70, [(some 14, 0)], [2, 58, 59])], (3, [(none, 9), (some 19, (-48))], []))
set_option maxRecDepth 20000 in
theorem v_take_P_1_8 {PT : PTy} (hp : HP1 PT) : vcOk PT w_take_P_1_8 := vc_iv [(0, 0, 23), (14, 0, 7), (15, 1, 8), (16, 0, 21), (17, 115, 115), (18, 0, 21), (19, 0, 255)] [2, 58, 59, 60] (by decide +kernel) (fun ρ α => by
  intro r0 g0 b0 r14 g14 b14 r15 g15 b15 r16 g16 b16 r17 g17 b17 r18 g18 b18 r19 g19 b19 a2 h2 a58 h58 a59 h59 a60 h60 f0 f1 f2 f3 f4 f5 f6 f7 f8 tt
  have e68 : PT 68 = P_nP := pe68_1 hp
  have e70 : PT 70 = P_tkP := pe70_1 hp
  simp only [hF0, hF2, hF3, hF6, hF20, hF21, hFp_68, hFp_70, e68, e70, P_nP, P_tkP, den_s, den_c, Int.add_zero, List.map_cons, List.map_nil, g0.eq, g14.eq, g15.eq, g16.eq, g17.eq, g18.eq, g19.eq, h2, h58, h59, h60] at f0 f1 f2 f3 f4 f5 f6 f7 f8 ⊢
  subst f0
  subst f1
  subst f2
  subst f4
  subst f5
  first
    | exact tkP_s f8 (by unfold soP; repeat' split; all_goals omega) (by omega)
    | (have w := wellP_at f7 b0.1 (i := r14) (by omega) (by omega); omega))
def w_take_P_1_9 : VC := ((bX ++ [(0, 7), (1, 8), (0, 21), (115, 115), (0, 21), (48, 57)]), [(21, [(some 14, 0), (some 19, (-48))], [61, 59]), (20, [(some 19, 0), (some 18, 1)], [2]), (6, [(some 18, 0), (none, 3), (some 14, 0)], []), (21, [(some 14, 0), (none, 1)], [60, 58]), (0, [(some 17, 0), (none, 115)], []), (20, [(some 17, 0), (some 16, 0)], [2]), (6, [(some 16, 0), (none, 3), (some 14, 0)], []), (2, [(some 14, 0), (some 15, 0)], []), (68, [(some 15, 0), (some 0, 0)], [2]), (70, [(some 14, 0)], [2, 58, 59])], (70, [(some 14, 1)], [2, 60, 61]))
set_option maxRecDepth 20000 in
theorem v_take_P_1_9 {PT : PTy} (hp : HP1 PT) : vcOk PT w_take_P_1_9 := vc_iv [(0, 0, 23), (14, 0, 7), (15, 1, 8), (16, 0, 21), (17, 115, 115), (18, 0, 21), (19, 48, 57)] [2, 58, 59, 60, 61] (by decide +kernel) (fun ρ α => by
  intro r0 g0 b0 r14 g14 b14 r15 g15 b15 r16 g16 b16 r17 g17 b17 r18 g18 b18 r19 g19 b19 a2 h2 a58 h58 a59 h59 a60 h60 a61 h61 f0 f1 f2 f3 f4 f5 f6 f7 f8 f9 tt
  have e68 : PT 68 = P_nP := pe68_1 hp
  have e70 : PT 70 = P_tkP := pe70_1 hp
  simp only [hF0, hF2, hF6, hF20, hF21, hFp_68, hFp_70, e68, e70, P_nP, P_tkP, den_s, den_c, Int.add_zero, List.map_cons, List.map_nil, g0.eq, g14.eq, g15.eq, g16.eq, g17.eq, g18.eq, g19.eq, h2, h58, h59, h60, h61] at f0 f1 f2 f3 f4 f5 f6 f7 f8 f9 ⊢
  subst f0
  subst f1
  subst f2
  subst f3
  subst f5
  subst f6
  first
    | exact tkP_s f9 (by unfold soP; repeat' split; all_goals omega) (by omega)
    | (have w := wellP_at f8 b0.1 (i := r14) (by omega) (by omega); omega))
set_option maxRecDepth 1000000 in
theorem k_take_P {PT : PTy} (hp : HP1 PT) : wfX c_take_P = true ∧ xcOk PT c_take_P := xctr (xl (k_FF_P hp) (xl0)) c_take_P 60 mX1_take rfl h_take_P (by decide +kernel) (by decide +kernel) (by decide) (vcs_by [w_take_P_0_0, w_take_P_0_1, w_take_P_0_2, w_take_P_0_3] (by decide +kernel) (vc (v_take_P_0_0 hp) (vc (v_take_P_0_1 hp) (vc (v_take_P_0_2 hp) (vc (v_take_P_0_3 hp) vn))))) (fmc (vcs_by [w_take_P_1_0, w_take_P_1_1, w_take_P_1_2, w_take_P_1_3, w_take_P_1_4, w_take_P_1_5, w_take_P_1_6, w_take_P_1_7, w_take_P_1_8, w_take_P_1_9] (by decide +kernel) (vc (v_take_P_1_0 hp) (vc (v_take_P_1_1 hp) (vc (v_take_P_1_2 hp) (vc (v_take_P_1_3 hp) (vc (v_take_P_1_4 hp) (vc (v_take_P_1_5 hp) (vc (v_take_P_1_6 hp) (vc (v_take_P_1_7 hp) (vc (v_take_P_1_8 hp) (vc (v_take_P_1_9 hp) vn))))))))))) fmn)
def c_take_V : XC := (39, 2, (bX), [.inr (.inl 9), .inr (.inl 3)], (gX 999), [], [((bX ++ [(0, 10)]), none, (hst (gX 999) [(9, .inr (.inr (.inr (5, [.inr (.inl 10), .inr (.inl 11), .inr (.inl 12), .inr (.inl 13), .inl (some 14, 0)]))))]), (ansT 58 [(10, 58), (11, 59), (12, 60), (13, 61)]), 62, [(69, [(some 14, 0), (some 1, 0)], [4]), (71, [(some 14, 0)], [4, 58, 59, 60, 61])])])
def h_take_V : List XH := [(33, (bX ++ [(0, 10), (0, 10), (0, 10)]), [some (.inr (.inl 9)), some (.inr (.inl 3)), some (.inl (some 14, 0)), some (.inl (some 15, 0)), none], (hst (gX 999) [(9, .inr (.inr (.inr (5, [.inr (.inl 10), .inr (.inl 11), .inr (.inl 12), .inr (.inl 13), .inl (some 16, 0)]))))]), (ansT 58 [(10, 58), (11, 59), (12, 60), (13, 61)]), 62, [(69, [(some 14, 0), (some 1, 0)], [4]), (0, [(some 16, 0), (some 15, 0)], []), (3, [(some 14, 0), (some 15, 0)], []), (71, [(some 15, 0)], [4, 58, 59, 60, 61])], [(true, (none, 1)), (true, (some 15, 0))])]
def w_take_V_0_0 : VC := ((bX ++ [(0, 49)]), [(1, [(some 14, 0), (none, (-1))], []), (67, [(some 14, 0), (some 1, 0)], [4])], (69, [(none, 0), (some 1, 0)], [4]))
theorem pe69_1 {PT : PTy} (hp : HP1 PT) : PT 69 = P_nV := hp.2.2.2.2.2.2.1
set_option maxRecDepth 20000 in
theorem v_take_V_0_0 {PT : PTy} (hp : HP1 PT) : vcOk PT w_take_V_0_0 := vc_in [(1, 0, 49), (14, 0, 49)] (by decide +kernel) (fun ρ α => by
  intro b1 b14 f0 f1 tt
  have e67 : PT 67 = P_ffV := pe67_1 hp
  have e69 : PT 69 = P_nV := pe69_1 hp
  simp only [hF1, hFp_67, hFp_69, e67, e69, P_ffV, P_nV, den_s, den_c, Int.add_zero, List.map_cons, List.map_nil] at f0 f1 ⊢
  first
    | omega
    | exact tkV_z
    | exact ⟨fun w => absurd w (ffV_no f1 f0 b1.1), fun _ => rfl⟩
    | exact ⟨fun _ => by omega, fun w => absurd (ffV_yes f3 f2 b1.1) w⟩)
def w_take_V_0_1 : VC := ((bX ++ [(0, 49)]), [(1, [(some 14, 0), (none, (-1))], []), (67, [(some 14, 0), (some 1, 0)], [4])], (0, [(none, 0), (none, 0)], []))
theorem v_take_V_0_1 {PT : PTy} (_ : HP1 PT) : vcOk PT w_take_V_0_1 := vc_of (fun ρ α _ _ => rfl)
def w_take_V_0_2 : VC := ((bX ++ [(0, 49)]), [(1, [(some 14, 0), (none, (-1))], []), (67, [(some 14, 0), (some 1, 0)], [4])], (3, [(none, 0), (none, 0)], []))
theorem v_take_V_0_2 {PT : PTy} (_ : HP1 PT) : vcOk PT w_take_V_0_2 := vc_of (fun ρ α _ _ => by simp only [hF3, den_c] <;> omega)
def w_take_V_0_3 : VC := ((bX ++ [(0, 49)]), [(1, [(some 14, 0), (none, (-1))], []), (67, [(some 14, 0), (some 1, 0)], [4])], (71, [(none, 0)], [4, 10, 11, 12, 13]))
theorem pe71_1 {PT : PTy} (hp : HP1 PT) : PT 71 = P_tkV := hp.2.2.2.2.2.2.2.2.1
set_option maxRecDepth 20000 in
theorem v_take_V_0_3 {PT : PTy} (hp : HP1 PT) : vcOk PT w_take_V_0_3 := vc_in [(1, 0, 49), (14, 0, 49)] (by decide +kernel) (fun ρ α => by
  intro b1 b14 f0 f1 tt
  have e67 : PT 67 = P_ffV := pe67_1 hp
  have e71 : PT 71 = P_tkV := pe71_1 hp
  simp only [hF1, hFp_67, hFp_71, e67, e71, P_ffV, P_tkV, den_s, den_c, Int.add_zero, List.map_cons, List.map_nil] at f0 f1 ⊢
  first
    | omega
    | exact tkV_z
    | exact ⟨fun w => absurd w (ffV_no f1 f0 b1.1), fun _ => rfl⟩
    | exact ⟨fun _ => by omega, fun w => absurd (ffV_yes f3 f2 b1.1) w⟩)
def w_take_V_0_4 : VC := ((bX ++ [((-1), (-1)), (0, 50), (0, 10)]), [(23, [(some 16, 0), (some 15, 0), (none, 10)], []), (7, [(some 15, 0), (some 1, 1), (none, 5)], []), (0, [(some 14, 0), (none, (-1))], []), (67, [(some 14, 0), (some 1, 0)], [4])], (69, [(some 16, 0), (some 1, 0)], [4]))
set_option maxRecDepth 20000 in
theorem v_take_V_0_4 {PT : PTy} (hp : HP1 PT) : vcOk PT w_take_V_0_4 := vc_in [(1, 0, 49), (14, (-1), (-1)), (15, 0, 50), (16, 0, 10)] (by decide +kernel) (fun ρ α => by
  intro b1 b14 b15 b16 f0 f1 f2 f3 tt
  have e67 : PT 67 = P_ffV := pe67_1 hp
  have e69 : PT 69 = P_nV := pe69_1 hp
  simp only [hF0, hF7, hF23, hFp_67, hFp_69, e67, e69, P_ffV, P_nV, den_s, den_c, Int.add_zero, List.map_cons, List.map_nil] at f0 f1 f2 f3 ⊢
  first
    | omega
    | exact tkV_z
    | exact ⟨fun w => absurd w (ffV_no f1 f0 b1.1), fun _ => rfl⟩
    | exact ⟨fun _ => by omega, fun w => absurd (ffV_yes f3 f2 b1.1) w⟩)
def w_take_V_0_5 : VC := ((bX ++ [((-1), (-1)), (0, 50), (0, 10)]), [(23, [(some 16, 0), (some 15, 0), (none, 10)], []), (7, [(some 15, 0), (some 1, 1), (none, 5)], []), (0, [(some 14, 0), (none, (-1))], []), (67, [(some 14, 0), (some 1, 0)], [4])], (0, [(none, 0), (none, 0)], []))
theorem v_take_V_0_5 {PT : PTy} (_ : HP1 PT) : vcOk PT w_take_V_0_5 := vc_of (fun ρ α _ _ => rfl)
def w_take_V_0_6 : VC := ((bX ++ [((-1), (-1)), (0, 50), (0, 10)]), [(23, [(some 16, 0), (some 15, 0), (none, 10)], []), (7, [(some 15, 0), (some 1, 1), (none, 5)], []), (0, [(some 14, 0), (none, (-1))], []), (67, [(some 14, 0), (some 1, 0)], [4])], (3, [(some 16, 0), (none, 0)], []))
set_option maxRecDepth 20000 in
theorem v_take_V_0_6 {PT : PTy} (hp : HP1 PT) : vcOk PT w_take_V_0_6 := vc_in [(1, 0, 49), (14, (-1), (-1)), (15, 0, 50), (16, 0, 10)] (by decide +kernel) (fun ρ α => by
  intro b1 b14 b15 b16 f0 f1 f2 f3 tt
  have e67 : PT 67 = P_ffV := pe67_1 hp
  simp only [hF0, hF3, hF7, hF23, hFp_67, e67, P_ffV, den_s, den_c, Int.add_zero, List.map_cons, List.map_nil] at f0 f1 f2 f3 ⊢
  first
    | omega
    | exact tkV_z
    | exact ⟨fun w => absurd w (ffV_no f1 f0 b1.1), fun _ => rfl⟩
    | exact ⟨fun _ => by omega, fun w => absurd (ffV_yes f3 f2 b1.1) w⟩)
def w_take_V_0_7 : VC := ((bX ++ [((-1), (-1)), (0, 50), (0, 10)]), [(23, [(some 16, 0), (some 15, 0), (none, 10)], []), (7, [(some 15, 0), (some 1, 1), (none, 5)], []), (0, [(some 14, 0), (none, (-1))], []), (67, [(some 14, 0), (some 1, 0)], [4])], (71, [(none, 0)], [4, 10, 11, 12, 13]))
set_option maxRecDepth 20000 in
theorem v_take_V_0_7 {PT : PTy} (hp : HP1 PT) : vcOk PT w_take_V_0_7 := vc_in [(1, 0, 49), (14, (-1), (-1)), (15, 0, 50), (16, 0, 10)] (by decide +kernel) (fun ρ α => by
  intro b1 b14 b15 b16 f0 f1 f2 f3 tt
  have e67 : PT 67 = P_ffV := pe67_1 hp
  have e71 : PT 71 = P_tkV := pe71_1 hp
  simp only [hF0, hF7, hF23, hFp_67, hFp_71, e67, e71, P_ffV, P_tkV, den_s, den_c, Int.add_zero, List.map_cons, List.map_nil] at f0 f1 f2 f3 ⊢
  first
    | omega
    | exact tkV_z
    | exact ⟨fun w => absurd w (ffV_no f1 f0 b1.1), fun _ => rfl⟩
    | exact ⟨fun _ => by omega, fun w => absurd (ffV_yes f3 f2 b1.1) w⟩)
def w_take_V_1_0 : VC := ((bX ++ [(0, 10), (0, 10), (0, 10)]), [(3, [(some 15, 0), (some 14, 0)], []), (69, [(some 14, 0), (some 1, 0)], [4]), (0, [(some 16, 0), (some 15, 0)], []), (3, [(some 14, 0), (some 15, 0)], []), (71, [(some 15, 0)], [4, 58, 59, 60, 61])], (69, [(some 16, 0), (some 1, 0)], [4]))
set_option maxRecDepth 20000 in
theorem v_take_V_1_0 {PT : PTy} (hp : HP1 PT) : vcOk PT w_take_V_1_0 := vc_in [(1, 0, 49), (14, 0, 10), (15, 0, 10), (16, 0, 10)] (by decide +kernel) (fun ρ α => by
  intro b1 b14 b15 b16 f0 f1 f2 f3 f4 tt
  have e69 : PT 69 = P_nV := pe69_1 hp
  have e71 : PT 71 = P_tkV := pe71_1 hp
  simp only [hF0, hF3, hFp_69, hFp_71, e69, e71, P_nV, P_tkV, den_s, den_c, Int.add_zero, List.map_cons, List.map_nil] at f0 f1 f2 f3 f4 ⊢
  rw [show ρ 16 = ρ 14 by omega]; exact f1)
def w_take_V_1_1 : VC := ((bX ++ [(0, 10), (0, 10), (0, 10)]), [(3, [(some 15, 0), (some 14, 0)], []), (69, [(some 14, 0), (some 1, 0)], [4]), (0, [(some 16, 0), (some 15, 0)], []), (3, [(some 14, 0), (some 15, 0)], []), (71, [(some 15, 0)], [4, 58, 59, 60, 61])], (71, [(some 16, 0)], [4, 58, 59, 60, 61]))
set_option maxRecDepth 20000 in
theorem v_take_V_1_1 {PT : PTy} (hp : HP1 PT) : vcOk PT w_take_V_1_1 := vc_in [(1, 0, 49), (14, 0, 10), (15, 0, 10), (16, 0, 10)] (by decide +kernel) (fun ρ α => by
  intro b1 b14 b15 b16 f0 f1 f2 f3 f4 tt
  have e69 : PT 69 = P_nV := pe69_1 hp
  have e71 : PT 71 = P_tkV := pe71_1 hp
  simp only [hF0, hF3, hFp_69, hFp_71, e69, e71, P_nV, P_tkV, den_s, den_c, Int.add_zero, List.map_cons, List.map_nil] at f0 f1 f2 f3 f4 ⊢
  exact fun j h1 h2 => f4 j h1 (by omega))
def w_take_V_1_2 : VC := ((bX ++ [(1, 10), (0, 9), (0, 10), (0, 45), (0, 255), (0, 255), (0, 255), (0, 255)]), [(3, [(none, 10), (some 16, 0)], []), (20, [(some 21, 0), (some 17, 3)], [4]), (20, [(some 20, 0), (some 17, 2)], [4]), (20, [(some 19, 0), (some 17, 1)], [4]), (20, [(some 18, 0), (some 17, 0)], [4]), (6, [(some 17, 0), (none, 5), (some 15, 0)], []), (2, [(some 15, 0), (some 14, 0)], []), (69, [(some 14, 0), (some 1, 0)], [4]), (0, [(some 16, 0), (some 15, 0)], []), (3, [(some 14, 0), (some 15, 0)], []), (71, [(some 15, 0)], [4, 58, 59, 60, 61])], (3, [(some 18, (-97)), (none, 0)], []))
set_option maxRecDepth 20000 in
theorem v_take_V_1_2 {PT : PTy} (hp : HP1 PT) : vcOk PT w_take_V_1_2 := vc_iv [(1, 0, 49), (14, 1, 10), (15, 0, 9), (16, 0, 10), (17, 0, 45), (18, 0, 255), (19, 0, 255), (20, 0, 255), (21, 0, 255)] [4, 58, 59, 60, 61] (by decide +kernel) (fun ρ α => by
  intro r1 g1 b1 r14 g14 b14 r15 g15 b15 r16 g16 b16 r17 g17 b17 r18 g18 b18 r19 g19 b19 r20 g20 b20 r21 g21 b21 a4 h4 a58 h58 a59 h59 a60 h60 a61 h61 f0 f1 f2 f3 f4 f5 f6 f7 f8 f9 f10 tt
  clear f0
  have e69 : PT 69 = P_nV := pe69_1 hp
  have e71 : PT 71 = P_tkV := pe71_1 hp
  simp only [hF0, hF2, hF3, hF6, hF20, hFp_69, hFp_71, e69, e71, P_nV, P_tkV, den_s, den_c, Int.add_zero, List.map_cons, List.map_nil, g1.eq, g14.eq, g15.eq, g16.eq, g17.eq, g18.eq, g19.eq, g20.eq, g21.eq, h4, h58, h59, h60, h61] at f1 f2 f3 f4 f5 f6 f7 f8 f9 f10 ⊢
  subst f1
  subst f2
  subst f3
  subst f4
  subst f5
  first
    | omega
    | (exfalso; omega)
    | (have w := wellV_at f7 b1.1 (i := r15) (by omega) (by omega); omega)
    | (have e := f8; subst e; exact tkV_s f10 (by omega) (by omega) (by omega) (by omega)))
def w_take_V_1_3 : VC := ((bX ++ [(1, 10), (0, 9), (0, 10), (0, 45), (0, 255), (0, 255), (0, 255), (0, 255)]), [(3, [(none, 10), (some 16, 0)], []), (20, [(some 21, 0), (some 17, 3)], [4]), (20, [(some 20, 0), (some 17, 2)], [4]), (20, [(some 19, 0), (some 17, 1)], [4]), (20, [(some 18, 0), (some 17, 0)], [4]), (6, [(some 17, 0), (none, 5), (some 15, 0)], []), (2, [(some 15, 0), (some 14, 0)], []), (69, [(some 14, 0), (some 1, 0)], [4]), (0, [(some 16, 0), (some 15, 0)], []), (3, [(some 14, 0), (some 15, 0)], []), (71, [(some 15, 0)], [4, 58, 59, 60, 61])], (3, [(none, 7), (some 18, (-97))], []))
set_option maxRecDepth 20000 in
theorem v_take_V_1_3 {PT : PTy} (hp : HP1 PT) : vcOk PT w_take_V_1_3 := vc_iv [(1, 0, 49), (14, 1, 10), (15, 0, 9), (16, 0, 10), (17, 0, 45), (18, 0, 255), (19, 0, 255), (20, 0, 255), (21, 0, 255)] [4, 58, 59, 60, 61] (by decide +kernel) (fun ρ α => by
  intro r1 g1 b1 r14 g14 b14 r15 g15 b15 r16 g16 b16 r17 g17 b17 r18 g18 b18 r19 g19 b19 r20 g20 b20 r21 g21 b21 a4 h4 a58 h58 a59 h59 a60 h60 a61 h61 f0 f1 f2 f3 f4 f5 f6 f7 f8 f9 f10 tt
  clear f0
  have e69 : PT 69 = P_nV := pe69_1 hp
  have e71 : PT 71 = P_tkV := pe71_1 hp
  simp only [hF0, hF2, hF3, hF6, hF20, hFp_69, hFp_71, e69, e71, P_nV, P_tkV, den_s, den_c, Int.add_zero, List.map_cons, List.map_nil, g1.eq, g14.eq, g15.eq, g16.eq, g17.eq, g18.eq, g19.eq, g20.eq, g21.eq, h4, h58, h59, h60, h61] at f1 f2 f3 f4 f5 f6 f7 f8 f9 f10 ⊢
  subst f1
  subst f2
  subst f3
  subst f4
  subst f5
  first
    | omega
    | (exfalso; omega)
    | (have w := wellV_at f7 b1.1 (i := r15) (by omega) (by omega); omega)
    | (have e := f8; subst e; exact tkV_s f10 (by omega) (by omega) (by omega) (by omega)))
def w_take_V_1_4 : VC := ((bX ++ [(1, 10), (0, 9), (0, 10), (0, 45), (97, 104), (0, 255), (0, 255), (0, 255)]), [(21, [(some 16, 0), (some 18, (-97))], [62, 58]), (3, [(none, 10), (some 16, 0)], []), (20, [(some 21, 0), (some 17, 3)], [4]), (20, [(some 20, 0), (some 17, 2)], [4]), (20, [(some 19, 0), (some 17, 1)], [4]), (20, [(some 18, 0), (some 17, 0)], [4]), (6, [(some 17, 0), (none, 5), (some 15, 0)], []), (2, [(some 15, 0), (some 14, 0)], []), (69, [(some 14, 0), (some 1, 0)], [4]), (0, [(some 16, 0), (some 15, 0)], []), (3, [(some 14, 0), (some 15, 0)], []), (71, [(some 15, 0)], [4, 58, 59, 60, 61])], (3, [(some 19, (-48)), (none, 0)], []))
set_option maxRecDepth 20000 in
theorem v_take_V_1_4 {PT : PTy} (hp : HP1 PT) : vcOk PT w_take_V_1_4 := vc_iv [(1, 0, 49), (14, 1, 10), (15, 0, 9), (16, 0, 10), (17, 0, 45), (18, 97, 104), (19, 0, 255), (20, 0, 255), (21, 0, 255)] [4, 58, 59, 60, 61, 62] (by decide +kernel) (fun ρ α => by
  intro r1 g1 b1 r14 g14 b14 r15 g15 b15 r16 g16 b16 r17 g17 b17 r18 g18 b18 r19 g19 b19 r20 g20 b20 r21 g21 b21 a4 h4 a58 h58 a59 h59 a60 h60 a61 h61 a62 h62 f0 f1 f2 f3 f4 f5 f6 f7 f8 f9 f10 f11 tt
  clear f1
  have e69 : PT 69 = P_nV := pe69_1 hp
  have e71 : PT 71 = P_tkV := pe71_1 hp
  simp only [hF0, hF2, hF3, hF6, hF20, hF21, hFp_69, hFp_71, e69, e71, P_nV, P_tkV, den_s, den_c, Int.add_zero, List.map_cons, List.map_nil, g1.eq, g14.eq, g15.eq, g16.eq, g17.eq, g18.eq, g19.eq, g20.eq, g21.eq, h4, h58, h59, h60, h61, h62] at f0 f2 f3 f4 f5 f6 f7 f8 f9 f10 f11 ⊢
  subst f0
  subst f2
  subst f3
  subst f4
  subst f5
  subst f6
  first
    | omega
    | (exfalso; omega)
    | (have w := wellV_at f8 b1.1 (i := r15) (by omega) (by omega); omega)
    | (have e := f9; subst e; exact tkV_s f11 (by omega) (by omega) (by omega) (by omega)))
def w_take_V_1_5 : VC := ((bX ++ [(1, 10), (0, 9), (0, 10), (0, 45), (97, 104), (0, 255), (0, 255), (0, 255)]), [(21, [(some 16, 0), (some 18, (-97))], [62, 58]), (3, [(none, 10), (some 16, 0)], []), (20, [(some 21, 0), (some 17, 3)], [4]), (20, [(some 20, 0), (some 17, 2)], [4]), (20, [(some 19, 0), (some 17, 1)], [4]), (20, [(some 18, 0), (some 17, 0)], [4]), (6, [(some 17, 0), (none, 5), (some 15, 0)], []), (2, [(some 15, 0), (some 14, 0)], []), (69, [(some 14, 0), (some 1, 0)], [4]), (0, [(some 16, 0), (some 15, 0)], []), (3, [(some 14, 0), (some 15, 0)], []), (71, [(some 15, 0)], [4, 58, 59, 60, 61])], (3, [(none, 9), (some 19, (-48))], []))
set_option maxRecDepth 20000 in
theorem v_take_V_1_5 {PT : PTy} (hp : HP1 PT) : vcOk PT w_take_V_1_5 := vc_iv [(1, 0, 49), (14, 1, 10), (15, 0, 9), (16, 0, 10), (17, 0, 45), (18, 97, 104), (19, 0, 255), (20, 0, 255), (21, 0, 255)] [4, 58, 59, 60, 61, 62] (by decide +kernel) (fun ρ α => by
  intro r1 g1 b1 r14 g14 b14 r15 g15 b15 r16 g16 b16 r17 g17 b17 r18 g18 b18 r19 g19 b19 r20 g20 b20 r21 g21 b21 a4 h4 a58 h58 a59 h59 a60 h60 a61 h61 a62 h62 f0 f1 f2 f3 f4 f5 f6 f7 f8 f9 f10 f11 tt
  clear f1
  have e69 : PT 69 = P_nV := pe69_1 hp
  have e71 : PT 71 = P_tkV := pe71_1 hp
  simp only [hF0, hF2, hF3, hF6, hF20, hF21, hFp_69, hFp_71, e69, e71, P_nV, P_tkV, den_s, den_c, Int.add_zero, List.map_cons, List.map_nil, g1.eq, g14.eq, g15.eq, g16.eq, g17.eq, g18.eq, g19.eq, g20.eq, g21.eq, h4, h58, h59, h60, h61, h62] at f0 f2 f3 f4 f5 f6 f7 f8 f9 f10 f11 ⊢
  subst f0
  subst f2
  subst f3
  subst f4
  subst f5
  subst f6
  first
    | omega
    | (exfalso; omega)
    | (have w := wellV_at f8 b1.1 (i := r15) (by omega) (by omega); omega)
    | (have e := f9; subst e; exact tkV_s f11 (by omega) (by omega) (by omega) (by omega)))
def w_take_V_1_6 : VC := ((bX ++ [(1, 10), (0, 9), (0, 10), (0, 45), (97, 104), (48, 57), (0, 255), (0, 255)]), [(21, [(some 16, 0), (some 19, (-48))], [63, 59]), (21, [(some 16, 0), (some 18, (-97))], [62, 58]), (3, [(none, 10), (some 16, 0)], []), (20, [(some 21, 0), (some 17, 3)], [4]), (20, [(some 20, 0), (some 17, 2)], [4]), (20, [(some 19, 0), (some 17, 1)], [4]), (20, [(some 18, 0), (some 17, 0)], [4]), (6, [(some 17, 0), (none, 5), (some 15, 0)], []), (2, [(some 15, 0), (some 14, 0)], []), (69, [(some 14, 0), (some 1, 0)], [4]), (0, [(some 16, 0), (some 15, 0)], []), (3, [(some 14, 0), (some 15, 0)], []), (71, [(some 15, 0)], [4, 58, 59, 60, 61])], (3, [(some 20, (-97)), (none, 0)], []))
set_option maxRecDepth 20000 in
theorem v_take_V_1_6 {PT : PTy} (hp : HP1 PT) : vcOk PT w_take_V_1_6 := vc_iv [(1, 0, 49), (14, 1, 10), (15, 0, 9), (16, 0, 10), (17, 0, 45), (18, 97, 104), (19, 48, 57), (20, 0, 255), (21, 0, 255)] [4, 58, 59, 60, 61, 62, 63] (by decide +kernel) (fun ρ α => by
  intro r1 g1 b1 r14 g14 b14 r15 g15 b15 r16 g16 b16 r17 g17 b17 r18 g18 b18 r19 g19 b19 r20 g20 b20 r21 g21 b21 a4 h4 a58 h58 a59 h59 a60 h60 a61 h61 a62 h62 a63 h63 f0 f1 f2 f3 f4 f5 f6 f7 f8 f9 f10 f11 f12 tt
  clear f2
  have e69 : PT 69 = P_nV := pe69_1 hp
  have e71 : PT 71 = P_tkV := pe71_1 hp
  simp only [hF0, hF2, hF3, hF6, hF20, hF21, hFp_69, hFp_71, e69, e71, P_nV, P_tkV, den_s, den_c, Int.add_zero, List.map_cons, List.map_nil, g1.eq, g14.eq, g15.eq, g16.eq, g17.eq, g18.eq, g19.eq, g20.eq, g21.eq, h4, h58, h59, h60, h61, h62, h63] at f0 f1 f3 f4 f5 f6 f7 f8 f9 f10 f11 f12 ⊢
  subst f0
  subst f1
  subst f3
  subst f4
  subst f5
  subst f6
  subst f7
  first
    | omega
    | (exfalso; omega)
    | (have w := wellV_at f9 b1.1 (i := r15) (by omega) (by omega); omega)
    | (have e := f10; subst e; exact tkV_s f12 (by omega) (by omega) (by omega) (by omega)))
def w_take_V_1_7 : VC := ((bX ++ [(1, 10), (0, 9), (0, 10), (0, 45), (97, 104), (48, 57), (0, 255), (0, 255)]), [(21, [(some 16, 0), (some 19, (-48))], [63, 59]), (21, [(some 16, 0), (some 18, (-97))], [62, 58]), (3, [(none, 10), (some 16, 0)], []), (20, [(some 21, 0), (some 17, 3)], [4]), (20, [(some 20, 0), (some 17, 2)], [4]), (20, [(some 19, 0), (some 17, 1)], [4]), (20, [(some 18, 0), (some 17, 0)], [4]), (6, [(some 17, 0), (none, 5), (some 15, 0)], []), (2, [(some 15, 0), (some 14, 0)], []), (69, [(some 14, 0), (some 1, 0)], [4]), (0, [(some 16, 0), (some 15, 0)], []), (3, [(some 14, 0), (some 15, 0)], []), (71, [(some 15, 0)], [4, 58, 59, 60, 61])], (3, [(none, 23), (some 20, (-97))], []))
set_option maxRecDepth 20000 in
theorem v_take_V_1_7 {PT : PTy} (hp : HP1 PT) : vcOk PT w_take_V_1_7 := vc_iv [(1, 0, 49), (14, 1, 10), (15, 0, 9), (16, 0, 10), (17, 0, 45), (18, 97, 104), (19, 48, 57), (20, 0, 255), (21, 0, 255)] [4, 58, 59, 60, 61, 62, 63] (by decide +kernel) (fun ρ α => by
  intro r1 g1 b1 r14 g14 b14 r15 g15 b15 r16 g16 b16 r17 g17 b17 r18 g18 b18 r19 g19 b19 r20 g20 b20 r21 g21 b21 a4 h4 a58 h58 a59 h59 a60 h60 a61 h61 a62 h62 a63 h63 f0 f1 f2 f3 f4 f5 f6 f7 f8 f9 f10 f11 f12 tt
  clear f2
  have e69 : PT 69 = P_nV := pe69_1 hp
  have e71 : PT 71 = P_tkV := pe71_1 hp
  simp only [hF0, hF2, hF3, hF6, hF20, hF21, hFp_69, hFp_71, e69, e71, P_nV, P_tkV, den_s, den_c, Int.add_zero, List.map_cons, List.map_nil, g1.eq, g14.eq, g15.eq, g16.eq, g17.eq, g18.eq, g19.eq, g20.eq, g21.eq, h4, h58, h59, h60, h61, h62, h63] at f0 f1 f3 f4 f5 f6 f7 f8 f9 f10 f11 f12 ⊢
  subst f0
  subst f1
  subst f3
  subst f4
  subst f5
  subst f6
  subst f7
  first
    | omega
    | (exfalso; omega)
    | (have w := wellV_at f9 b1.1 (i := r15) (by omega) (by omega); omega)
    | (have e := f10; subst e; exact tkV_s f12 (by omega) (by omega) (by omega) (by omega)))
def w_take_V_1_8 : VC := ((bX ++ [(1, 10), (0, 9), (0, 10), (0, 45), (97, 104), (48, 57), (97, 120), (0, 255)]), [(21, [(some 16, 0), (some 20, (-97))], [64, 60]), (21, [(some 16, 0), (some 19, (-48))], [63, 59]), (21, [(some 16, 0), (some 18, (-97))], [62, 58]), (3, [(none, 10), (some 16, 0)], []), (20, [(some 21, 0), (some 17, 3)], [4]), (20, [(some 20, 0), (some 17, 2)], [4]), (20, [(some 19, 0), (some 17, 1)], [4]), (20, [(some 18, 0), (some 17, 0)], [4]), (6, [(some 17, 0), (none, 5), (some 15, 0)], []), (2, [(some 15, 0), (some 14, 0)], []), (69, [(some 14, 0), (some 1, 0)], [4]), (0, [(some 16, 0), (some 15, 0)], []), (3, [(some 14, 0), (some 15, 0)], []), (71, [(some 15, 0)], [4, 58, 59, 60, 61])], (3, [(some 21, (-97)), (none, (-1))], []))
set_option maxRecDepth 20000 in
theorem v_take_V_1_8 {PT : PTy} (hp : HP1 PT) : vcOk PT w_take_V_1_8 := vc_iv [(1, 0, 49), (14, 1, 10), (15, 0, 9), (16, 0, 10), (17, 0, 45), (18, 97, 104), (19, 48, 57), (20, 97, 120), (21, 0, 255)] [4, 58, 59, 60, 61, 62, 63, 64] (by decide +kernel) (fun ρ α => by
  intro r1 g1 b1 r14 g14 b14 r15 g15 b15 r16 g16 b16 r17 g17 b17 r18 g18 b18 r19 g19 b19 r20 g20 b20 r21 g21 b21 a4 h4 a58 h58 a59 h59 a60 h60 a61 h61 a62 h62 a63 h63 a64 h64 f0 f1 f2 f3 f4 f5 f6 f7 f8 f9 f10 f11 f12 f13 tt
  clear f3
  have e69 : PT 69 = P_nV := pe69_1 hp
  have e71 : PT 71 = P_tkV := pe71_1 hp
  simp only [hF0, hF2, hF3, hF6, hF20, hF21, hFp_69, hFp_71, e69, e71, P_nV, P_tkV, den_s, den_c, Int.add_zero, List.map_cons, List.map_nil, g1.eq, g14.eq, g15.eq, g16.eq, g17.eq, g18.eq, g19.eq, g20.eq, g21.eq, h4, h58, h59, h60, h61, h62, h63, h64] at f0 f1 f2 f4 f5 f6 f7 f8 f9 f10 f11 f12 f13 ⊢
  subst f0
  subst f1
  subst f2
  subst f4
  subst f5
  subst f6
  subst f7
  subst f8
  first
    | omega
    | (exfalso; omega)
    | (have w := wellV_at f10 b1.1 (i := r15) (by omega) (by omega); omega)
    | (have e := f11; subst e; exact tkV_s f13 (by omega) (by omega) (by omega) (by omega)))
def w_take_V_1_9 : VC := ((bX ++ [(1, 10), (0, 9), (0, 10), (0, 45), (97, 104), (48, 57), (97, 120), (0, 255)]), [(21, [(some 16, 0), (some 20, (-97))], [64, 60]), (21, [(some 16, 0), (some 19, (-48))], [63, 59]), (21, [(some 16, 0), (some 18, (-97))], [62, 58]), (3, [(none, 10), (some 16, 0)], []), (20, [(some 21, 0), (some 17, 3)], [4]), (20, [(some 20, 0), (some 17, 2)], [4]), (20, [(some 19, 0), (some 17, 1)], [4]), (20, [(some 18, 0), (some 17, 0)], [4]), (6, [(some 17, 0), (none, 5), (some 15, 0)], []), (2, [(some 15, 0), (some 14, 0)], []), (69, [(some 14, 0), (some 1, 0)], [4]), (0, [(some 16, 0), (some 15, 0)], []), (3, [(some 14, 0), (some 15, 0)], []), (71, [(some 15, 0)], [4, 58, 59, 60, 61])], (3, [(none, 23), (some 21, (-97))], []))
set_option maxRecDepth 20000 in
theorem v_take_V_1_9 {PT : PTy} (hp : HP1 PT) : vcOk PT w_take_V_1_9 := vc_iv [(1, 0, 49), (14, 1, 10), (15, 0, 9), (16, 0, 10), (17, 0, 45), (18, 97, 104), (19, 48, 57), (20, 97, 120), (21, 0, 255)] [4, 58, 59, 60, 61, 62, 63, 64] (by decide +kernel) (fun ρ α => by
  intro r1 g1 b1 r14 g14 b14 r15 g15 b15 r16 g16 b16 r17 g17 b17 r18 g18 b18 r19 g19 b19 r20 g20 b20 r21 g21 b21 a4 h4 a58 h58 a59 h59 a60 h60 a61 h61 a62 h62 a63 h63 a64 h64 f0 f1 f2 f3 f4 f5 f6 f7 f8 f9 f10 f11 f12 f13 tt
  clear f3
  have e69 : PT 69 = P_nV := pe69_1 hp
  have e71 : PT 71 = P_tkV := pe71_1 hp
  simp only [hF0, hF2, hF3, hF6, hF20, hF21, hFp_69, hFp_71, e69, e71, P_nV, P_tkV, den_s, den_c, Int.add_zero, List.map_cons, List.map_nil, g1.eq, g14.eq, g15.eq, g16.eq, g17.eq, g18.eq, g19.eq, g20.eq, g21.eq, h4, h58, h59, h60, h61, h62, h63, h64] at f0 f1 f2 f4 f5 f6 f7 f8 f9 f10 f11 f12 f13 ⊢
  subst f0
  subst f1
  subst f2
  subst f4
  subst f5
  subst f6
  subst f7
  subst f8
  first
    | omega
    | (exfalso; omega)
    | (have w := wellV_at f10 b1.1 (i := r15) (by omega) (by omega); omega)
    | (have e := f11; subst e; exact tkV_s f13 (by omega) (by omega) (by omega) (by omega)))
def w_take_V_1_10 : VC := ((bX ++ [(1, 10), (0, 9), (0, 10), (0, 45), (97, 104), (48, 57), (97, 120), (96, 120)]), [(21, [(some 16, 0), (some 21, (-97))], [65, 61]), (21, [(some 16, 0), (some 20, (-97))], [64, 60]), (21, [(some 16, 0), (some 19, (-48))], [63, 59]), (21, [(some 16, 0), (some 18, (-97))], [62, 58]), (3, [(none, 10), (some 16, 0)], []), (20, [(some 21, 0), (some 17, 3)], [4]), (20, [(some 20, 0), (some 17, 2)], [4]), (20, [(some 19, 0), (some 17, 1)], [4]), (20, [(some 18, 0), (some 17, 0)], [4]), (6, [(some 17, 0), (none, 5), (some 15, 0)], []), (2, [(some 15, 0), (some 14, 0)], []), (69, [(some 14, 0), (some 1, 0)], [4]), (0, [(some 16, 0), (some 15, 0)], []), (3, [(some 14, 0), (some 15, 0)], []), (71, [(some 15, 0)], [4, 58, 59, 60, 61])], (3, [(some 16, 1), (none, 0)], []))
set_option maxRecDepth 20000 in
theorem v_take_V_1_10 {PT : PTy} (hp : HP1 PT) : vcOk PT w_take_V_1_10 := vc_iv [(1, 0, 49), (14, 1, 10), (15, 0, 9), (16, 0, 10), (17, 0, 45), (18, 97, 104), (19, 48, 57), (20, 97, 120), (21, 96, 120)] [4, 58, 59, 60, 61, 62, 63, 64, 65] (by decide +kernel) (fun ρ α => by
  intro r1 g1 b1 r14 g14 b14 r15 g15 b15 r16 g16 b16 r17 g17 b17 r18 g18 b18 r19 g19 b19 r20 g20 b20 r21 g21 b21 a4 h4 a58 h58 a59 h59 a60 h60 a61 h61 a62 h62 a63 h63 a64 h64 a65 h65 f0 f1 f2 f3 f4 f5 f6 f7 f8 f9 f10 f11 f12 f13 f14 tt
  clear f4
  have e69 : PT 69 = P_nV := pe69_1 hp
  have e71 : PT 71 = P_tkV := pe71_1 hp
  simp only [hF0, hF2, hF3, hF6, hF20, hF21, hFp_69, hFp_71, e69, e71, P_nV, P_tkV, den_s, den_c, Int.add_zero, List.map_cons, List.map_nil, g1.eq, g14.eq, g15.eq, g16.eq, g17.eq, g18.eq, g19.eq, g20.eq, g21.eq, h4, h58, h59, h60, h61, h62, h63, h64, h65] at f0 f1 f2 f3 f5 f6 f7 f8 f9 f10 f11 f12 f13 f14 ⊢
  subst f0
  subst f1
  subst f2
  subst f3
  subst f5
  subst f6
  subst f7
  subst f8
  subst f9
  first
    | omega
    | (exfalso; omega)
    | (have w := wellV_at f11 b1.1 (i := r15) (by omega) (by omega); omega)
    | (have e := f12; subst e; exact tkV_s f14 (by omega) (by omega) (by omega) (by omega)))
def w_take_V_1_11 : VC := ((bX ++ [(1, 10), (0, 9), (0, 10), (0, 45), (97, 104), (48, 57), (97, 120), (96, 120)]), [(21, [(some 16, 0), (some 21, (-97))], [65, 61]), (21, [(some 16, 0), (some 20, (-97))], [64, 60]), (21, [(some 16, 0), (some 19, (-48))], [63, 59]), (21, [(some 16, 0), (some 18, (-97))], [62, 58]), (3, [(none, 10), (some 16, 0)], []), (20, [(some 21, 0), (some 17, 3)], [4]), (20, [(some 20, 0), (some 17, 2)], [4]), (20, [(some 19, 0), (some 17, 1)], [4]), (20, [(some 18, 0), (some 17, 0)], [4]), (6, [(some 17, 0), (none, 5), (some 15, 0)], []), (2, [(some 15, 0), (some 14, 0)], []), (69, [(some 14, 0), (some 1, 0)], [4]), (0, [(some 16, 0), (some 15, 0)], []), (3, [(some 14, 0), (some 15, 0)], []), (71, [(some 15, 0)], [4, 58, 59, 60, 61])], (3, [(none, 10), (some 16, 1)], []))
set_option maxRecDepth 20000 in
theorem v_take_V_1_11 {PT : PTy} (hp : HP1 PT) : vcOk PT w_take_V_1_11 := vc_iv [(1, 0, 49), (14, 1, 10), (15, 0, 9), (16, 0, 10), (17, 0, 45), (18, 97, 104), (19, 48, 57), (20, 97, 120), (21, 96, 120)] [4, 58, 59, 60, 61, 62, 63, 64, 65] (by decide +kernel) (fun ρ α => by
  intro r1 g1 b1 r14 g14 b14 r15 g15 b15 r16 g16 b16 r17 g17 b17 r18 g18 b18 r19 g19 b19 r20 g20 b20 r21 g21 b21 a4 h4 a58 h58 a59 h59 a60 h60 a61 h61 a62 h62 a63 h63 a64 h64 a65 h65 f0 f1 f2 f3 f4 f5 f6 f7 f8 f9 f10 f11 f12 f13 f14 tt
  clear f4
  have e69 : PT 69 = P_nV := pe69_1 hp
  have e71 : PT 71 = P_tkV := pe71_1 hp
  simp only [hF0, hF2, hF3, hF6, hF20, hF21, hFp_69, hFp_71, e69, e71, P_nV, P_tkV, den_s, den_c, Int.add_zero, List.map_cons, List.map_nil, g1.eq, g14.eq, g15.eq, g16.eq, g17.eq, g18.eq, g19.eq, g20.eq, g21.eq, h4, h58, h59, h60, h61, h62, h63, h64, h65] at f0 f1 f2 f3 f5 f6 f7 f8 f9 f10 f11 f12 f13 f14 ⊢
  subst f0
  subst f1
  subst f2
  subst f3
  subst f5
  subst f6
  subst f7
  subst f8
  subst f9
  first
    | omega
    | (exfalso; omega)
    | (have w := wellV_at f11 b1.1 (i := r15) (by omega) (by omega); omega)
    | (have e := f12; subst e; exact tkV_s f14 (by omega) (by omega) (by omega) (by omega)))
def w_take_V_1_12 : VC := ((bX ++ [(1, 10), (0, 9), (0, 10), (0, 45), (97, 104), (48, 57), (97, 120), (96, 120)]), [(21, [(some 16, 0), (some 21, (-97))], [65, 61]), (21, [(some 16, 0), (some 20, (-97))], [64, 60]), (21, [(some 16, 0), (some 19, (-48))], [63, 59]), (21, [(some 16, 0), (some 18, (-97))], [62, 58]), (3, [(none, 10), (some 16, 0)], []), (20, [(some 21, 0), (some 17, 3)], [4]), (20, [(some 20, 0), (some 17, 2)], [4]), (20, [(some 19, 0), (some 17, 1)], [4]), (20, [(some 18, 0), (some 17, 0)], [4]), (6, [(some 17, 0), (none, 5), (some 15, 0)], []), (2, [(some 15, 0), (some 14, 0)], []), (69, [(some 14, 0), (some 1, 0)], [4]), (0, [(some 16, 0), (some 15, 0)], []), (3, [(some 14, 0), (some 15, 0)], []), (71, [(some 15, 0)], [4, 58, 59, 60, 61])], (0, [(some 16, 1), (some 15, 1)], []))
set_option maxRecDepth 20000 in
theorem v_take_V_1_12 {PT : PTy} (hp : HP1 PT) : vcOk PT w_take_V_1_12 := vc_iv [(1, 0, 49), (14, 1, 10), (15, 0, 9), (16, 0, 10), (17, 0, 45), (18, 97, 104), (19, 48, 57), (20, 97, 120), (21, 96, 120)] [4, 58, 59, 60, 61, 62, 63, 64, 65] (by decide +kernel) (fun ρ α => by
  intro r1 g1 b1 r14 g14 b14 r15 g15 b15 r16 g16 b16 r17 g17 b17 r18 g18 b18 r19 g19 b19 r20 g20 b20 r21 g21 b21 a4 h4 a58 h58 a59 h59 a60 h60 a61 h61 a62 h62 a63 h63 a64 h64 a65 h65 f0 f1 f2 f3 f4 f5 f6 f7 f8 f9 f10 f11 f12 f13 f14 tt
  clear f4
  have e69 : PT 69 = P_nV := pe69_1 hp
  have e71 : PT 71 = P_tkV := pe71_1 hp
  simp only [hF0, hF2, hF3, hF6, hF20, hF21, hFp_69, hFp_71, e69, e71, P_nV, P_tkV, den_s, den_c, Int.add_zero, List.map_cons, List.map_nil, g1.eq, g14.eq, g15.eq, g16.eq, g17.eq, g18.eq, g19.eq, g20.eq, g21.eq, h4, h58, h59, h60, h61, h62, h63, h64, h65] at f0 f1 f2 f3 f5 f6 f7 f8 f9 f10 f11 f12 f13 f14 ⊢
  subst f0
  subst f1
  subst f2
  subst f3
  subst f5
  subst f6
  subst f7
  subst f8
  subst f9
  first
    | omega
    | (exfalso; omega)
    | (have w := wellV_at f11 b1.1 (i := r15) (by omega) (by omega); omega)
    | (have e := f12; subst e; exact tkV_s f14 (by omega) (by omega) (by omega) (by omega)))
def w_take_V_1_13 : VC := ((bX ++ [(1, 10), (0, 9), (0, 10), (0, 45), (97, 104), (48, 57), (97, 120), (96, 120)]), [(21, [(some 16, 0), (some 21, (-97))], [65, 61]), (21, [(some 16, 0), (some 20, (-97))], [64, 60]), (21, [(some 16, 0), (some 19, (-48))], [63, 59]), (21, [(some 16, 0), (some 18, (-97))], [62, 58]), (3, [(none, 10), (some 16, 0)], []), (20, [(some 21, 0), (some 17, 3)], [4]), (20, [(some 20, 0), (some 17, 2)], [4]), (20, [(some 19, 0), (some 17, 1)], [4]), (20, [(some 18, 0), (some 17, 0)], [4]), (6, [(some 17, 0), (none, 5), (some 15, 0)], []), (2, [(some 15, 0), (some 14, 0)], []), (69, [(some 14, 0), (some 1, 0)], [4]), (0, [(some 16, 0), (some 15, 0)], []), (3, [(some 14, 0), (some 15, 0)], []), (71, [(some 15, 0)], [4, 58, 59, 60, 61])], (3, [(some 14, 0), (some 15, 1)], []))
set_option maxRecDepth 20000 in
theorem v_take_V_1_13 {PT : PTy} (hp : HP1 PT) : vcOk PT w_take_V_1_13 := vc_iv [(1, 0, 49), (14, 1, 10), (15, 0, 9), (16, 0, 10), (17, 0, 45), (18, 97, 104), (19, 48, 57), (20, 97, 120), (21, 96, 120)] [4, 58, 59, 60, 61, 62, 63, 64, 65] (by decide +kernel) (fun ρ α => by
  intro r1 g1 b1 r14 g14 b14 r15 g15 b15 r16 g16 b16 r17 g17 b17 r18 g18 b18 r19 g19 b19 r20 g20 b20 r21 g21 b21 a4 h4 a58 h58 a59 h59 a60 h60 a61 h61 a62 h62 a63 h63 a64 h64 a65 h65 f0 f1 f2 f3 f4 f5 f6 f7 f8 f9 f10 f11 f12 f13 f14 tt
  clear f4
  have e69 : PT 69 = P_nV := pe69_1 hp
  have e71 : PT 71 = P_tkV := pe71_1 hp
  simp only [hF0, hF2, hF3, hF6, hF20, hF21, hFp_69, hFp_71, e69, e71, P_nV, P_tkV, den_s, den_c, Int.add_zero, List.map_cons, List.map_nil, g1.eq, g14.eq, g15.eq, g16.eq, g17.eq, g18.eq, g19.eq, g20.eq, g21.eq, h4, h58, h59, h60, h61, h62, h63, h64, h65] at f0 f1 f2 f3 f5 f6 f7 f8 f9 f10 f11 f12 f13 f14 ⊢
  subst f0
  subst f1
  subst f2
  subst f3
  subst f5
  subst f6
  subst f7
  subst f8
  subst f9
  first
    | omega
    | (exfalso; omega)
    | (have w := wellV_at f11 b1.1 (i := r15) (by omega) (by omega); omega)
    | (have e := f12; subst e; exact tkV_s f14 (by omega) (by omega) (by omega) (by omega)))
def w_take_V_1_14 : VC := ((bX ++ [(1, 10), (0, 9), (0, 10), (0, 45), (97, 104), (48, 57), (97, 120), (96, 120)]), [(21, [(some 16, 0), (some 21, (-97))], [65, 61]), (21, [(some 16, 0), (some 20, (-97))], [64, 60]), (21, [(some 16, 0), (some 19, (-48))], [63, 59]), (21, [(some 16, 0), (some 18, (-97))], [62, 58]), (3, [(none, 10), (some 16, 0)], []), (20, [(some 21, 0), (some 17, 3)], [4]), (20, [(some 20, 0), (some 17, 2)], [4]), (20, [(some 19, 0), (some 17, 1)], [4]), (20, [(some 18, 0), (some 17, 0)], [4]), (6, [(some 17, 0), (none, 5), (some 15, 0)], []), (2, [(some 15, 0), (some 14, 0)], []), (69, [(some 14, 0), (some 1, 0)], [4]), (0, [(some 16, 0), (some 15, 0)], []), (3, [(some 14, 0), (some 15, 0)], []), (71, [(some 15, 0)], [4, 58, 59, 60, 61])], (71, [(some 15, 1)], [4, 62, 63, 64, 65]))
set_option maxRecDepth 20000 in
theorem v_take_V_1_14 {PT : PTy} (hp : HP1 PT) : vcOk PT w_take_V_1_14 := vc_iv [(1, 0, 49), (14, 1, 10), (15, 0, 9), (16, 0, 10), (17, 0, 45), (18, 97, 104), (19, 48, 57), (20, 97, 120), (21, 96, 120)] [4, 58, 59, 60, 61, 62, 63, 64, 65] (by decide +kernel) (fun ρ α => by
  intro r1 g1 b1 r14 g14 b14 r15 g15 b15 r16 g16 b16 r17 g17 b17 r18 g18 b18 r19 g19 b19 r20 g20 b20 r21 g21 b21 a4 h4 a58 h58 a59 h59 a60 h60 a61 h61 a62 h62 a63 h63 a64 h64 a65 h65 f0 f1 f2 f3 f4 f5 f6 f7 f8 f9 f10 f11 f12 f13 f14 tt
  clear f4
  have e69 : PT 69 = P_nV := pe69_1 hp
  have e71 : PT 71 = P_tkV := pe71_1 hp
  simp only [hF0, hF2, hF3, hF6, hF20, hF21, hFp_69, hFp_71, e69, e71, P_nV, P_tkV, den_s, den_c, Int.add_zero, List.map_cons, List.map_nil, g1.eq, g14.eq, g15.eq, g16.eq, g17.eq, g18.eq, g19.eq, g20.eq, g21.eq, h4, h58, h59, h60, h61, h62, h63, h64, h65] at f0 f1 f2 f3 f5 f6 f7 f8 f9 f10 f11 f12 f13 f14 ⊢
  subst f0
  subst f1
  subst f2
  subst f3
  subst f5
  subst f6
  subst f7
  subst f8
  subst f9
  first
    | omega
    | (exfalso; omega)
    | (have w := wellV_at f11 b1.1 (i := r15) (by omega) (by omega); omega)
    | (have e := f12; subst e; exact tkV_s f14 (by omega) (by omega) (by omega) (by omega)))
set_option maxRecDepth 1000000 in
theorem k_take_V {PT : PTy} (hp : HP1 PT) : wfX c_take_V = true ∧ xcOk PT c_take_V := xctr (xl (k_FF_V hp) (xl0)) c_take_V 97 mX5_take rfl h_take_V (by decide +kernel) (by decide +kernel) (by decide) (vcs_by [w_take_V_0_0, w_take_V_0_1, w_take_V_0_2, w_take_V_0_3, w_take_V_0_4, w_take_V_0_5, w_take_V_0_6, w_take_V_0_7] (by decide +kernel) (vc (v_take_V_0_0 hp) (vc (v_take_V_0_1 hp) (vc (v_take_V_0_2 hp) (vc (v_take_V_0_3 hp) (vc (v_take_V_0_4 hp) (vc (v_take_V_0_5 hp) (vc (v_take_V_0_6 hp) (vc (v_take_V_0_7 hp) vn))))))))) (fmc (vcs_by [w_take_V_1_0, w_take_V_1_1, w_take_V_1_2, w_take_V_1_3, w_take_V_1_4, w_take_V_1_5, w_take_V_1_6, w_take_V_1_7, w_take_V_1_8, w_take_V_1_9, w_take_V_1_10, w_take_V_1_11, w_take_V_1_12, w_take_V_1_13, w_take_V_1_14] (by decide +kernel) (vc (v_take_V_1_0 hp) (vc (v_take_V_1_1 hp) (vc (v_take_V_1_2 hp) (vc (v_take_V_1_3 hp) (vc (v_take_V_1_4 hp) (vc (v_take_V_1_5 hp) (vc (v_take_V_1_6 hp) (vc (v_take_V_1_7 hp) (vc (v_take_V_1_8 hp) (vc (v_take_V_1_9 hp) (vc (v_take_V_1_10 hp) (vc (v_take_V_1_11 hp) (vc (v_take_V_1_12 hp) (vc (v_take_V_1_13 hp) (vc (v_take_V_1_14 hp) vn)))))))))))))))) fmn)
def c_takeTexts : XC := (87, 3, (bT), [.inr (.inl 0)], (gX 999), [], [((bT ++ [(0, 8), (0, 10)]), none, (hst (gX 999) [(6, .inr (.inr (.inr (1, [.inr (.inl 7), .inr (.inl 8), .inl (some 14, 0)])))), (9, .inr (.inr (.inr (5, [.inr (.inl 10), .inr (.inl 11), .inr (.inl 12), .inr (.inl 13), .inl (some 15, 0)]))))]), (ansT 58 [(7, 58), (8, 59), (10, 60), (11, 61), (12, 62), (13, 63)]), 64, [(68, [(some 14, 0), (some 0, 0)], [2]), (70, [(some 14, 0)], [2, 58, 59]), (69, [(some 15, 0), (some 1, 0)], [4]), (71, [(some 15, 0)], [4, 60, 61, 62, 63])])])
def h_takeTexts : List XH := []
set_option maxRecDepth 1000000 in
theorem k_takeTexts {PT : PTy} (hp : HP1 PT) : wfX c_takeTexts = true ∧ xcOk PT c_takeTexts := xctr (xl (k_take_P hp) (xl (k_take_V hp) (xl0))) c_takeTexts 31 mX6_takeTexts rfl h_takeTexts (by decide +kernel) (by decide +kernel) (by decide) (vcs_by [] (by decide +kernel) vn) fmn
/-! ===== the reference: its texts; printed by wip/gen/x ===== -/
def P_by0 (l : List Int) (a : List (Int → Int)) : Prop := match l, a with
  | [r, k], [L, T] => (k < L 0 → r = T k) ∧ (¬ k < L 0 → r = -1)
  | _, _ => False
theorem hFp_72 {PT : PTy} {ρ : Nat → Int} {α : Nat → Int → Int} (l : List AN) (a : List Nat) : hF PT ρ α (72, l, a) = PT 72 (l.map (den ρ)) (a.map α) := rfl
def P_by1 (l : List Int) (a : List (Int → Int)) : Prop := match l, a with
  | [r, k], [L, T] => (k < L 1 → r = T (k + 49)) ∧ (¬ k < L 1 → r = -1)
  | _, _ => False
theorem hFp_73 {PT : PTy} {ρ : Nat → Int} {α : Nat → Int → Int} (l : List AN) (a : List Nat) : hF PT ρ α (73, l, a) = PT 73 (l.map (den ρ)) (a.map α) := rfl
def P_rpI (l : List Int) (a : List (Int → Int)) : Prop := match l, a with
  | [x, n, pp], [L, T, so, me] => rpI x n pp (L 0) T so me
  | _, _ => False
theorem hFp_74 {PT : PTy} {ρ : Nat → Int} {α : Nat → Int → Int} (l : List AN) (a : List Nat) : hF PT ρ α (74, l, a) = PT 74 (l.map (den ρ)) (a.map α) := rfl
def P_rvI (l : List Int) (a : List (Int → Int)) : Prop := match l, a with
  | [x, n, pp], [L, T, wh, gr, md, du] => rvI x n pp (L 1) (sh T) wh gr md du
  | _, _ => False
theorem hFp_75 {PT : PTy} {ρ : Nat → Int} {α : Nat → Int → Int} (l : List AN) (a : List Nat) : hF PT ρ α (75, l, a) = PT 75 (l.map (den ρ)) (a.map α) := rfl
def P_rdP (l : List Int) (a : List (Int → Int)) : Prop := match l, a with
  | [r, n], [L, T, so, me] => rdP r n (L 0) T so me
  | _, _ => False
theorem hFp_76 {PT : PTy} {ρ : Nat → Int} {α : Nat → Int → Int} (l : List AN) (a : List Nat) : hF PT ρ α (76, l, a) = PT 76 (l.map (den ρ)) (a.map α) := rfl
def P_rdV (l : List Int) (a : List (Int → Int)) : Prop := match l, a with
  | [r, n], [L, T, wh, gr, md, du] => rdV r n (L 1) (sh T) wh gr md du
  | _, _ => False
theorem hFp_77 {PT : PTy} {ρ : Nat → Int} {α : Nat → Int → Int} (l : List AN) (a : List Nat) : hF PT ρ α (77, l, a) = PT 77 (l.map (den ρ)) (a.map α) := rfl
def P_ly (l : List Int) (a : List (Int → Int)) : Prop := match l, a with
  | [], [L] => 0 ≤ L 0 ∧ L 0 ≤ 23 ∧ 0 ≤ L 1 ∧ L 1 ≤ 49
  | _, _ => False
theorem hFp_78 {PT : PTy} {ρ : Nat → Int} {α : Nat → Int → Int} (l : List AN) (a : List Nat) : hF PT ρ α (78, l, a) = PT 78 (l.map (den ρ)) (a.map α) := rfl
def P_fo (l : List Int) (a : List (Int → Int)) : Prop := match l, a with
  | [r, t, n, m], [L, T, so, me, wh, gr, md, du] => ∃ a b, rdP a n (L 0) T so me ∧ rdV b m (L 1) (sh T) wh gr md du ∧ r = if t = 0 then a else b
  | _, _ => False
theorem hFp_79 {PT : PTy} {ρ : Nat → Int} {α : Nat → Int → Int} (l : List AN) (a : List Nat) : hF PT ρ α (79, l, a) = PT 79 (l.map (den ρ)) (a.map α) := rfl
def HP2 (PT : PTy) : Prop := HP1 PT ∧ (PT 72 = P_by0 ∧ PT 73 = P_by1 ∧ PT 74 = P_rpI ∧ PT 75 = P_rvI ∧ PT 76 = P_rdP ∧ PT 77 = P_rdV ∧ PT 78 = P_ly ∧ PT 79 = P_fo ∧ True)
def c_byteAt0 : XC := (114, 0, (bY ++ [(0, 60)]), [.inr (.inl 0), .inl (none, 0), .inl (some 13, 0)], gY2, [], [((bY ++ [(0, 60), ((-1), 255)]), some (.inl (some 14, 0)), gY2, (List.range 35), 35, [(72, [(some 14, 0), (some 13, 0)], [1, 2])])])
def h_byteAt0 : List XH := []
def w_byteAt0_0_0 : VC := ((bY ++ [(0, 60), (0, 49)]), [(3, [(some 13, 0), (some 14, 0)], []), (20, [(some 14, 0), (none, 0)], [1])], (72, [(none, (-1)), (some 13, 0)], [1, 2]))
theorem pe72_2 {PT : PTy} (hp : HP2 PT) : PT 72 = P_by0 := hp.2.1
set_option maxRecDepth 20000 in
theorem v_byteAt0_0_0 {PT : PTy} (hp : HP2 PT) : vcOk PT w_byteAt0_0_0 := vc_in [(13, 0, 60), (14, 0, 49)] (by decide +kernel) (fun ρ α => by
  intro b13 b14 f0 f1 tt
  have e72 : PT 72 = P_by0 := pe72_2 hp
  simp only [hF3, hF20, hFp_72, e72, P_by0, den_s, den_c, Int.add_zero, List.map_cons, List.map_nil] at f0 f1 ⊢
  exact ⟨fun _ => by first | omega | trivial, fun _ => by first | omega | trivial⟩)
def w_byteAt0_0_1 : VC := ((bY ++ [(0, 48), (1, 49), (0, 255)]), [(20, [(some 15, 0), (some 13, 0)], [2]), (2, [(some 13, 0), (some 14, 0)], []), (20, [(some 14, 0), (none, 0)], [1])], (72, [(some 15, 0), (some 13, 0)], [1, 2]))
set_option maxRecDepth 20000 in
theorem v_byteAt0_0_1 {PT : PTy} (hp : HP2 PT) : vcOk PT w_byteAt0_0_1 := vc_in [(13, 0, 48), (14, 1, 49), (15, 0, 255)] (by decide +kernel) (fun ρ α => by
  intro b13 b14 b15 f0 f1 f2 tt
  have e72 : PT 72 = P_by0 := pe72_2 hp
  simp only [hF2, hF20, hFp_72, e72, P_by0, den_s, den_c, Int.add_zero, List.map_cons, List.map_nil] at f0 f1 f2 ⊢
  exact ⟨fun _ => by first | omega | trivial, fun _ => by first | omega | trivial⟩)
set_option maxRecDepth 1000000 in
theorem k_byteAt0 {PT : PTy} (hp : HP2 PT) : wfX c_byteAt0 = true ∧ xcOk PT c_byteAt0 := xctr (xl0) c_byteAt0 36 mX7_byteAt rfl h_byteAt0 (by decide +kernel) (by decide +kernel) (by decide) (vcs_by [w_byteAt0_0_0, w_byteAt0_0_1] (by decide +kernel) (vc (v_byteAt0_0_0 hp) (vc (v_byteAt0_0_1 hp) vn))) fmn
def c_byteAt1 : XC := (114, 0, (bY ++ [(0, 60)]), [.inr (.inl 0), .inl (none, 1), .inl (some 13, 0)], gY2, [], [((bY ++ [(0, 60), ((-1), 255)]), some (.inl (some 14, 0)), gY2, (List.range 35), 35, [(73, [(some 14, 0), (some 13, 0)], [1, 2])])])
def h_byteAt1 : List XH := []
def w_byteAt1_0_0 : VC := ((bY ++ [(0, 60), (0, 49)]), [(3, [(some 13, 0), (some 14, 0)], []), (20, [(some 14, 0), (none, 1)], [1])], (73, [(none, (-1)), (some 13, 0)], [1, 2]))
theorem pe73_2 {PT : PTy} (hp : HP2 PT) : PT 73 = P_by1 := hp.2.2.1
set_option maxRecDepth 20000 in
theorem v_byteAt1_0_0 {PT : PTy} (hp : HP2 PT) : vcOk PT w_byteAt1_0_0 := vc_in [(13, 0, 60), (14, 0, 49)] (by decide +kernel) (fun ρ α => by
  intro b13 b14 f0 f1 tt
  have e73 : PT 73 = P_by1 := pe73_2 hp
  simp only [hF3, hF20, hFp_73, e73, P_by1, den_s, den_c, Int.add_zero, List.map_cons, List.map_nil] at f0 f1 ⊢
  exact ⟨fun _ => by first | omega | trivial, fun _ => by first | omega | trivial⟩)
def w_byteAt1_0_1 : VC := ((bY ++ [(0, 48), (1, 49), (0, 255)]), [(20, [(some 15, 0), (some 13, 49)], [2]), (2, [(some 13, 0), (some 14, 0)], []), (20, [(some 14, 0), (none, 1)], [1])], (73, [(some 15, 0), (some 13, 0)], [1, 2]))
set_option maxRecDepth 20000 in
theorem v_byteAt1_0_1 {PT : PTy} (hp : HP2 PT) : vcOk PT w_byteAt1_0_1 := vc_in [(13, 0, 48), (14, 1, 49), (15, 0, 255)] (by decide +kernel) (fun ρ α => by
  intro b13 b14 b15 f0 f1 f2 tt
  have e73 : PT 73 = P_by1 := pe73_2 hp
  simp only [hF2, hF20, hFp_73, e73, P_by1, den_s, den_c, Int.add_zero, List.map_cons, List.map_nil] at f0 f1 f2 ⊢
  exact ⟨fun _ => by first | omega | trivial, fun _ => by first | omega | trivial⟩)
set_option maxRecDepth 1000000 in
theorem k_byteAt1 {PT : PTy} (hp : HP2 PT) : wfX c_byteAt1 = true ∧ xcOk PT c_byteAt1 := xctr (xl0) c_byteAt1 36 mX7_byteAt rfl h_byteAt1 (by decide +kernel) (by decide +kernel) (by decide) (vcs_by [w_byteAt1_0_0, w_byteAt1_0_1] (by decide +kernel) (vc (v_byteAt1_0_0 hp) (vc (v_byteAt1_0_1 hp) vn))) fmn
def c_rp0 : XC := (117, 2, (bY), [.inr (.inl 0), .inl (none, 0)], gY2, [(78, [], [1])], [((bY ++ [((-1), 26), (0, 8)]), some (.inl (some 13, 0)), (hst gY2 [(0, .inr (.inr (.inr (7, [.inr (.inl 1), .inr (.inl 2), .inl (some 14, 0), .inr (.inl 3), .inr (.inl 4), .inl (some 3, 0), .inr (.inl 5), .inr (.inl 6), .inr (.inl 7), .inr (.inl 8), .inl (some 4, 0), .inr (.inl 9), .inr (.inl 10), .inl (some 5, 0), .inr (.inl 11), .inr (.inl 12), .inr (.inl 13), .inl (some 6, 0), .inr (.inl 14), .inr (.inl 15), .inr (.inl 16), .inl (some 8, 0), .inl (some 9, 0), .inr (.inl 17), .inr (.inl 18), .inl (some 10, 0), .inl (some 11, 0), .inr (.inl 19), .inr (.inl 20), .inr (.inl 21), .inr (.inl 22), .inr (.inl 23), .inr (.inl 24), .inr (.inl 25), .inl (some 7, 0), .inr (.inl 26), .inr (.inl 27), .inr (.inl 28), .inr (.inl 29), .inr (.inl 30), .inr (.inl 31), .inr (.inl 32), .inr (.inl 33), .inr (.inl 34), .inl (some 12, 0)]))))]), (ansT 35 [(3, 35), (4, 36)]), 37, [(76, [(some 13, 0), (some 14, 0)], [1, 2, 35, 36])])])
def h_rp0 : List XH := [(48, (bY ++ [(0, 8), (0, 24), (0, 8)]), [some (.inr (.inl 0)), some (.inl (none, 0)), some (.inl (none, 2)), some (.inl (some 13, 0)), some (.inl (some 14, 0)), none], (hst gY2 [(0, .inr (.inr (.inr (7, [.inr (.inl 1), .inr (.inl 2), .inl (some 15, 0), .inr (.inl 3), .inr (.inl 4), .inl (some 3, 0), .inr (.inl 5), .inr (.inl 6), .inr (.inl 7), .inr (.inl 8), .inl (some 4, 0), .inr (.inl 9), .inr (.inl 10), .inl (some 5, 0), .inr (.inl 11), .inr (.inl 12), .inr (.inl 13), .inl (some 6, 0), .inr (.inl 14), .inr (.inl 15), .inr (.inl 16), .inl (some 8, 0), .inl (some 9, 0), .inr (.inl 17), .inr (.inl 18), .inl (some 10, 0), .inl (some 11, 0), .inr (.inl 19), .inr (.inl 20), .inr (.inl 21), .inr (.inl 22), .inr (.inl 23), .inr (.inl 24), .inr (.inl 25), .inl (some 7, 0), .inr (.inl 26), .inr (.inl 27), .inr (.inl 28), .inr (.inl 29), .inr (.inl 30), .inr (.inl 31), .inr (.inl 32), .inr (.inl 33), .inr (.inl 34), .inl (some 12, 0)]))))]), (ansT 35 [(3, 35), (4, 36)]), 37, [(74, [(some 14, 0), (some 13, 0), (some 15, 0)], [1, 2, 35, 36])], [(true, (none, 1)), (true, (some 14, 0))])]
def w_rp0_0_0 : VC := ((bY), [(1, [(none, 0), (none, 1)], []), (0, [(none, 0), (none, 0)], []), (0, [(none, 0), (none, 0)], []), (78, [], [1])], (74, [(none, 0), (none, 0), (none, 0)], [1, 2, 3, 4]))
theorem pe74_2 {PT : PTy} (hp : HP2 PT) : PT 74 = P_rpI := hp.2.2.2.1
theorem pe78_2 {PT : PTy} (hp : HP2 PT) : PT 78 = P_ly := hp.2.2.2.2.2.2.2.1
set_option maxRecDepth 20000 in
theorem v_rp0_0_0 {PT : PTy} (hp : HP2 PT) : vcOk PT w_rp0_0_0 := vc_in [] (by decide +kernel) (fun ρ α => by
  intro f0 f1 f2 f3 tt
  clear f0 f1 f2
  have e74 : PT 74 = P_rpI := pe74_2 hp
  have e78 : PT 78 = P_ly := pe78_2 hp
  simp only [hFp_74, hFp_78, e74, e78, P_rpI, P_ly, den_s, den_c, Int.add_zero, List.map_cons, List.map_nil] at f3 ⊢
  exact ⟨by omega, by omega, allG_z, tkP_z, rfl⟩)
def w_rp0_1_0 : VC := ((bY ++ [(8, 8), (0, 24), (0, 8), (1, 49), ((-1), 255), ((-1), 255)]), [(2, [(none, 0), (none, 2)], []), (0, [(some 13, 0), (none, 8)], []), (72, [(some 18, 0), (some 14, 1)], [1, 2]), (1, [(some 17, 0), (none, 97)], []), (1, [(some 17, 0), (none, 115)], []), (1, [(some 17, 0), (none, 109)], []), (72, [(some 17, 0), (some 14, 0)], [1, 2]), (0, [(none, 0), (none, 0)], []), (2, [(some 14, 0), (some 16, 0)], []), (20, [(some 16, 0), (none, 0)], [1]), (74, [(some 14, 0), (some 13, 0), (some 15, 0)], [1, 2, 35, 36]), (78, [], [1])], (76, [(some 14, 0), (some 15, 0)], [1, 2, 35, 36]))
theorem pe76_2 {PT : PTy} (hp : HP2 PT) : PT 76 = P_rdP := hp.2.2.2.2.2.1
set_option maxRecDepth 20000 in
theorem v_rp0_1_0 {PT : PTy} (hp : HP2 PT) : vcOk PT w_rp0_1_0 := vc_iv [(13, 8, 8), (14, 0, 24), (15, 0, 8), (16, 1, 49), (17, (-1), 255), (18, (-1), 255)] [1, 2, 35, 36] (by decide +kernel) (fun ρ α => by
  intro r13 g13 b13 r14 g14 b14 r15 g15 b15 r16 g16 b16 r17 g17 b17 r18 g18 b18 a1 h1 a2 h2 a35 h35 a36 h36 f0 f1 f2 f3 f4 f5 f6 f7 f8 f9 f10 f11 tt
  clear f0 f7
  have e72 : PT 72 = P_by0 := pe72_2 hp
  have e74 : PT 74 = P_rpI := pe74_2 hp
  have e76 : PT 76 = P_rdP := pe76_2 hp
  have e78 : PT 78 = P_ly := pe78_2 hp
  simp only [hF0, hF1, hF2, hF20, hFp_72, hFp_74, hFp_76, hFp_78, e72, e74, e76, e78, P_by0, P_rpI, P_rdP, P_ly, den_s, den_c, Int.add_zero, List.map_cons, List.map_nil, g13.eq, g14.eq, g15.eq, g16.eq, g17.eq, g18.eq, h1, h2, h35, h36] at f1 f2 f3 f4 f5 f6 f8 f9 f10 f11 ⊢
  subst f9
  obtain ⟨i1, i2, i3, i4, i5⟩ := f10
  by_cases h : r14 < a1 0
  · subst i1
    subst i5
    first
      | (exfalso; omega)
      | exact rdP_f (Or.inr (Or.inl ⟨by omega, by omega, allG_3 i3 (fun q => by unfold gP; omega) (fun q => by unfold gP; omega) (fun q => by unfold gP; omega) (by omega), by unfold gP; omega⟩)) (by omega) (by omega)
  · subst i1
    subst i5
    first
      | (exfalso; omega)
      | exact rdP_f (Or.inr (Or.inr ⟨by omega, allG_3 i3 (fun q => by unfold gP; omega) (fun q => by unfold gP; omega) (fun q => by unfold gP; omega) (by omega), by omega⟩)) (by omega) (by omega))
def w_rp0_1_1 : VC := ((bY ++ [(0, 7), (0, 24), (0, 8), (1, 49), ((-1), 255), ((-1), 255)]), [(2, [(none, 0), (none, 2)], []), (0, [(none, (-1)), (none, (-1))], []), (1, [(some 13, 0), (none, 8)], []), (72, [(some 18, 0), (some 14, 1)], [1, 2]), (1, [(some 17, 0), (none, 97)], []), (1, [(some 17, 0), (none, 115)], []), (1, [(some 17, 0), (none, 109)], []), (72, [(some 17, 0), (some 14, 0)], [1, 2]), (0, [(none, 0), (none, 0)], []), (2, [(some 14, 0), (some 16, 0)], []), (20, [(some 16, 0), (none, 0)], [1]), (74, [(some 14, 0), (some 13, 0), (some 15, 0)], [1, 2, 35, 36]), (78, [], [1])], (76, [(some 14, 0), (some 15, 0)], [1, 2, 35, 36]))
set_option maxRecDepth 20000 in
theorem v_rp0_1_1 {PT : PTy} (hp : HP2 PT) : vcOk PT w_rp0_1_1 := vc_iv [(13, 0, 7), (14, 0, 24), (15, 0, 8), (16, 1, 49), (17, (-1), 255), (18, (-1), 255)] [1, 2, 35, 36] (by decide +kernel) (fun ρ α => by
  intro r13 g13 b13 r14 g14 b14 r15 g15 b15 r16 g16 b16 r17 g17 b17 r18 g18 b18 a1 h1 a2 h2 a35 h35 a36 h36 f0 f1 f2 f3 f4 f5 f6 f7 f8 f9 f10 f11 f12 tt
  clear f0 f1 f2 f8
  have e72 : PT 72 = P_by0 := pe72_2 hp
  have e74 : PT 74 = P_rpI := pe74_2 hp
  have e76 : PT 76 = P_rdP := pe76_2 hp
  have e78 : PT 78 = P_ly := pe78_2 hp
  simp only [hF1, hF2, hF20, hFp_72, hFp_74, hFp_76, hFp_78, e72, e74, e76, e78, P_by0, P_rpI, P_rdP, P_ly, den_s, den_c, Int.add_zero, List.map_cons, List.map_nil, g13.eq, g14.eq, g15.eq, g16.eq, g17.eq, g18.eq, h1, h2, h35, h36] at f3 f4 f5 f6 f7 f9 f10 f11 f12 ⊢
  subst f10
  obtain ⟨i1, i2, i3, i4, i5⟩ := f11
  by_cases h : r14 < a1 0
  · subst i1
    subst i5
    first
      | (exfalso; omega)
      | exact rdP_f (Or.inr (Or.inl ⟨by omega, by omega, allG_3 i3 (fun q => by unfold gP; omega) (fun q => by unfold gP; omega) (fun q => by unfold gP; omega) (by omega), by unfold gP; omega⟩)) (by omega) (by omega)
  · subst i1
    subst i5
    first
      | (exfalso; omega)
      | exact rdP_f (Or.inr (Or.inr ⟨by omega, allG_3 i3 (fun q => by unfold gP; omega) (fun q => by unfold gP; omega) (fun q => by unfold gP; omega) (by omega), by omega⟩)) (by omega) (by omega))
def w_rp0_1_2 : VC := ((bY ++ [(8, 8), (0, 24), (0, 8), (1, 49), (97, 97), ((-1), 255)]), [(2, [(none, 0), (none, 2)], []), (0, [(some 13, 0), (none, 8)], []), (72, [(some 18, 0), (some 14, 1)], [1, 2]), (0, [(some 17, 0), (none, 97)], []), (1, [(some 17, 0), (none, 115)], []), (1, [(some 17, 0), (none, 109)], []), (72, [(some 17, 0), (some 14, 0)], [1, 2]), (0, [(none, 0), (none, 0)], []), (2, [(some 14, 0), (some 16, 0)], []), (20, [(some 16, 0), (none, 0)], [1]), (74, [(some 14, 0), (some 13, 0), (some 15, 0)], [1, 2, 35, 36]), (78, [], [1])], (76, [(some 14, 0), (some 15, 0)], [1, 2, 35, 36]))
set_option maxRecDepth 20000 in
theorem v_rp0_1_2 {PT : PTy} (hp : HP2 PT) : vcOk PT w_rp0_1_2 := vc_iv [(13, 8, 8), (14, 0, 24), (15, 0, 8), (16, 1, 49), (17, 97, 97), (18, (-1), 255)] [1, 2, 35, 36] (by decide +kernel) (fun ρ α => by
  intro r13 g13 b13 r14 g14 b14 r15 g15 b15 r16 g16 b16 r17 g17 b17 r18 g18 b18 a1 h1 a2 h2 a35 h35 a36 h36 f0 f1 f2 f3 f4 f5 f6 f7 f8 f9 f10 f11 tt
  clear f0 f4 f5 f7
  have e72 : PT 72 = P_by0 := pe72_2 hp
  have e74 : PT 74 = P_rpI := pe74_2 hp
  have e76 : PT 76 = P_rdP := pe76_2 hp
  have e78 : PT 78 = P_ly := pe78_2 hp
  simp only [hF0, hF2, hF20, hFp_72, hFp_74, hFp_76, hFp_78, e72, e74, e76, e78, P_by0, P_rpI, P_rdP, P_ly, den_s, den_c, Int.add_zero, List.map_cons, List.map_nil, g13.eq, g14.eq, g15.eq, g16.eq, g17.eq, g18.eq, h1, h2, h35, h36] at f1 f2 f3 f6 f8 f9 f10 f11 ⊢
  subst f9
  obtain ⟨i1, i2, i3, i4, i5⟩ := f10
  by_cases h : r14 < a1 0
  · subst i1
    subst i5
    first
      | (exfalso; omega)
      | exact rdP_f (Or.inr (Or.inl ⟨by omega, by omega, allG_3 i3 (fun q => by unfold gP; omega) (fun q => by unfold gP; omega) (fun q => by unfold gP; omega) (by omega), by unfold gP; omega⟩)) (by omega) (by omega)
  · subst i1
    subst i5
    first
      | (exfalso; omega)
      | exact rdP_f (Or.inr (Or.inr ⟨by omega, allG_3 i3 (fun q => by unfold gP; omega) (fun q => by unfold gP; omega) (fun q => by unfold gP; omega) (by omega), by omega⟩)) (by omega) (by omega))
def w_rp0_1_3 : VC := ((bY ++ [(0, 7), (0, 24), (0, 8), (1, 49), (97, 97), ((-1), 47)]), [(2, [(none, 1), (none, 2)], []), (0, [(none, 0), (none, 0)], []), (2, [(some 18, 0), (none, 48)], []), (1, [(none, 2), (none, (-1))], []), (1, [(some 13, 0), (none, 8)], []), (72, [(some 18, 0), (some 14, 1)], [1, 2]), (0, [(some 17, 0), (none, 97)], []), (1, [(some 17, 0), (none, 115)], []), (1, [(some 17, 0), (none, 109)], []), (72, [(some 17, 0), (some 14, 0)], [1, 2]), (0, [(none, 0), (none, 0)], []), (2, [(some 14, 0), (some 16, 0)], []), (20, [(some 16, 0), (none, 0)], [1]), (74, [(some 14, 0), (some 13, 0), (some 15, 0)], [1, 2, 35, 36]), (78, [], [1])], (76, [(some 14, 1), (some 15, 0)], [1, 2, 35, 36]))
set_option maxRecDepth 20000 in
theorem v_rp0_1_3 {PT : PTy} (hp : HP2 PT) : vcOk PT w_rp0_1_3 := vc_iv [(13, 0, 7), (14, 0, 24), (15, 0, 8), (16, 1, 49), (17, 97, 97), (18, (-1), 47)] [1, 2, 35, 36] (by decide +kernel) (fun ρ α => by
  intro r13 g13 b13 r14 g14 b14 r15 g15 b15 r16 g16 b16 r17 g17 b17 r18 g18 b18 a1 h1 a2 h2 a35 h35 a36 h36 f0 f1 f2 f3 f4 f5 f6 f7 f8 f9 f10 f11 f12 f13 f14 tt
  clear f0 f1 f2 f3 f4 f7 f8 f10
  have e72 : PT 72 = P_by0 := pe72_2 hp
  have e74 : PT 74 = P_rpI := pe74_2 hp
  have e76 : PT 76 = P_rdP := pe76_2 hp
  have e78 : PT 78 = P_ly := pe78_2 hp
  simp only [hF0, hF2, hF20, hFp_72, hFp_74, hFp_76, hFp_78, e72, e74, e76, e78, P_by0, P_rpI, P_rdP, P_ly, den_s, den_c, Int.add_zero, List.map_cons, List.map_nil, g13.eq, g14.eq, g15.eq, g16.eq, g17.eq, g18.eq, h1, h2, h35, h36] at f5 f6 f9 f11 f12 f13 f14 ⊢
  subst f12
  obtain ⟨i1, i2, i3, i4, i5⟩ := f13
  by_cases h : (r14 + 1) < a1 0
  · subst i1
    subst i5
    first
      | (exfalso; omega)
      | exact rdP_f (Or.inr (Or.inl ⟨by omega, by omega, allG_3 i3 (fun q => by unfold gP; omega) (fun q => by unfold gP; omega) (fun q => by unfold gP; omega) (by omega), by unfold gP; omega⟩)) (by omega) (by omega)
  · subst i1
    subst i5
    first
      | (exfalso; omega)
      | exact rdP_f (Or.inr (Or.inr ⟨by omega, allG_3 i3 (fun q => by unfold gP; omega) (fun q => by unfold gP; omega) (fun q => by unfold gP; omega) (by omega), by omega⟩)) (by omega) (by omega))
def w_rp0_1_4 : VC := ((bY ++ [(0, 7), (0, 24), (0, 8), (1, 49), (97, 97), (58, 255)]), [(2, [(none, 1), (none, 2)], []), (0, [(none, 0), (none, 0)], []), (2, [(none, 57), (some 18, 0)], []), (3, [(some 18, 0), (none, 48)], []), (1, [(none, 2), (none, (-1))], []), (1, [(some 13, 0), (none, 8)], []), (72, [(some 18, 0), (some 14, 1)], [1, 2]), (0, [(some 17, 0), (none, 97)], []), (1, [(some 17, 0), (none, 115)], []), (1, [(some 17, 0), (none, 109)], []), (72, [(some 17, 0), (some 14, 0)], [1, 2]), (0, [(none, 0), (none, 0)], []), (2, [(some 14, 0), (some 16, 0)], []), (20, [(some 16, 0), (none, 0)], [1]), (74, [(some 14, 0), (some 13, 0), (some 15, 0)], [1, 2, 35, 36]), (78, [], [1])], (76, [(some 14, 1), (some 15, 0)], [1, 2, 35, 36]))
set_option maxRecDepth 20000 in
theorem v_rp0_1_4 {PT : PTy} (hp : HP2 PT) : vcOk PT w_rp0_1_4 := vc_iv [(13, 0, 7), (14, 0, 24), (15, 0, 8), (16, 1, 49), (17, 97, 97), (18, 58, 255)] [1, 2, 35, 36] (by decide +kernel) (fun ρ α => by
  intro r13 g13 b13 r14 g14 b14 r15 g15 b15 r16 g16 b16 r17 g17 b17 r18 g18 b18 a1 h1 a2 h2 a35 h35 a36 h36 f0 f1 f2 f3 f4 f5 f6 f7 f8 f9 f10 f11 f12 f13 f14 f15 tt
  clear f0 f1 f2 f3 f4 f5 f8 f9 f11
  have e72 : PT 72 = P_by0 := pe72_2 hp
  have e74 : PT 74 = P_rpI := pe74_2 hp
  have e76 : PT 76 = P_rdP := pe76_2 hp
  have e78 : PT 78 = P_ly := pe78_2 hp
  simp only [hF0, hF2, hF20, hFp_72, hFp_74, hFp_76, hFp_78, e72, e74, e76, e78, P_by0, P_rpI, P_rdP, P_ly, den_s, den_c, Int.add_zero, List.map_cons, List.map_nil, g13.eq, g14.eq, g15.eq, g16.eq, g17.eq, g18.eq, h1, h2, h35, h36] at f6 f7 f10 f12 f13 f14 f15 ⊢
  subst f13
  obtain ⟨i1, i2, i3, i4, i5⟩ := f14
  by_cases h : (r14 + 1) < a1 0
  · subst i1
    subst i5
    first
      | (exfalso; omega)
      | exact rdP_f (Or.inr (Or.inl ⟨by omega, by omega, allG_3 i3 (fun q => by unfold gP; omega) (fun q => by unfold gP; omega) (fun q => by unfold gP; omega) (by omega), by unfold gP; omega⟩)) (by omega) (by omega)
  · subst i1
    subst i5
    first
      | (exfalso; omega)
      | exact rdP_f (Or.inr (Or.inr ⟨by omega, allG_3 i3 (fun q => by unfold gP; omega) (fun q => by unfold gP; omega) (fun q => by unfold gP; omega) (by omega), by omega⟩)) (by omega) (by omega))
def w_rp0_1_5 : VC := ((bY ++ [(0, 7), (0, 24), (0, 8), (1, 49), (97, 97), (48, 57), (0, 49), (59, 59)]), [(0, [(some 20, 0), (none, 59)], []), (72, [(some 20, 0), (some 14, 2)], [1, 2]), (1, [(some 14, 2), (some 19, 0)], []), (20, [(some 19, 0), (none, 0)], [1]), (3, [(none, 2), (none, 2)], []), (21, [(some 13, 0), (some 18, (-48))], [38, 36]), (21, [(some 13, 0), (none, 2)], [37, 35]), (1, [(none, 1), (none, 0)], []), (3, [(none, 57), (some 18, 0)], []), (3, [(some 18, 0), (none, 48)], []), (1, [(none, 2), (none, (-1))], []), (1, [(some 13, 0), (none, 8)], []), (72, [(some 18, 0), (some 14, 1)], [1, 2]), (0, [(some 17, 0), (none, 97)], []), (1, [(some 17, 0), (none, 115)], []), (1, [(some 17, 0), (none, 109)], []), (72, [(some 17, 0), (some 14, 0)], [1, 2]), (0, [(none, 0), (none, 0)], []), (2, [(some 14, 0), (some 16, 0)], []), (20, [(some 16, 0), (none, 0)], [1]), (74, [(some 14, 0), (some 13, 0), (some 15, 0)], [1, 2, 35, 36]), (78, [], [1])], (3, [(some 14, 3), (none, 0)], []))
set_option maxRecDepth 20000 in
theorem v_rp0_1_5 {PT : PTy} (hp : HP2 PT) : vcOk PT w_rp0_1_5 := vc_iv [(13, 0, 7), (14, 0, 24), (15, 0, 8), (16, 1, 49), (17, 97, 97), (18, 48, 57), (19, 0, 49), (20, 59, 59)] [1, 2, 35, 36, 37, 38] (by decide +kernel) (fun ρ α => by
  intro r13 g13 b13 r14 g14 b14 r15 g15 b15 r16 g16 b16 r17 g17 b17 r18 g18 b18 r19 g19 b19 r20 g20 b20 a1 h1 a2 h2 a35 h35 a36 h36 a37 h37 a38 h38 f0 f1 f2 f3 f4 f5 f6 f7 f8 f9 f10 f11 f12 f13 f14 f15 f16 f17 f18 f19 f20 f21 tt
  clear f4 f7 f8 f9 f10 f11 f14 f15 f17
  have e72 : PT 72 = P_by0 := pe72_2 hp
  have e74 : PT 74 = P_rpI := pe74_2 hp
  have e78 : PT 78 = P_ly := pe78_2 hp
  simp only [hF0, hF1, hF2, hF3, hF20, hF21, hFp_72, hFp_74, hFp_78, e72, e74, e78, P_by0, P_rpI, P_ly, den_s, den_c, Int.add_zero, List.map_cons, List.map_nil, g13.eq, g14.eq, g15.eq, g16.eq, g17.eq, g18.eq, g19.eq, g20.eq, h1, h2, h35, h36, h37, h38] at f0 f1 f2 f3 f5 f6 f12 f13 f16 f18 f19 f20 f21 ⊢
  subst f3
  subst f5
  subst f6
  subst f19
  obtain ⟨i1, i2, i3, i4, i5⟩ := f20
  omega)
def w_rp0_1_6 : VC := ((bY ++ [(0, 7), (0, 24), (0, 8), (1, 49), (97, 97), (48, 57), (0, 49), (59, 59)]), [(0, [(some 20, 0), (none, 59)], []), (72, [(some 20, 0), (some 14, 2)], [1, 2]), (1, [(some 14, 2), (some 19, 0)], []), (20, [(some 19, 0), (none, 0)], [1]), (3, [(none, 2), (none, 2)], []), (21, [(some 13, 0), (some 18, (-48))], [38, 36]), (21, [(some 13, 0), (none, 2)], [37, 35]), (1, [(none, 1), (none, 0)], []), (3, [(none, 57), (some 18, 0)], []), (3, [(some 18, 0), (none, 48)], []), (1, [(none, 2), (none, (-1))], []), (1, [(some 13, 0), (none, 8)], []), (72, [(some 18, 0), (some 14, 1)], [1, 2]), (0, [(some 17, 0), (none, 97)], []), (1, [(some 17, 0), (none, 115)], []), (1, [(some 17, 0), (none, 109)], []), (72, [(some 17, 0), (some 14, 0)], [1, 2]), (0, [(none, 0), (none, 0)], []), (2, [(some 14, 0), (some 16, 0)], []), (20, [(some 16, 0), (none, 0)], [1]), (74, [(some 14, 0), (some 13, 0), (some 15, 0)], [1, 2, 35, 36]), (78, [], [1])], (3, [(none, 24), (some 14, 3)], []))
set_option maxRecDepth 20000 in
theorem v_rp0_1_6 {PT : PTy} (hp : HP2 PT) : vcOk PT w_rp0_1_6 := vc_iv [(13, 0, 7), (14, 0, 24), (15, 0, 8), (16, 1, 49), (17, 97, 97), (18, 48, 57), (19, 0, 49), (20, 59, 59)] [1, 2, 35, 36, 37, 38] (by decide +kernel) (fun ρ α => by
  intro r13 g13 b13 r14 g14 b14 r15 g15 b15 r16 g16 b16 r17 g17 b17 r18 g18 b18 r19 g19 b19 r20 g20 b20 a1 h1 a2 h2 a35 h35 a36 h36 a37 h37 a38 h38 f0 f1 f2 f3 f4 f5 f6 f7 f8 f9 f10 f11 f12 f13 f14 f15 f16 f17 f18 f19 f20 f21 tt
  clear f4 f7 f8 f9 f10 f11 f14 f15 f17
  have e72 : PT 72 = P_by0 := pe72_2 hp
  have e74 : PT 74 = P_rpI := pe74_2 hp
  have e78 : PT 78 = P_ly := pe78_2 hp
  simp only [hF0, hF1, hF2, hF3, hF20, hF21, hFp_72, hFp_74, hFp_78, e72, e74, e78, P_by0, P_rpI, P_ly, den_s, den_c, Int.add_zero, List.map_cons, List.map_nil, g13.eq, g14.eq, g15.eq, g16.eq, g17.eq, g18.eq, g19.eq, g20.eq, h1, h2, h35, h36, h37, h38] at f0 f1 f2 f3 f5 f6 f12 f13 f16 f18 f19 f20 f21 ⊢
  subst f3
  subst f5
  subst f6
  subst f19
  obtain ⟨i1, i2, i3, i4, i5⟩ := f20
  omega)
def w_rp0_1_7 : VC := ((bY ++ [(0, 7), (0, 24), (0, 8), (1, 49), (97, 97), (48, 57), (0, 49), (59, 59)]), [(0, [(some 20, 0), (none, 59)], []), (72, [(some 20, 0), (some 14, 2)], [1, 2]), (1, [(some 14, 2), (some 19, 0)], []), (20, [(some 19, 0), (none, 0)], [1]), (3, [(none, 2), (none, 2)], []), (21, [(some 13, 0), (some 18, (-48))], [38, 36]), (21, [(some 13, 0), (none, 2)], [37, 35]), (1, [(none, 1), (none, 0)], []), (3, [(none, 57), (some 18, 0)], []), (3, [(some 18, 0), (none, 48)], []), (1, [(none, 2), (none, (-1))], []), (1, [(some 13, 0), (none, 8)], []), (72, [(some 18, 0), (some 14, 1)], [1, 2]), (0, [(some 17, 0), (none, 97)], []), (1, [(some 17, 0), (none, 115)], []), (1, [(some 17, 0), (none, 109)], []), (72, [(some 17, 0), (some 14, 0)], [1, 2]), (0, [(none, 0), (none, 0)], []), (2, [(some 14, 0), (some 16, 0)], []), (20, [(some 16, 0), (none, 0)], [1]), (74, [(some 14, 0), (some 13, 0), (some 15, 0)], [1, 2, 35, 36]), (78, [], [1])], (74, [(some 14, 3), (some 13, 1), (some 15, 0)], [1, 2, 37, 38]))
set_option maxRecDepth 20000 in
theorem v_rp0_1_7 {PT : PTy} (hp : HP2 PT) : vcOk PT w_rp0_1_7 := vc_iv [(13, 0, 7), (14, 0, 24), (15, 0, 8), (16, 1, 49), (17, 97, 97), (18, 48, 57), (19, 0, 49), (20, 59, 59)] [1, 2, 35, 36, 37, 38] (by decide +kernel) (fun ρ α => by
  intro r13 g13 b13 r14 g14 b14 r15 g15 b15 r16 g16 b16 r17 g17 b17 r18 g18 b18 r19 g19 b19 r20 g20 b20 a1 h1 a2 h2 a35 h35 a36 h36 a37 h37 a38 h38 f0 f1 f2 f3 f4 f5 f6 f7 f8 f9 f10 f11 f12 f13 f14 f15 f16 f17 f18 f19 f20 f21 tt
  clear f4 f7 f8 f9 f10 f11 f14 f15 f17
  have e72 : PT 72 = P_by0 := pe72_2 hp
  have e74 : PT 74 = P_rpI := pe74_2 hp
  have e78 : PT 78 = P_ly := pe78_2 hp
  simp only [hF0, hF1, hF2, hF20, hF21, hFp_72, hFp_74, hFp_78, e72, e74, e78, P_by0, P_rpI, P_ly, den_s, den_c, Int.add_zero, List.map_cons, List.map_nil, g13.eq, g14.eq, g15.eq, g16.eq, g17.eq, g18.eq, g19.eq, g20.eq, h1, h2, h35, h36, h37, h38] at f0 f1 f2 f3 f5 f6 f12 f13 f16 f18 f19 f20 f21 ⊢
  subst f3
  subst f5
  subst f6
  subst f19
  obtain ⟨i1, i2, i3, i4, i5⟩ := f20
  subst i1
  subst i5
  first
    | exact ⟨by omega, by omega, allG_3 i3 (fun q => by unfold gP; omega) (fun q => by unfold gP; omega) (fun q => by unfold gP; omega) (by omega), tkP_s i4 (by unfold soP; repeat' split; all_goals omega) (by omega), rfl⟩
    | (exfalso; omega))
def w_rp0_1_8 : VC := ((bY ++ [(0, 7), (0, 24), (0, 8), (1, 49), (97, 97), (48, 57), (0, 49), ((-1), 255)]), [(1, [(some 20, 0), (none, 59)], []), (72, [(some 20, 0), (some 14, 2)], [1, 2]), (1, [(some 14, 2), (some 19, 0)], []), (20, [(some 19, 0), (none, 0)], [1]), (3, [(none, 2), (none, 2)], []), (21, [(some 13, 0), (some 18, (-48))], [38, 36]), (21, [(some 13, 0), (none, 2)], [37, 35]), (1, [(none, 1), (none, 0)], []), (3, [(none, 57), (some 18, 0)], []), (3, [(some 18, 0), (none, 48)], []), (1, [(none, 2), (none, (-1))], []), (1, [(some 13, 0), (none, 8)], []), (72, [(some 18, 0), (some 14, 1)], [1, 2]), (0, [(some 17, 0), (none, 97)], []), (1, [(some 17, 0), (none, 115)], []), (1, [(some 17, 0), (none, 109)], []), (72, [(some 17, 0), (some 14, 0)], [1, 2]), (0, [(none, 0), (none, 0)], []), (2, [(some 14, 0), (some 16, 0)], []), (20, [(some 16, 0), (none, 0)], [1]), (74, [(some 14, 0), (some 13, 0), (some 15, 0)], [1, 2, 35, 36]), (78, [], [1])], (76, [(some 14, 2), (some 15, 0)], [1, 2, 37, 38]))
set_option maxRecDepth 20000 in
theorem v_rp0_1_8 {PT : PTy} (hp : HP2 PT) : vcOk PT w_rp0_1_8 := vc_iv [(13, 0, 7), (14, 0, 24), (15, 0, 8), (16, 1, 49), (17, 97, 97), (18, 48, 57), (19, 0, 49), (20, (-1), 255)] [1, 2, 35, 36, 37, 38] (by decide +kernel) (fun ρ α => by
  intro r13 g13 b13 r14 g14 b14 r15 g15 b15 r16 g16 b16 r17 g17 b17 r18 g18 b18 r19 g19 b19 r20 g20 b20 a1 h1 a2 h2 a35 h35 a36 h36 a37 h37 a38 h38 f0 f1 f2 f3 f4 f5 f6 f7 f8 f9 f10 f11 f12 f13 f14 f15 f16 f17 f18 f19 f20 f21 tt
  clear f4 f7 f8 f9 f10 f11 f14 f15 f17
  have e72 : PT 72 = P_by0 := pe72_2 hp
  have e74 : PT 74 = P_rpI := pe74_2 hp
  have e76 : PT 76 = P_rdP := pe76_2 hp
  have e78 : PT 78 = P_ly := pe78_2 hp
  simp only [hF0, hF1, hF2, hF20, hF21, hFp_72, hFp_74, hFp_76, hFp_78, e72, e74, e76, e78, P_by0, P_rpI, P_rdP, P_ly, den_s, den_c, Int.add_zero, List.map_cons, List.map_nil, g13.eq, g14.eq, g15.eq, g16.eq, g17.eq, g18.eq, g19.eq, g20.eq, h1, h2, h35, h36, h37, h38] at f0 f1 f2 f3 f5 f6 f12 f13 f16 f18 f19 f20 f21 ⊢
  subst f3
  subst f5
  subst f6
  subst f19
  obtain ⟨i1, i2, i3, i4, i5⟩ := f20
  by_cases h : (r14 + 2) < a1 0
  · subst i1
    subst i5
    first
      | (exfalso; omega)
      | exact rdP_f (Or.inr (Or.inl ⟨by omega, by omega, allG_3 i3 (fun q => by unfold gP; omega) (fun q => by unfold gP; omega) (fun q => by unfold gP; omega) (by omega), by unfold gP; omega⟩)) (by omega) (by omega)
  · subst i1
    subst i5
    first
      | (exfalso; omega)
      | exact rdP_f (Or.inr (Or.inr ⟨by omega, allG_3 i3 (fun q => by unfold gP; omega) (fun q => by unfold gP; omega) (fun q => by unfold gP; omega) (by omega), by omega⟩)) (by omega) (by omega))
def w_rp0_1_9 : VC := ((bY ++ [(0, 7), (0, 24), (0, 8), (1, 49), (97, 97), (48, 57), (2, 26)]), [(1, [(none, 0), (none, 1)], []), (0, [(none, 0), (none, 0)], []), (0, [(some 14, 2), (some 19, 0)], []), (20, [(some 19, 0), (none, 0)], [1]), (3, [(none, 2), (none, 2)], []), (21, [(some 13, 0), (some 18, (-48))], [38, 36]), (21, [(some 13, 0), (none, 2)], [37, 35]), (1, [(none, 1), (none, 0)], []), (3, [(none, 57), (some 18, 0)], []), (3, [(some 18, 0), (none, 48)], []), (1, [(none, 2), (none, (-1))], []), (1, [(some 13, 0), (none, 8)], []), (72, [(some 18, 0), (some 14, 1)], [1, 2]), (0, [(some 17, 0), (none, 97)], []), (1, [(some 17, 0), (none, 115)], []), (1, [(some 17, 0), (none, 109)], []), (72, [(some 17, 0), (some 14, 0)], [1, 2]), (0, [(none, 0), (none, 0)], []), (2, [(some 14, 0), (some 16, 0)], []), (20, [(some 16, 0), (none, 0)], [1]), (74, [(some 14, 0), (some 13, 0), (some 15, 0)], [1, 2, 35, 36]), (78, [], [1])], (76, [(none, (-1)), (some 13, 1)], [1, 2, 37, 38]))
set_option maxRecDepth 20000 in
theorem v_rp0_1_9 {PT : PTy} (hp : HP2 PT) : vcOk PT w_rp0_1_9 := vc_iv [(13, 0, 7), (14, 0, 24), (15, 0, 8), (16, 1, 49), (17, 97, 97), (18, 48, 57), (19, 2, 26)] [1, 2, 35, 36, 37, 38] (by decide +kernel) (fun ρ α => by
  intro r13 g13 b13 r14 g14 b14 r15 g15 b15 r16 g16 b16 r17 g17 b17 r18 g18 b18 r19 g19 b19 a1 h1 a2 h2 a35 h35 a36 h36 a37 h37 a38 h38 f0 f1 f2 f3 f4 f5 f6 f7 f8 f9 f10 f11 f12 f13 f14 f15 f16 f17 f18 f19 f20 f21 tt
  clear f0 f1 f4 f7 f8 f9 f10 f11 f14 f15 f17
  have e72 : PT 72 = P_by0 := pe72_2 hp
  have e74 : PT 74 = P_rpI := pe74_2 hp
  have e76 : PT 76 = P_rdP := pe76_2 hp
  have e78 : PT 78 = P_ly := pe78_2 hp
  simp only [hF0, hF2, hF20, hF21, hFp_72, hFp_74, hFp_76, hFp_78, e72, e74, e76, e78, P_by0, P_rpI, P_rdP, P_ly, den_s, den_c, Int.add_zero, List.map_cons, List.map_nil, g13.eq, g14.eq, g15.eq, g16.eq, g17.eq, g18.eq, g19.eq, h1, h2, h35, h36, h37, h38] at f2 f3 f5 f6 f12 f13 f16 f18 f19 f20 f21 ⊢
  subst f3
  subst f5
  subst f6
  subst f19
  obtain ⟨i1, i2, i3, i4, i5⟩ := f20
  subst i1
  subst i5
  first
    | exact rdP_w ⟨allG_3 i3 (fun q => by unfold gP; omega) (fun q => by unfold gP; omega) (fun q => by unfold gP; omega) (by omega), by omega⟩ (by omega) (tkP_s i4 (by unfold soP; repeat' split; all_goals omega) (by omega))
    | exact rdP_w ⟨allG_3 i3 (fun q => by unfold gP; omega) (fun q => by unfold gP; omega) (fun q => by unfold gP; omega) (by omega), by omega⟩ (by omega) (fun j h1 h2 => by omega)
    | (exfalso; omega))
def w_rp0_1_10 : VC := ((bY ++ [(8, 8), (0, 24), (0, 8), (1, 49), (115, 115), ((-1), 255)]), [(2, [(none, 0), (none, 2)], []), (0, [(some 13, 0), (none, 8)], []), (72, [(some 18, 0), (some 14, 1)], [1, 2]), (0, [(some 17, 0), (none, 115)], []), (1, [(some 17, 0), (none, 109)], []), (72, [(some 17, 0), (some 14, 0)], [1, 2]), (0, [(none, 0), (none, 0)], []), (2, [(some 14, 0), (some 16, 0)], []), (20, [(some 16, 0), (none, 0)], [1]), (74, [(some 14, 0), (some 13, 0), (some 15, 0)], [1, 2, 35, 36]), (78, [], [1])], (76, [(some 14, 0), (some 15, 0)], [1, 2, 35, 36]))
set_option maxRecDepth 20000 in
theorem v_rp0_1_10 {PT : PTy} (hp : HP2 PT) : vcOk PT w_rp0_1_10 := vc_iv [(13, 8, 8), (14, 0, 24), (15, 0, 8), (16, 1, 49), (17, 115, 115), (18, (-1), 255)] [1, 2, 35, 36] (by decide +kernel) (fun ρ α => by
  intro r13 g13 b13 r14 g14 b14 r15 g15 b15 r16 g16 b16 r17 g17 b17 r18 g18 b18 a1 h1 a2 h2 a35 h35 a36 h36 f0 f1 f2 f3 f4 f5 f6 f7 f8 f9 f10 tt
  clear f0 f4 f6
  have e72 : PT 72 = P_by0 := pe72_2 hp
  have e74 : PT 74 = P_rpI := pe74_2 hp
  have e76 : PT 76 = P_rdP := pe76_2 hp
  have e78 : PT 78 = P_ly := pe78_2 hp
  simp only [hF0, hF2, hF20, hFp_72, hFp_74, hFp_76, hFp_78, e72, e74, e76, e78, P_by0, P_rpI, P_rdP, P_ly, den_s, den_c, Int.add_zero, List.map_cons, List.map_nil, g13.eq, g14.eq, g15.eq, g16.eq, g17.eq, g18.eq, h1, h2, h35, h36] at f1 f2 f3 f5 f7 f8 f9 f10 ⊢
  subst f8
  obtain ⟨i1, i2, i3, i4, i5⟩ := f9
  by_cases h : r14 < a1 0
  · subst i1
    subst i5
    first
      | (exfalso; omega)
      | exact rdP_f (Or.inr (Or.inl ⟨by omega, by omega, allG_3 i3 (fun q => by unfold gP; omega) (fun q => by unfold gP; omega) (fun q => by unfold gP; omega) (by omega), by unfold gP; omega⟩)) (by omega) (by omega)
  · subst i1
    subst i5
    first
      | (exfalso; omega)
      | exact rdP_f (Or.inr (Or.inr ⟨by omega, allG_3 i3 (fun q => by unfold gP; omega) (fun q => by unfold gP; omega) (fun q => by unfold gP; omega) (by omega), by omega⟩)) (by omega) (by omega))
def w_rp0_1_11 : VC := ((bY ++ [(0, 7), (0, 24), (0, 8), (1, 49), (115, 115), ((-1), 47)]), [(2, [(none, 1), (none, 2)], []), (0, [(none, 0), (none, 0)], []), (2, [(some 18, 0), (none, 48)], []), (1, [(none, 1), (none, (-1))], []), (1, [(some 13, 0), (none, 8)], []), (72, [(some 18, 0), (some 14, 1)], [1, 2]), (0, [(some 17, 0), (none, 115)], []), (1, [(some 17, 0), (none, 109)], []), (72, [(some 17, 0), (some 14, 0)], [1, 2]), (0, [(none, 0), (none, 0)], []), (2, [(some 14, 0), (some 16, 0)], []), (20, [(some 16, 0), (none, 0)], [1]), (74, [(some 14, 0), (some 13, 0), (some 15, 0)], [1, 2, 35, 36]), (78, [], [1])], (76, [(some 14, 1), (some 15, 0)], [1, 2, 35, 36]))
set_option maxRecDepth 20000 in
theorem v_rp0_1_11 {PT : PTy} (hp : HP2 PT) : vcOk PT w_rp0_1_11 := vc_iv [(13, 0, 7), (14, 0, 24), (15, 0, 8), (16, 1, 49), (17, 115, 115), (18, (-1), 47)] [1, 2, 35, 36] (by decide +kernel) (fun ρ α => by
  intro r13 g13 b13 r14 g14 b14 r15 g15 b15 r16 g16 b16 r17 g17 b17 r18 g18 b18 a1 h1 a2 h2 a35 h35 a36 h36 f0 f1 f2 f3 f4 f5 f6 f7 f8 f9 f10 f11 f12 f13 tt
  clear f0 f1 f2 f3 f4 f7 f9
  have e72 : PT 72 = P_by0 := pe72_2 hp
  have e74 : PT 74 = P_rpI := pe74_2 hp
  have e76 : PT 76 = P_rdP := pe76_2 hp
  have e78 : PT 78 = P_ly := pe78_2 hp
  simp only [hF0, hF2, hF20, hFp_72, hFp_74, hFp_76, hFp_78, e72, e74, e76, e78, P_by0, P_rpI, P_rdP, P_ly, den_s, den_c, Int.add_zero, List.map_cons, List.map_nil, g13.eq, g14.eq, g15.eq, g16.eq, g17.eq, g18.eq, h1, h2, h35, h36] at f5 f6 f8 f10 f11 f12 f13 ⊢
  subst f11
  obtain ⟨i1, i2, i3, i4, i5⟩ := f12
  by_cases h : (r14 + 1) < a1 0
  · subst i1
    subst i5
    first
      | (exfalso; omega)
      | exact rdP_f (Or.inr (Or.inl ⟨by omega, by omega, allG_3 i3 (fun q => by unfold gP; omega) (fun q => by unfold gP; omega) (fun q => by unfold gP; omega) (by omega), by unfold gP; omega⟩)) (by omega) (by omega)
  · subst i1
    subst i5
    first
      | (exfalso; omega)
      | exact rdP_f (Or.inr (Or.inr ⟨by omega, allG_3 i3 (fun q => by unfold gP; omega) (fun q => by unfold gP; omega) (fun q => by unfold gP; omega) (by omega), by omega⟩)) (by omega) (by omega))
def w_rp0_1_12 : VC := ((bY ++ [(0, 7), (0, 24), (0, 8), (1, 49), (115, 115), (58, 255)]), [(2, [(none, 1), (none, 2)], []), (0, [(none, 0), (none, 0)], []), (2, [(none, 57), (some 18, 0)], []), (3, [(some 18, 0), (none, 48)], []), (1, [(none, 1), (none, (-1))], []), (1, [(some 13, 0), (none, 8)], []), (72, [(some 18, 0), (some 14, 1)], [1, 2]), (0, [(some 17, 0), (none, 115)], []), (1, [(some 17, 0), (none, 109)], []), (72, [(some 17, 0), (some 14, 0)], [1, 2]), (0, [(none, 0), (none, 0)], []), (2, [(some 14, 0), (some 16, 0)], []), (20, [(some 16, 0), (none, 0)], [1]), (74, [(some 14, 0), (some 13, 0), (some 15, 0)], [1, 2, 35, 36]), (78, [], [1])], (76, [(some 14, 1), (some 15, 0)], [1, 2, 35, 36]))
set_option maxRecDepth 20000 in
theorem v_rp0_1_12 {PT : PTy} (hp : HP2 PT) : vcOk PT w_rp0_1_12 := vc_iv [(13, 0, 7), (14, 0, 24), (15, 0, 8), (16, 1, 49), (17, 115, 115), (18, 58, 255)] [1, 2, 35, 36] (by decide +kernel) (fun ρ α => by
  intro r13 g13 b13 r14 g14 b14 r15 g15 b15 r16 g16 b16 r17 g17 b17 r18 g18 b18 a1 h1 a2 h2 a35 h35 a36 h36 f0 f1 f2 f3 f4 f5 f6 f7 f8 f9 f10 f11 f12 f13 f14 tt
  clear f0 f1 f2 f3 f4 f5 f8 f10
  have e72 : PT 72 = P_by0 := pe72_2 hp
  have e74 : PT 74 = P_rpI := pe74_2 hp
  have e76 : PT 76 = P_rdP := pe76_2 hp
  have e78 : PT 78 = P_ly := pe78_2 hp
  simp only [hF0, hF2, hF20, hFp_72, hFp_74, hFp_76, hFp_78, e72, e74, e76, e78, P_by0, P_rpI, P_rdP, P_ly, den_s, den_c, Int.add_zero, List.map_cons, List.map_nil, g13.eq, g14.eq, g15.eq, g16.eq, g17.eq, g18.eq, h1, h2, h35, h36] at f6 f7 f9 f11 f12 f13 f14 ⊢
  subst f12
  obtain ⟨i1, i2, i3, i4, i5⟩ := f13
  by_cases h : (r14 + 1) < a1 0
  · subst i1
    subst i5
    first
      | (exfalso; omega)
      | exact rdP_f (Or.inr (Or.inl ⟨by omega, by omega, allG_3 i3 (fun q => by unfold gP; omega) (fun q => by unfold gP; omega) (fun q => by unfold gP; omega) (by omega), by unfold gP; omega⟩)) (by omega) (by omega)
  · subst i1
    subst i5
    first
      | (exfalso; omega)
      | exact rdP_f (Or.inr (Or.inr ⟨by omega, allG_3 i3 (fun q => by unfold gP; omega) (fun q => by unfold gP; omega) (fun q => by unfold gP; omega) (by omega), by omega⟩)) (by omega) (by omega))
def w_rp0_1_13 : VC := ((bY ++ [(0, 7), (0, 24), (0, 8), (1, 49), (115, 115), (48, 57), (0, 49), (59, 59)]), [(0, [(some 20, 0), (none, 59)], []), (72, [(some 20, 0), (some 14, 2)], [1, 2]), (1, [(some 14, 2), (some 19, 0)], []), (20, [(some 19, 0), (none, 0)], [1]), (3, [(none, 2), (none, 2)], []), (21, [(some 13, 0), (some 18, (-48))], [38, 36]), (21, [(some 13, 0), (none, 1)], [37, 35]), (1, [(none, 1), (none, 0)], []), (3, [(none, 57), (some 18, 0)], []), (3, [(some 18, 0), (none, 48)], []), (1, [(none, 1), (none, (-1))], []), (1, [(some 13, 0), (none, 8)], []), (72, [(some 18, 0), (some 14, 1)], [1, 2]), (0, [(some 17, 0), (none, 115)], []), (1, [(some 17, 0), (none, 109)], []), (72, [(some 17, 0), (some 14, 0)], [1, 2]), (0, [(none, 0), (none, 0)], []), (2, [(some 14, 0), (some 16, 0)], []), (20, [(some 16, 0), (none, 0)], [1]), (74, [(some 14, 0), (some 13, 0), (some 15, 0)], [1, 2, 35, 36]), (78, [], [1])], (3, [(some 14, 3), (none, 0)], []))
set_option maxRecDepth 20000 in
theorem v_rp0_1_13 {PT : PTy} (hp : HP2 PT) : vcOk PT w_rp0_1_13 := vc_iv [(13, 0, 7), (14, 0, 24), (15, 0, 8), (16, 1, 49), (17, 115, 115), (18, 48, 57), (19, 0, 49), (20, 59, 59)] [1, 2, 35, 36, 37, 38] (by decide +kernel) (fun ρ α => by
  intro r13 g13 b13 r14 g14 b14 r15 g15 b15 r16 g16 b16 r17 g17 b17 r18 g18 b18 r19 g19 b19 r20 g20 b20 a1 h1 a2 h2 a35 h35 a36 h36 a37 h37 a38 h38 f0 f1 f2 f3 f4 f5 f6 f7 f8 f9 f10 f11 f12 f13 f14 f15 f16 f17 f18 f19 f20 tt
  clear f4 f7 f8 f9 f10 f11 f14 f16
  have e72 : PT 72 = P_by0 := pe72_2 hp
  have e74 : PT 74 = P_rpI := pe74_2 hp
  have e78 : PT 78 = P_ly := pe78_2 hp
  simp only [hF0, hF1, hF2, hF3, hF20, hF21, hFp_72, hFp_74, hFp_78, e72, e74, e78, P_by0, P_rpI, P_ly, den_s, den_c, Int.add_zero, List.map_cons, List.map_nil, g13.eq, g14.eq, g15.eq, g16.eq, g17.eq, g18.eq, g19.eq, g20.eq, h1, h2, h35, h36, h37, h38] at f0 f1 f2 f3 f5 f6 f12 f13 f15 f17 f18 f19 f20 ⊢
  subst f3
  subst f5
  subst f6
  subst f18
  obtain ⟨i1, i2, i3, i4, i5⟩ := f19
  omega)
def w_rp0_1_14 : VC := ((bY ++ [(0, 7), (0, 24), (0, 8), (1, 49), (115, 115), (48, 57), (0, 49), (59, 59)]), [(0, [(some 20, 0), (none, 59)], []), (72, [(some 20, 0), (some 14, 2)], [1, 2]), (1, [(some 14, 2), (some 19, 0)], []), (20, [(some 19, 0), (none, 0)], [1]), (3, [(none, 2), (none, 2)], []), (21, [(some 13, 0), (some 18, (-48))], [38, 36]), (21, [(some 13, 0), (none, 1)], [37, 35]), (1, [(none, 1), (none, 0)], []), (3, [(none, 57), (some 18, 0)], []), (3, [(some 18, 0), (none, 48)], []), (1, [(none, 1), (none, (-1))], []), (1, [(some 13, 0), (none, 8)], []), (72, [(some 18, 0), (some 14, 1)], [1, 2]), (0, [(some 17, 0), (none, 115)], []), (1, [(some 17, 0), (none, 109)], []), (72, [(some 17, 0), (some 14, 0)], [1, 2]), (0, [(none, 0), (none, 0)], []), (2, [(some 14, 0), (some 16, 0)], []), (20, [(some 16, 0), (none, 0)], [1]), (74, [(some 14, 0), (some 13, 0), (some 15, 0)], [1, 2, 35, 36]), (78, [], [1])], (3, [(none, 24), (some 14, 3)], []))
set_option maxRecDepth 20000 in
theorem v_rp0_1_14 {PT : PTy} (hp : HP2 PT) : vcOk PT w_rp0_1_14 := vc_iv [(13, 0, 7), (14, 0, 24), (15, 0, 8), (16, 1, 49), (17, 115, 115), (18, 48, 57), (19, 0, 49), (20, 59, 59)] [1, 2, 35, 36, 37, 38] (by decide +kernel) (fun ρ α => by
  intro r13 g13 b13 r14 g14 b14 r15 g15 b15 r16 g16 b16 r17 g17 b17 r18 g18 b18 r19 g19 b19 r20 g20 b20 a1 h1 a2 h2 a35 h35 a36 h36 a37 h37 a38 h38 f0 f1 f2 f3 f4 f5 f6 f7 f8 f9 f10 f11 f12 f13 f14 f15 f16 f17 f18 f19 f20 tt
  clear f4 f7 f8 f9 f10 f11 f14 f16
  have e72 : PT 72 = P_by0 := pe72_2 hp
  have e74 : PT 74 = P_rpI := pe74_2 hp
  have e78 : PT 78 = P_ly := pe78_2 hp
  simp only [hF0, hF1, hF2, hF3, hF20, hF21, hFp_72, hFp_74, hFp_78, e72, e74, e78, P_by0, P_rpI, P_ly, den_s, den_c, Int.add_zero, List.map_cons, List.map_nil, g13.eq, g14.eq, g15.eq, g16.eq, g17.eq, g18.eq, g19.eq, g20.eq, h1, h2, h35, h36, h37, h38] at f0 f1 f2 f3 f5 f6 f12 f13 f15 f17 f18 f19 f20 ⊢
  subst f3
  subst f5
  subst f6
  subst f18
  obtain ⟨i1, i2, i3, i4, i5⟩ := f19
  omega)
def w_rp0_1_15 : VC := ((bY ++ [(0, 7), (0, 24), (0, 8), (1, 49), (115, 115), (48, 57), (0, 49), (59, 59)]), [(0, [(some 20, 0), (none, 59)], []), (72, [(some 20, 0), (some 14, 2)], [1, 2]), (1, [(some 14, 2), (some 19, 0)], []), (20, [(some 19, 0), (none, 0)], [1]), (3, [(none, 2), (none, 2)], []), (21, [(some 13, 0), (some 18, (-48))], [38, 36]), (21, [(some 13, 0), (none, 1)], [37, 35]), (1, [(none, 1), (none, 0)], []), (3, [(none, 57), (some 18, 0)], []), (3, [(some 18, 0), (none, 48)], []), (1, [(none, 1), (none, (-1))], []), (1, [(some 13, 0), (none, 8)], []), (72, [(some 18, 0), (some 14, 1)], [1, 2]), (0, [(some 17, 0), (none, 115)], []), (1, [(some 17, 0), (none, 109)], []), (72, [(some 17, 0), (some 14, 0)], [1, 2]), (0, [(none, 0), (none, 0)], []), (2, [(some 14, 0), (some 16, 0)], []), (20, [(some 16, 0), (none, 0)], [1]), (74, [(some 14, 0), (some 13, 0), (some 15, 0)], [1, 2, 35, 36]), (78, [], [1])], (74, [(some 14, 3), (some 13, 1), (some 15, 0)], [1, 2, 37, 38]))
set_option maxRecDepth 20000 in
theorem v_rp0_1_15 {PT : PTy} (hp : HP2 PT) : vcOk PT w_rp0_1_15 := vc_iv [(13, 0, 7), (14, 0, 24), (15, 0, 8), (16, 1, 49), (17, 115, 115), (18, 48, 57), (19, 0, 49), (20, 59, 59)] [1, 2, 35, 36, 37, 38] (by decide +kernel) (fun ρ α => by
  intro r13 g13 b13 r14 g14 b14 r15 g15 b15 r16 g16 b16 r17 g17 b17 r18 g18 b18 r19 g19 b19 r20 g20 b20 a1 h1 a2 h2 a35 h35 a36 h36 a37 h37 a38 h38 f0 f1 f2 f3 f4 f5 f6 f7 f8 f9 f10 f11 f12 f13 f14 f15 f16 f17 f18 f19 f20 tt
  clear f4 f7 f8 f9 f10 f11 f14 f16
  have e72 : PT 72 = P_by0 := pe72_2 hp
  have e74 : PT 74 = P_rpI := pe74_2 hp
  have e78 : PT 78 = P_ly := pe78_2 hp
  simp only [hF0, hF1, hF2, hF20, hF21, hFp_72, hFp_74, hFp_78, e72, e74, e78, P_by0, P_rpI, P_ly, den_s, den_c, Int.add_zero, List.map_cons, List.map_nil, g13.eq, g14.eq, g15.eq, g16.eq, g17.eq, g18.eq, g19.eq, g20.eq, h1, h2, h35, h36, h37, h38] at f0 f1 f2 f3 f5 f6 f12 f13 f15 f17 f18 f19 f20 ⊢
  subst f3
  subst f5
  subst f6
  subst f18
  obtain ⟨i1, i2, i3, i4, i5⟩ := f19
  subst i1
  subst i5
  first
    | exact ⟨by omega, by omega, allG_3 i3 (fun q => by unfold gP; omega) (fun q => by unfold gP; omega) (fun q => by unfold gP; omega) (by omega), tkP_s i4 (by unfold soP; repeat' split; all_goals omega) (by omega), rfl⟩
    | (exfalso; omega))
def w_rp0_1_16 : VC := ((bY ++ [(0, 7), (0, 24), (0, 8), (1, 49), (115, 115), (48, 57), (0, 49), ((-1), 255)]), [(1, [(some 20, 0), (none, 59)], []), (72, [(some 20, 0), (some 14, 2)], [1, 2]), (1, [(some 14, 2), (some 19, 0)], []), (20, [(some 19, 0), (none, 0)], [1]), (3, [(none, 2), (none, 2)], []), (21, [(some 13, 0), (some 18, (-48))], [38, 36]), (21, [(some 13, 0), (none, 1)], [37, 35]), (1, [(none, 1), (none, 0)], []), (3, [(none, 57), (some 18, 0)], []), (3, [(some 18, 0), (none, 48)], []), (1, [(none, 1), (none, (-1))], []), (1, [(some 13, 0), (none, 8)], []), (72, [(some 18, 0), (some 14, 1)], [1, 2]), (0, [(some 17, 0), (none, 115)], []), (1, [(some 17, 0), (none, 109)], []), (72, [(some 17, 0), (some 14, 0)], [1, 2]), (0, [(none, 0), (none, 0)], []), (2, [(some 14, 0), (some 16, 0)], []), (20, [(some 16, 0), (none, 0)], [1]), (74, [(some 14, 0), (some 13, 0), (some 15, 0)], [1, 2, 35, 36]), (78, [], [1])], (76, [(some 14, 2), (some 15, 0)], [1, 2, 37, 38]))
set_option maxRecDepth 20000 in
theorem v_rp0_1_16 {PT : PTy} (hp : HP2 PT) : vcOk PT w_rp0_1_16 := vc_iv [(13, 0, 7), (14, 0, 24), (15, 0, 8), (16, 1, 49), (17, 115, 115), (18, 48, 57), (19, 0, 49), (20, (-1), 255)] [1, 2, 35, 36, 37, 38] (by decide +kernel) (fun ρ α => by
  intro r13 g13 b13 r14 g14 b14 r15 g15 b15 r16 g16 b16 r17 g17 b17 r18 g18 b18 r19 g19 b19 r20 g20 b20 a1 h1 a2 h2 a35 h35 a36 h36 a37 h37 a38 h38 f0 f1 f2 f3 f4 f5 f6 f7 f8 f9 f10 f11 f12 f13 f14 f15 f16 f17 f18 f19 f20 tt
  clear f4 f7 f8 f9 f10 f11 f14 f16
  have e72 : PT 72 = P_by0 := pe72_2 hp
  have e74 : PT 74 = P_rpI := pe74_2 hp
  have e76 : PT 76 = P_rdP := pe76_2 hp
  have e78 : PT 78 = P_ly := pe78_2 hp
  simp only [hF0, hF1, hF2, hF20, hF21, hFp_72, hFp_74, hFp_76, hFp_78, e72, e74, e76, e78, P_by0, P_rpI, P_rdP, P_ly, den_s, den_c, Int.add_zero, List.map_cons, List.map_nil, g13.eq, g14.eq, g15.eq, g16.eq, g17.eq, g18.eq, g19.eq, g20.eq, h1, h2, h35, h36, h37, h38] at f0 f1 f2 f3 f5 f6 f12 f13 f15 f17 f18 f19 f20 ⊢
  subst f3
  subst f5
  subst f6
  subst f18
  obtain ⟨i1, i2, i3, i4, i5⟩ := f19
  by_cases h : (r14 + 2) < a1 0
  · subst i1
    subst i5
    first
      | (exfalso; omega)
      | exact rdP_f (Or.inr (Or.inl ⟨by omega, by omega, allG_3 i3 (fun q => by unfold gP; omega) (fun q => by unfold gP; omega) (fun q => by unfold gP; omega) (by omega), by unfold gP; omega⟩)) (by omega) (by omega)
  · subst i1
    subst i5
    first
      | (exfalso; omega)
      | exact rdP_f (Or.inr (Or.inr ⟨by omega, allG_3 i3 (fun q => by unfold gP; omega) (fun q => by unfold gP; omega) (fun q => by unfold gP; omega) (by omega), by omega⟩)) (by omega) (by omega))
def w_rp0_1_17 : VC := ((bY ++ [(0, 7), (0, 24), (0, 8), (1, 49), (115, 115), (48, 57), (2, 26)]), [(1, [(none, 0), (none, 1)], []), (0, [(none, 0), (none, 0)], []), (0, [(some 14, 2), (some 19, 0)], []), (20, [(some 19, 0), (none, 0)], [1]), (3, [(none, 2), (none, 2)], []), (21, [(some 13, 0), (some 18, (-48))], [38, 36]), (21, [(some 13, 0), (none, 1)], [37, 35]), (1, [(none, 1), (none, 0)], []), (3, [(none, 57), (some 18, 0)], []), (3, [(some 18, 0), (none, 48)], []), (1, [(none, 1), (none, (-1))], []), (1, [(some 13, 0), (none, 8)], []), (72, [(some 18, 0), (some 14, 1)], [1, 2]), (0, [(some 17, 0), (none, 115)], []), (1, [(some 17, 0), (none, 109)], []), (72, [(some 17, 0), (some 14, 0)], [1, 2]), (0, [(none, 0), (none, 0)], []), (2, [(some 14, 0), (some 16, 0)], []), (20, [(some 16, 0), (none, 0)], [1]), (74, [(some 14, 0), (some 13, 0), (some 15, 0)], [1, 2, 35, 36]), (78, [], [1])], (76, [(none, (-1)), (some 13, 1)], [1, 2, 37, 38]))
set_option maxRecDepth 20000 in
theorem v_rp0_1_17 {PT : PTy} (hp : HP2 PT) : vcOk PT w_rp0_1_17 := vc_iv [(13, 0, 7), (14, 0, 24), (15, 0, 8), (16, 1, 49), (17, 115, 115), (18, 48, 57), (19, 2, 26)] [1, 2, 35, 36, 37, 38] (by decide +kernel) (fun ρ α => by
  intro r13 g13 b13 r14 g14 b14 r15 g15 b15 r16 g16 b16 r17 g17 b17 r18 g18 b18 r19 g19 b19 a1 h1 a2 h2 a35 h35 a36 h36 a37 h37 a38 h38 f0 f1 f2 f3 f4 f5 f6 f7 f8 f9 f10 f11 f12 f13 f14 f15 f16 f17 f18 f19 f20 tt
  clear f0 f1 f4 f7 f8 f9 f10 f11 f14 f16
  have e72 : PT 72 = P_by0 := pe72_2 hp
  have e74 : PT 74 = P_rpI := pe74_2 hp
  have e76 : PT 76 = P_rdP := pe76_2 hp
  have e78 : PT 78 = P_ly := pe78_2 hp
  simp only [hF0, hF2, hF20, hF21, hFp_72, hFp_74, hFp_76, hFp_78, e72, e74, e76, e78, P_by0, P_rpI, P_rdP, P_ly, den_s, den_c, Int.add_zero, List.map_cons, List.map_nil, g13.eq, g14.eq, g15.eq, g16.eq, g17.eq, g18.eq, g19.eq, h1, h2, h35, h36, h37, h38] at f2 f3 f5 f6 f12 f13 f15 f17 f18 f19 f20 ⊢
  subst f3
  subst f5
  subst f6
  subst f18
  obtain ⟨i1, i2, i3, i4, i5⟩ := f19
  subst i1
  subst i5
  first
    | exact rdP_w ⟨allG_3 i3 (fun q => by unfold gP; omega) (fun q => by unfold gP; omega) (fun q => by unfold gP; omega) (by omega), by omega⟩ (by omega) (tkP_s i4 (by unfold soP; repeat' split; all_goals omega) (by omega))
    | exact rdP_w ⟨allG_3 i3 (fun q => by unfold gP; omega) (fun q => by unfold gP; omega) (fun q => by unfold gP; omega) (by omega), by omega⟩ (by omega) (fun j h1 h2 => by omega)
    | (exfalso; omega))
def w_rp0_1_18 : VC := ((bY ++ [(8, 8), (0, 24), (0, 8), (1, 49), (109, 109), ((-1), 255)]), [(2, [(none, 0), (none, 2)], []), (0, [(some 13, 0), (none, 8)], []), (72, [(some 18, 0), (some 14, 1)], [1, 2]), (0, [(some 17, 0), (none, 109)], []), (72, [(some 17, 0), (some 14, 0)], [1, 2]), (0, [(none, 0), (none, 0)], []), (2, [(some 14, 0), (some 16, 0)], []), (20, [(some 16, 0), (none, 0)], [1]), (74, [(some 14, 0), (some 13, 0), (some 15, 0)], [1, 2, 35, 36]), (78, [], [1])], (76, [(some 14, 0), (some 15, 0)], [1, 2, 35, 36]))
set_option maxRecDepth 20000 in
theorem v_rp0_1_18 {PT : PTy} (hp : HP2 PT) : vcOk PT w_rp0_1_18 := vc_iv [(13, 8, 8), (14, 0, 24), (15, 0, 8), (16, 1, 49), (17, 109, 109), (18, (-1), 255)] [1, 2, 35, 36] (by decide +kernel) (fun ρ α => by
  intro r13 g13 b13 r14 g14 b14 r15 g15 b15 r16 g16 b16 r17 g17 b17 r18 g18 b18 a1 h1 a2 h2 a35 h35 a36 h36 f0 f1 f2 f3 f4 f5 f6 f7 f8 f9 tt
  clear f0 f5
  have e72 : PT 72 = P_by0 := pe72_2 hp
  have e74 : PT 74 = P_rpI := pe74_2 hp
  have e76 : PT 76 = P_rdP := pe76_2 hp
  have e78 : PT 78 = P_ly := pe78_2 hp
  simp only [hF0, hF2, hF20, hFp_72, hFp_74, hFp_76, hFp_78, e72, e74, e76, e78, P_by0, P_rpI, P_rdP, P_ly, den_s, den_c, Int.add_zero, List.map_cons, List.map_nil, g13.eq, g14.eq, g15.eq, g16.eq, g17.eq, g18.eq, h1, h2, h35, h36] at f1 f2 f3 f4 f6 f7 f8 f9 ⊢
  subst f7
  obtain ⟨i1, i2, i3, i4, i5⟩ := f8
  by_cases h : r14 < a1 0
  · subst i1
    subst i5
    first
      | (exfalso; omega)
      | exact rdP_f (Or.inr (Or.inl ⟨by omega, by omega, allG_3 i3 (fun q => by unfold gP; omega) (fun q => by unfold gP; omega) (fun q => by unfold gP; omega) (by omega), by unfold gP; omega⟩)) (by omega) (by omega)
  · subst i1
    subst i5
    first
      | (exfalso; omega)
      | exact rdP_f (Or.inr (Or.inr ⟨by omega, allG_3 i3 (fun q => by unfold gP; omega) (fun q => by unfold gP; omega) (fun q => by unfold gP; omega) (by omega), by omega⟩)) (by omega) (by omega))
def w_rp0_1_19 : VC := ((bY ++ [(0, 7), (0, 24), (0, 8), (1, 49), (109, 109), ((-1), 47)]), [(2, [(none, 1), (none, 2)], []), (0, [(none, 0), (none, 0)], []), (2, [(some 18, 0), (none, 48)], []), (1, [(none, 0), (none, (-1))], []), (1, [(some 13, 0), (none, 8)], []), (72, [(some 18, 0), (some 14, 1)], [1, 2]), (0, [(some 17, 0), (none, 109)], []), (72, [(some 17, 0), (some 14, 0)], [1, 2]), (0, [(none, 0), (none, 0)], []), (2, [(some 14, 0), (some 16, 0)], []), (20, [(some 16, 0), (none, 0)], [1]), (74, [(some 14, 0), (some 13, 0), (some 15, 0)], [1, 2, 35, 36]), (78, [], [1])], (76, [(some 14, 1), (some 15, 0)], [1, 2, 35, 36]))
set_option maxRecDepth 20000 in
theorem v_rp0_1_19 {PT : PTy} (hp : HP2 PT) : vcOk PT w_rp0_1_19 := vc_iv [(13, 0, 7), (14, 0, 24), (15, 0, 8), (16, 1, 49), (17, 109, 109), (18, (-1), 47)] [1, 2, 35, 36] (by decide +kernel) (fun ρ α => by
  intro r13 g13 b13 r14 g14 b14 r15 g15 b15 r16 g16 b16 r17 g17 b17 r18 g18 b18 a1 h1 a2 h2 a35 h35 a36 h36 f0 f1 f2 f3 f4 f5 f6 f7 f8 f9 f10 f11 f12 tt
  clear f0 f1 f2 f3 f4 f8
  have e72 : PT 72 = P_by0 := pe72_2 hp
  have e74 : PT 74 = P_rpI := pe74_2 hp
  have e76 : PT 76 = P_rdP := pe76_2 hp
  have e78 : PT 78 = P_ly := pe78_2 hp
  simp only [hF0, hF2, hF20, hFp_72, hFp_74, hFp_76, hFp_78, e72, e74, e76, e78, P_by0, P_rpI, P_rdP, P_ly, den_s, den_c, Int.add_zero, List.map_cons, List.map_nil, g13.eq, g14.eq, g15.eq, g16.eq, g17.eq, g18.eq, h1, h2, h35, h36] at f5 f6 f7 f9 f10 f11 f12 ⊢
  subst f10
  obtain ⟨i1, i2, i3, i4, i5⟩ := f11
  by_cases h : (r14 + 1) < a1 0
  · subst i1
    subst i5
    first
      | (exfalso; omega)
      | exact rdP_f (Or.inr (Or.inl ⟨by omega, by omega, allG_3 i3 (fun q => by unfold gP; omega) (fun q => by unfold gP; omega) (fun q => by unfold gP; omega) (by omega), by unfold gP; omega⟩)) (by omega) (by omega)
  · subst i1
    subst i5
    first
      | (exfalso; omega)
      | exact rdP_f (Or.inr (Or.inr ⟨by omega, allG_3 i3 (fun q => by unfold gP; omega) (fun q => by unfold gP; omega) (fun q => by unfold gP; omega) (by omega), by omega⟩)) (by omega) (by omega))
def w_rp0_1_20 : VC := ((bY ++ [(0, 7), (0, 24), (0, 8), (1, 49), (109, 109), (58, 255)]), [(2, [(none, 1), (none, 2)], []), (0, [(none, 0), (none, 0)], []), (2, [(none, 57), (some 18, 0)], []), (3, [(some 18, 0), (none, 48)], []), (1, [(none, 0), (none, (-1))], []), (1, [(some 13, 0), (none, 8)], []), (72, [(some 18, 0), (some 14, 1)], [1, 2]), (0, [(some 17, 0), (none, 109)], []), (72, [(some 17, 0), (some 14, 0)], [1, 2]), (0, [(none, 0), (none, 0)], []), (2, [(some 14, 0), (some 16, 0)], []), (20, [(some 16, 0), (none, 0)], [1]), (74, [(some 14, 0), (some 13, 0), (some 15, 0)], [1, 2, 35, 36]), (78, [], [1])], (76, [(some 14, 1), (some 15, 0)], [1, 2, 35, 36]))
set_option maxRecDepth 20000 in
theorem v_rp0_1_20 {PT : PTy} (hp : HP2 PT) : vcOk PT w_rp0_1_20 := vc_iv [(13, 0, 7), (14, 0, 24), (15, 0, 8), (16, 1, 49), (17, 109, 109), (18, 58, 255)] [1, 2, 35, 36] (by decide +kernel) (fun ρ α => by
  intro r13 g13 b13 r14 g14 b14 r15 g15 b15 r16 g16 b16 r17 g17 b17 r18 g18 b18 a1 h1 a2 h2 a35 h35 a36 h36 f0 f1 f2 f3 f4 f5 f6 f7 f8 f9 f10 f11 f12 f13 tt
  clear f0 f1 f2 f3 f4 f5 f9
  have e72 : PT 72 = P_by0 := pe72_2 hp
  have e74 : PT 74 = P_rpI := pe74_2 hp
  have e76 : PT 76 = P_rdP := pe76_2 hp
  have e78 : PT 78 = P_ly := pe78_2 hp
  simp only [hF0, hF2, hF20, hFp_72, hFp_74, hFp_76, hFp_78, e72, e74, e76, e78, P_by0, P_rpI, P_rdP, P_ly, den_s, den_c, Int.add_zero, List.map_cons, List.map_nil, g13.eq, g14.eq, g15.eq, g16.eq, g17.eq, g18.eq, h1, h2, h35, h36] at f6 f7 f8 f10 f11 f12 f13 ⊢
  subst f11
  obtain ⟨i1, i2, i3, i4, i5⟩ := f12
  by_cases h : (r14 + 1) < a1 0
  · subst i1
    subst i5
    first
      | (exfalso; omega)
      | exact rdP_f (Or.inr (Or.inl ⟨by omega, by omega, allG_3 i3 (fun q => by unfold gP; omega) (fun q => by unfold gP; omega) (fun q => by unfold gP; omega) (by omega), by unfold gP; omega⟩)) (by omega) (by omega)
  · subst i1
    subst i5
    first
      | (exfalso; omega)
      | exact rdP_f (Or.inr (Or.inr ⟨by omega, allG_3 i3 (fun q => by unfold gP; omega) (fun q => by unfold gP; omega) (fun q => by unfold gP; omega) (by omega), by omega⟩)) (by omega) (by omega))
def w_rp0_1_21 : VC := ((bY ++ [(0, 7), (0, 24), (0, 8), (1, 49), (109, 109), (48, 57), (0, 49), (59, 59)]), [(0, [(some 20, 0), (none, 59)], []), (72, [(some 20, 0), (some 14, 2)], [1, 2]), (1, [(some 14, 2), (some 19, 0)], []), (20, [(some 19, 0), (none, 0)], [1]), (3, [(none, 2), (none, 2)], []), (21, [(some 13, 0), (some 18, (-48))], [38, 36]), (21, [(some 13, 0), (none, 0)], [37, 35]), (1, [(none, 1), (none, 0)], []), (3, [(none, 57), (some 18, 0)], []), (3, [(some 18, 0), (none, 48)], []), (1, [(none, 0), (none, (-1))], []), (1, [(some 13, 0), (none, 8)], []), (72, [(some 18, 0), (some 14, 1)], [1, 2]), (0, [(some 17, 0), (none, 109)], []), (72, [(some 17, 0), (some 14, 0)], [1, 2]), (0, [(none, 0), (none, 0)], []), (2, [(some 14, 0), (some 16, 0)], []), (20, [(some 16, 0), (none, 0)], [1]), (74, [(some 14, 0), (some 13, 0), (some 15, 0)], [1, 2, 35, 36]), (78, [], [1])], (3, [(some 14, 3), (none, 0)], []))
set_option maxRecDepth 20000 in
theorem v_rp0_1_21 {PT : PTy} (hp : HP2 PT) : vcOk PT w_rp0_1_21 := vc_iv [(13, 0, 7), (14, 0, 24), (15, 0, 8), (16, 1, 49), (17, 109, 109), (18, 48, 57), (19, 0, 49), (20, 59, 59)] [1, 2, 35, 36, 37, 38] (by decide +kernel) (fun ρ α => by
  intro r13 g13 b13 r14 g14 b14 r15 g15 b15 r16 g16 b16 r17 g17 b17 r18 g18 b18 r19 g19 b19 r20 g20 b20 a1 h1 a2 h2 a35 h35 a36 h36 a37 h37 a38 h38 f0 f1 f2 f3 f4 f5 f6 f7 f8 f9 f10 f11 f12 f13 f14 f15 f16 f17 f18 f19 tt
  clear f4 f7 f8 f9 f10 f11 f15
  have e72 : PT 72 = P_by0 := pe72_2 hp
  have e74 : PT 74 = P_rpI := pe74_2 hp
  have e78 : PT 78 = P_ly := pe78_2 hp
  simp only [hF0, hF1, hF2, hF3, hF20, hF21, hFp_72, hFp_74, hFp_78, e72, e74, e78, P_by0, P_rpI, P_ly, den_s, den_c, Int.add_zero, List.map_cons, List.map_nil, g13.eq, g14.eq, g15.eq, g16.eq, g17.eq, g18.eq, g19.eq, g20.eq, h1, h2, h35, h36, h37, h38] at f0 f1 f2 f3 f5 f6 f12 f13 f14 f16 f17 f18 f19 ⊢
  subst f3
  subst f5
  subst f6
  subst f17
  obtain ⟨i1, i2, i3, i4, i5⟩ := f18
  omega)
def w_rp0_1_22 : VC := ((bY ++ [(0, 7), (0, 24), (0, 8), (1, 49), (109, 109), (48, 57), (0, 49), (59, 59)]), [(0, [(some 20, 0), (none, 59)], []), (72, [(some 20, 0), (some 14, 2)], [1, 2]), (1, [(some 14, 2), (some 19, 0)], []), (20, [(some 19, 0), (none, 0)], [1]), (3, [(none, 2), (none, 2)], []), (21, [(some 13, 0), (some 18, (-48))], [38, 36]), (21, [(some 13, 0), (none, 0)], [37, 35]), (1, [(none, 1), (none, 0)], []), (3, [(none, 57), (some 18, 0)], []), (3, [(some 18, 0), (none, 48)], []), (1, [(none, 0), (none, (-1))], []), (1, [(some 13, 0), (none, 8)], []), (72, [(some 18, 0), (some 14, 1)], [1, 2]), (0, [(some 17, 0), (none, 109)], []), (72, [(some 17, 0), (some 14, 0)], [1, 2]), (0, [(none, 0), (none, 0)], []), (2, [(some 14, 0), (some 16, 0)], []), (20, [(some 16, 0), (none, 0)], [1]), (74, [(some 14, 0), (some 13, 0), (some 15, 0)], [1, 2, 35, 36]), (78, [], [1])], (3, [(none, 24), (some 14, 3)], []))
set_option maxRecDepth 20000 in
theorem v_rp0_1_22 {PT : PTy} (hp : HP2 PT) : vcOk PT w_rp0_1_22 := vc_iv [(13, 0, 7), (14, 0, 24), (15, 0, 8), (16, 1, 49), (17, 109, 109), (18, 48, 57), (19, 0, 49), (20, 59, 59)] [1, 2, 35, 36, 37, 38] (by decide +kernel) (fun ρ α => by
  intro r13 g13 b13 r14 g14 b14 r15 g15 b15 r16 g16 b16 r17 g17 b17 r18 g18 b18 r19 g19 b19 r20 g20 b20 a1 h1 a2 h2 a35 h35 a36 h36 a37 h37 a38 h38 f0 f1 f2 f3 f4 f5 f6 f7 f8 f9 f10 f11 f12 f13 f14 f15 f16 f17 f18 f19 tt
  clear f4 f7 f8 f9 f10 f11 f15
  have e72 : PT 72 = P_by0 := pe72_2 hp
  have e74 : PT 74 = P_rpI := pe74_2 hp
  have e78 : PT 78 = P_ly := pe78_2 hp
  simp only [hF0, hF1, hF2, hF3, hF20, hF21, hFp_72, hFp_74, hFp_78, e72, e74, e78, P_by0, P_rpI, P_ly, den_s, den_c, Int.add_zero, List.map_cons, List.map_nil, g13.eq, g14.eq, g15.eq, g16.eq, g17.eq, g18.eq, g19.eq, g20.eq, h1, h2, h35, h36, h37, h38] at f0 f1 f2 f3 f5 f6 f12 f13 f14 f16 f17 f18 f19 ⊢
  subst f3
  subst f5
  subst f6
  subst f17
  obtain ⟨i1, i2, i3, i4, i5⟩ := f18
  omega)
def w_rp0_1_23 : VC := ((bY ++ [(0, 7), (0, 24), (0, 8), (1, 49), (109, 109), (48, 57), (0, 49), (59, 59)]), [(0, [(some 20, 0), (none, 59)], []), (72, [(some 20, 0), (some 14, 2)], [1, 2]), (1, [(some 14, 2), (some 19, 0)], []), (20, [(some 19, 0), (none, 0)], [1]), (3, [(none, 2), (none, 2)], []), (21, [(some 13, 0), (some 18, (-48))], [38, 36]), (21, [(some 13, 0), (none, 0)], [37, 35]), (1, [(none, 1), (none, 0)], []), (3, [(none, 57), (some 18, 0)], []), (3, [(some 18, 0), (none, 48)], []), (1, [(none, 0), (none, (-1))], []), (1, [(some 13, 0), (none, 8)], []), (72, [(some 18, 0), (some 14, 1)], [1, 2]), (0, [(some 17, 0), (none, 109)], []), (72, [(some 17, 0), (some 14, 0)], [1, 2]), (0, [(none, 0), (none, 0)], []), (2, [(some 14, 0), (some 16, 0)], []), (20, [(some 16, 0), (none, 0)], [1]), (74, [(some 14, 0), (some 13, 0), (some 15, 0)], [1, 2, 35, 36]), (78, [], [1])], (74, [(some 14, 3), (some 13, 1), (some 15, 0)], [1, 2, 37, 38]))
set_option maxRecDepth 20000 in
theorem v_rp0_1_23 {PT : PTy} (hp : HP2 PT) : vcOk PT w_rp0_1_23 := vc_iv [(13, 0, 7), (14, 0, 24), (15, 0, 8), (16, 1, 49), (17, 109, 109), (18, 48, 57), (19, 0, 49), (20, 59, 59)] [1, 2, 35, 36, 37, 38] (by decide +kernel) (fun ρ α => by
  intro r13 g13 b13 r14 g14 b14 r15 g15 b15 r16 g16 b16 r17 g17 b17 r18 g18 b18 r19 g19 b19 r20 g20 b20 a1 h1 a2 h2 a35 h35 a36 h36 a37 h37 a38 h38 f0 f1 f2 f3 f4 f5 f6 f7 f8 f9 f10 f11 f12 f13 f14 f15 f16 f17 f18 f19 tt
  clear f4 f7 f8 f9 f10 f11 f15
  have e72 : PT 72 = P_by0 := pe72_2 hp
  have e74 : PT 74 = P_rpI := pe74_2 hp
  have e78 : PT 78 = P_ly := pe78_2 hp
  simp only [hF0, hF1, hF2, hF20, hF21, hFp_72, hFp_74, hFp_78, e72, e74, e78, P_by0, P_rpI, P_ly, den_s, den_c, Int.add_zero, List.map_cons, List.map_nil, g13.eq, g14.eq, g15.eq, g16.eq, g17.eq, g18.eq, g19.eq, g20.eq, h1, h2, h35, h36, h37, h38] at f0 f1 f2 f3 f5 f6 f12 f13 f14 f16 f17 f18 f19 ⊢
  subst f3
  subst f5
  subst f6
  subst f17
  obtain ⟨i1, i2, i3, i4, i5⟩ := f18
  subst i1
  subst i5
  first
    | exact ⟨by omega, by omega, allG_3 i3 (fun q => by unfold gP; omega) (fun q => by unfold gP; omega) (fun q => by unfold gP; omega) (by omega), tkP_s i4 (by unfold soP; repeat' split; all_goals omega) (by omega), rfl⟩
    | (exfalso; omega))
def w_rp0_1_24 : VC := ((bY ++ [(0, 7), (0, 24), (0, 8), (1, 49), (109, 109), (48, 57), (0, 49), ((-1), 255)]), [(1, [(some 20, 0), (none, 59)], []), (72, [(some 20, 0), (some 14, 2)], [1, 2]), (1, [(some 14, 2), (some 19, 0)], []), (20, [(some 19, 0), (none, 0)], [1]), (3, [(none, 2), (none, 2)], []), (21, [(some 13, 0), (some 18, (-48))], [38, 36]), (21, [(some 13, 0), (none, 0)], [37, 35]), (1, [(none, 1), (none, 0)], []), (3, [(none, 57), (some 18, 0)], []), (3, [(some 18, 0), (none, 48)], []), (1, [(none, 0), (none, (-1))], []), (1, [(some 13, 0), (none, 8)], []), (72, [(some 18, 0), (some 14, 1)], [1, 2]), (0, [(some 17, 0), (none, 109)], []), (72, [(some 17, 0), (some 14, 0)], [1, 2]), (0, [(none, 0), (none, 0)], []), (2, [(some 14, 0), (some 16, 0)], []), (20, [(some 16, 0), (none, 0)], [1]), (74, [(some 14, 0), (some 13, 0), (some 15, 0)], [1, 2, 35, 36]), (78, [], [1])], (76, [(some 14, 2), (some 15, 0)], [1, 2, 37, 38]))
set_option maxRecDepth 20000 in
theorem v_rp0_1_24 {PT : PTy} (hp : HP2 PT) : vcOk PT w_rp0_1_24 := vc_iv [(13, 0, 7), (14, 0, 24), (15, 0, 8), (16, 1, 49), (17, 109, 109), (18, 48, 57), (19, 0, 49), (20, (-1), 255)] [1, 2, 35, 36, 37, 38] (by decide +kernel) (fun ρ α => by
  intro r13 g13 b13 r14 g14 b14 r15 g15 b15 r16 g16 b16 r17 g17 b17 r18 g18 b18 r19 g19 b19 r20 g20 b20 a1 h1 a2 h2 a35 h35 a36 h36 a37 h37 a38 h38 f0 f1 f2 f3 f4 f5 f6 f7 f8 f9 f10 f11 f12 f13 f14 f15 f16 f17 f18 f19 tt
  clear f4 f7 f8 f9 f10 f11 f15
  have e72 : PT 72 = P_by0 := pe72_2 hp
  have e74 : PT 74 = P_rpI := pe74_2 hp
  have e76 : PT 76 = P_rdP := pe76_2 hp
  have e78 : PT 78 = P_ly := pe78_2 hp
  simp only [hF0, hF1, hF2, hF20, hF21, hFp_72, hFp_74, hFp_76, hFp_78, e72, e74, e76, e78, P_by0, P_rpI, P_rdP, P_ly, den_s, den_c, Int.add_zero, List.map_cons, List.map_nil, g13.eq, g14.eq, g15.eq, g16.eq, g17.eq, g18.eq, g19.eq, g20.eq, h1, h2, h35, h36, h37, h38] at f0 f1 f2 f3 f5 f6 f12 f13 f14 f16 f17 f18 f19 ⊢
  subst f3
  subst f5
  subst f6
  subst f17
  obtain ⟨i1, i2, i3, i4, i5⟩ := f18
  by_cases h : (r14 + 2) < a1 0
  · subst i1
    subst i5
    first
      | (exfalso; omega)
      | exact rdP_f (Or.inr (Or.inl ⟨by omega, by omega, allG_3 i3 (fun q => by unfold gP; omega) (fun q => by unfold gP; omega) (fun q => by unfold gP; omega) (by omega), by unfold gP; omega⟩)) (by omega) (by omega)
  · subst i1
    subst i5
    first
      | (exfalso; omega)
      | exact rdP_f (Or.inr (Or.inr ⟨by omega, allG_3 i3 (fun q => by unfold gP; omega) (fun q => by unfold gP; omega) (fun q => by unfold gP; omega) (by omega), by omega⟩)) (by omega) (by omega))
def w_rp0_1_25 : VC := ((bY ++ [(0, 7), (0, 24), (0, 8), (1, 49), (109, 109), (48, 57), (2, 26)]), [(1, [(none, 0), (none, 1)], []), (0, [(none, 0), (none, 0)], []), (0, [(some 14, 2), (some 19, 0)], []), (20, [(some 19, 0), (none, 0)], [1]), (3, [(none, 2), (none, 2)], []), (21, [(some 13, 0), (some 18, (-48))], [38, 36]), (21, [(some 13, 0), (none, 0)], [37, 35]), (1, [(none, 1), (none, 0)], []), (3, [(none, 57), (some 18, 0)], []), (3, [(some 18, 0), (none, 48)], []), (1, [(none, 0), (none, (-1))], []), (1, [(some 13, 0), (none, 8)], []), (72, [(some 18, 0), (some 14, 1)], [1, 2]), (0, [(some 17, 0), (none, 109)], []), (72, [(some 17, 0), (some 14, 0)], [1, 2]), (0, [(none, 0), (none, 0)], []), (2, [(some 14, 0), (some 16, 0)], []), (20, [(some 16, 0), (none, 0)], [1]), (74, [(some 14, 0), (some 13, 0), (some 15, 0)], [1, 2, 35, 36]), (78, [], [1])], (76, [(none, (-1)), (some 13, 1)], [1, 2, 37, 38]))
set_option maxRecDepth 20000 in
theorem v_rp0_1_25 {PT : PTy} (hp : HP2 PT) : vcOk PT w_rp0_1_25 := vc_iv [(13, 0, 7), (14, 0, 24), (15, 0, 8), (16, 1, 49), (17, 109, 109), (18, 48, 57), (19, 2, 26)] [1, 2, 35, 36, 37, 38] (by decide +kernel) (fun ρ α => by
  intro r13 g13 b13 r14 g14 b14 r15 g15 b15 r16 g16 b16 r17 g17 b17 r18 g18 b18 r19 g19 b19 a1 h1 a2 h2 a35 h35 a36 h36 a37 h37 a38 h38 f0 f1 f2 f3 f4 f5 f6 f7 f8 f9 f10 f11 f12 f13 f14 f15 f16 f17 f18 f19 tt
  clear f0 f1 f4 f7 f8 f9 f10 f11 f15
  have e72 : PT 72 = P_by0 := pe72_2 hp
  have e74 : PT 74 = P_rpI := pe74_2 hp
  have e76 : PT 76 = P_rdP := pe76_2 hp
  have e78 : PT 78 = P_ly := pe78_2 hp
  simp only [hF0, hF2, hF20, hF21, hFp_72, hFp_74, hFp_76, hFp_78, e72, e74, e76, e78, P_by0, P_rpI, P_rdP, P_ly, den_s, den_c, Int.add_zero, List.map_cons, List.map_nil, g13.eq, g14.eq, g15.eq, g16.eq, g17.eq, g18.eq, g19.eq, h1, h2, h35, h36, h37, h38] at f2 f3 f5 f6 f12 f13 f14 f16 f17 f18 f19 ⊢
  subst f3
  subst f5
  subst f6
  subst f17
  obtain ⟨i1, i2, i3, i4, i5⟩ := f18
  subst i1
  subst i5
  first
    | exact rdP_w ⟨allG_3 i3 (fun q => by unfold gP; omega) (fun q => by unfold gP; omega) (fun q => by unfold gP; omega) (by omega), by omega⟩ (by omega) (tkP_s i4 (by unfold soP; repeat' split; all_goals omega) (by omega))
    | exact rdP_w ⟨allG_3 i3 (fun q => by unfold gP; omega) (fun q => by unfold gP; omega) (fun q => by unfold gP; omega) (by omega), by omega⟩ (by omega) (fun j h1 h2 => by omega)
    | (exfalso; omega))
def w_rp0_1_26 : VC := ((bY ++ [(0, 8), (0, 0), (0, 8), (0, 24)]), [(3, [(none, 0), (some 14, 0)], []), (3, [(some 14, 0), (some 16, 0)], []), (20, [(some 16, 0), (none, 0)], [1]), (74, [(some 14, 0), (some 13, 0), (some 15, 0)], [1, 2, 35, 36]), (78, [], [1])], (76, [(none, (-1)), (some 15, 0)], [1, 2, 35, 36]))
set_option maxRecDepth 20000 in
theorem v_rp0_1_26 {PT : PTy} (hp : HP2 PT) : vcOk PT w_rp0_1_26 := vc_iv [(13, 0, 8), (14, 0, 0), (15, 0, 8), (16, 0, 24)] [1, 2, 35, 36] (by decide +kernel) (fun ρ α => by
  intro r13 g13 b13 r14 g14 b14 r15 g15 b15 r16 g16 b16 a1 h1 a2 h2 a35 h35 a36 h36 f0 f1 f2 f3 f4 tt
  clear f0
  have e74 : PT 74 = P_rpI := pe74_2 hp
  have e76 : PT 76 = P_rdP := pe76_2 hp
  have e78 : PT 78 = P_ly := pe78_2 hp
  simp only [hF3, hF20, hFp_74, hFp_76, hFp_78, e74, e76, e78, P_rpI, P_rdP, P_ly, den_s, den_c, Int.add_zero, List.map_cons, List.map_nil, g13.eq, g14.eq, g15.eq, g16.eq, h1, h2, h35, h36] at f1 f2 f3 f4 ⊢
  subst f2
  obtain ⟨i1, i2, i3, i4, i5⟩ := f3
  subst i1
  subst i5
  first
    | exact rdP_w ⟨allG_3 i3 (fun q => by unfold gP; omega) (fun q => by unfold gP; omega) (fun q => by unfold gP; omega) (by omega), by omega⟩ (by omega) (tkP_s i4 (by unfold soP; repeat' split; all_goals omega) (by omega))
    | exact rdP_w ⟨allG_3 i3 (fun q => by unfold gP; omega) (fun q => by unfold gP; omega) (fun q => by unfold gP; omega) (by omega), by omega⟩ (by omega) (fun j h1 h2 => by omega)
    | (exfalso; omega))
def w_rp0_1_27 : VC := ((bY ++ [(8, 8), (1, 24), (0, 8), (0, 24), ((-1), 255), ((-1), 255)]), [(2, [(none, 0), (none, 2)], []), (0, [(some 13, 0), (none, 8)], []), (72, [(some 18, 0), (some 14, 1)], [1, 2]), (1, [(some 17, 0), (none, 97)], []), (1, [(some 17, 0), (none, 115)], []), (1, [(some 17, 0), (none, 109)], []), (72, [(some 17, 0), (some 14, 0)], [1, 2]), (0, [(none, 0), (none, 0)], []), (2, [(none, 0), (some 14, 0)], []), (3, [(some 14, 0), (some 16, 0)], []), (20, [(some 16, 0), (none, 0)], [1]), (74, [(some 14, 0), (some 13, 0), (some 15, 0)], [1, 2, 35, 36]), (78, [], [1])], (76, [(some 14, 0), (some 15, 0)], [1, 2, 35, 36]))
set_option maxRecDepth 20000 in
theorem v_rp0_1_27 {PT : PTy} (hp : HP2 PT) : vcOk PT w_rp0_1_27 := vc_iv [(13, 8, 8), (14, 1, 24), (15, 0, 8), (16, 0, 24), (17, (-1), 255), (18, (-1), 255)] [1, 2, 35, 36] (by decide +kernel) (fun ρ α => by
  intro r13 g13 b13 r14 g14 b14 r15 g15 b15 r16 g16 b16 r17 g17 b17 r18 g18 b18 a1 h1 a2 h2 a35 h35 a36 h36 f0 f1 f2 f3 f4 f5 f6 f7 f8 f9 f10 f11 f12 tt
  clear f0 f7 f8
  have e72 : PT 72 = P_by0 := pe72_2 hp
  have e74 : PT 74 = P_rpI := pe74_2 hp
  have e76 : PT 76 = P_rdP := pe76_2 hp
  have e78 : PT 78 = P_ly := pe78_2 hp
  simp only [hF0, hF1, hF3, hF20, hFp_72, hFp_74, hFp_76, hFp_78, e72, e74, e76, e78, P_by0, P_rpI, P_rdP, P_ly, den_s, den_c, Int.add_zero, List.map_cons, List.map_nil, g13.eq, g14.eq, g15.eq, g16.eq, g17.eq, g18.eq, h1, h2, h35, h36] at f1 f2 f3 f4 f5 f6 f9 f10 f11 f12 ⊢
  subst f10
  obtain ⟨i1, i2, i3, i4, i5⟩ := f11
  by_cases h : r14 < a1 0
  · subst i1
    subst i5
    first
      | (exfalso; omega)
      | exact rdP_f (Or.inr (Or.inl ⟨by omega, by omega, allG_3 i3 (fun q => by unfold gP; omega) (fun q => by unfold gP; omega) (fun q => by unfold gP; omega) (by omega), by unfold gP; omega⟩)) (by omega) (by omega)
  · subst i1
    subst i5
    first
      | (exfalso; omega)
      | exact rdP_f (Or.inr (Or.inr ⟨by omega, allG_3 i3 (fun q => by unfold gP; omega) (fun q => by unfold gP; omega) (fun q => by unfold gP; omega) (by omega), by omega⟩)) (by omega) (by omega))
def w_rp0_1_28 : VC := ((bY ++ [(0, 7), (1, 24), (0, 8), (0, 24), ((-1), 255), ((-1), 255)]), [(2, [(none, 0), (none, 2)], []), (0, [(none, (-1)), (none, (-1))], []), (1, [(some 13, 0), (none, 8)], []), (72, [(some 18, 0), (some 14, 1)], [1, 2]), (1, [(some 17, 0), (none, 97)], []), (1, [(some 17, 0), (none, 115)], []), (1, [(some 17, 0), (none, 109)], []), (72, [(some 17, 0), (some 14, 0)], [1, 2]), (0, [(none, 0), (none, 0)], []), (2, [(none, 0), (some 14, 0)], []), (3, [(some 14, 0), (some 16, 0)], []), (20, [(some 16, 0), (none, 0)], [1]), (74, [(some 14, 0), (some 13, 0), (some 15, 0)], [1, 2, 35, 36]), (78, [], [1])], (76, [(some 14, 0), (some 15, 0)], [1, 2, 35, 36]))
set_option maxRecDepth 20000 in
theorem v_rp0_1_28 {PT : PTy} (hp : HP2 PT) : vcOk PT w_rp0_1_28 := vc_iv [(13, 0, 7), (14, 1, 24), (15, 0, 8), (16, 0, 24), (17, (-1), 255), (18, (-1), 255)] [1, 2, 35, 36] (by decide +kernel) (fun ρ α => by
  intro r13 g13 b13 r14 g14 b14 r15 g15 b15 r16 g16 b16 r17 g17 b17 r18 g18 b18 a1 h1 a2 h2 a35 h35 a36 h36 f0 f1 f2 f3 f4 f5 f6 f7 f8 f9 f10 f11 f12 f13 tt
  clear f0 f1 f2 f8 f9
  have e72 : PT 72 = P_by0 := pe72_2 hp
  have e74 : PT 74 = P_rpI := pe74_2 hp
  have e76 : PT 76 = P_rdP := pe76_2 hp
  have e78 : PT 78 = P_ly := pe78_2 hp
  simp only [hF1, hF3, hF20, hFp_72, hFp_74, hFp_76, hFp_78, e72, e74, e76, e78, P_by0, P_rpI, P_rdP, P_ly, den_s, den_c, Int.add_zero, List.map_cons, List.map_nil, g13.eq, g14.eq, g15.eq, g16.eq, g17.eq, g18.eq, h1, h2, h35, h36] at f3 f4 f5 f6 f7 f10 f11 f12 f13 ⊢
  subst f11
  obtain ⟨i1, i2, i3, i4, i5⟩ := f12
  by_cases h : r14 < a1 0
  · subst i1
    subst i5
    first
      | (exfalso; omega)
      | exact rdP_f (Or.inr (Or.inl ⟨by omega, by omega, allG_3 i3 (fun q => by unfold gP; omega) (fun q => by unfold gP; omega) (fun q => by unfold gP; omega) (by omega), by unfold gP; omega⟩)) (by omega) (by omega)
  · subst i1
    subst i5
    first
      | (exfalso; omega)
      | exact rdP_f (Or.inr (Or.inr ⟨by omega, allG_3 i3 (fun q => by unfold gP; omega) (fun q => by unfold gP; omega) (fun q => by unfold gP; omega) (by omega), by omega⟩)) (by omega) (by omega))
def w_rp0_1_29 : VC := ((bY ++ [(8, 8), (1, 24), (0, 8), (0, 24), (97, 97), ((-1), 255)]), [(2, [(none, 0), (none, 2)], []), (0, [(some 13, 0), (none, 8)], []), (72, [(some 18, 0), (some 14, 1)], [1, 2]), (0, [(some 17, 0), (none, 97)], []), (1, [(some 17, 0), (none, 115)], []), (1, [(some 17, 0), (none, 109)], []), (72, [(some 17, 0), (some 14, 0)], [1, 2]), (0, [(none, 0), (none, 0)], []), (2, [(none, 0), (some 14, 0)], []), (3, [(some 14, 0), (some 16, 0)], []), (20, [(some 16, 0), (none, 0)], [1]), (74, [(some 14, 0), (some 13, 0), (some 15, 0)], [1, 2, 35, 36]), (78, [], [1])], (76, [(some 14, 0), (some 15, 0)], [1, 2, 35, 36]))
set_option maxRecDepth 20000 in
theorem v_rp0_1_29 {PT : PTy} (hp : HP2 PT) : vcOk PT w_rp0_1_29 := vc_iv [(13, 8, 8), (14, 1, 24), (15, 0, 8), (16, 0, 24), (17, 97, 97), (18, (-1), 255)] [1, 2, 35, 36] (by decide +kernel) (fun ρ α => by
  intro r13 g13 b13 r14 g14 b14 r15 g15 b15 r16 g16 b16 r17 g17 b17 r18 g18 b18 a1 h1 a2 h2 a35 h35 a36 h36 f0 f1 f2 f3 f4 f5 f6 f7 f8 f9 f10 f11 f12 tt
  clear f0 f4 f5 f7 f8
  have e72 : PT 72 = P_by0 := pe72_2 hp
  have e74 : PT 74 = P_rpI := pe74_2 hp
  have e76 : PT 76 = P_rdP := pe76_2 hp
  have e78 : PT 78 = P_ly := pe78_2 hp
  simp only [hF0, hF3, hF20, hFp_72, hFp_74, hFp_76, hFp_78, e72, e74, e76, e78, P_by0, P_rpI, P_rdP, P_ly, den_s, den_c, Int.add_zero, List.map_cons, List.map_nil, g13.eq, g14.eq, g15.eq, g16.eq, g17.eq, g18.eq, h1, h2, h35, h36] at f1 f2 f3 f6 f9 f10 f11 f12 ⊢
  subst f10
  obtain ⟨i1, i2, i3, i4, i5⟩ := f11
  by_cases h : r14 < a1 0
  · subst i1
    subst i5
    first
      | (exfalso; omega)
      | exact rdP_f (Or.inr (Or.inl ⟨by omega, by omega, allG_3 i3 (fun q => by unfold gP; omega) (fun q => by unfold gP; omega) (fun q => by unfold gP; omega) (by omega), by unfold gP; omega⟩)) (by omega) (by omega)
  · subst i1
    subst i5
    first
      | (exfalso; omega)
      | exact rdP_f (Or.inr (Or.inr ⟨by omega, allG_3 i3 (fun q => by unfold gP; omega) (fun q => by unfold gP; omega) (fun q => by unfold gP; omega) (by omega), by omega⟩)) (by omega) (by omega))
def w_rp0_1_30 : VC := ((bY ++ [(0, 7), (1, 24), (0, 8), (0, 24), (97, 97), ((-1), 47)]), [(2, [(none, 1), (none, 2)], []), (0, [(none, 0), (none, 0)], []), (2, [(some 18, 0), (none, 48)], []), (1, [(none, 2), (none, (-1))], []), (1, [(some 13, 0), (none, 8)], []), (72, [(some 18, 0), (some 14, 1)], [1, 2]), (0, [(some 17, 0), (none, 97)], []), (1, [(some 17, 0), (none, 115)], []), (1, [(some 17, 0), (none, 109)], []), (72, [(some 17, 0), (some 14, 0)], [1, 2]), (0, [(none, 0), (none, 0)], []), (2, [(none, 0), (some 14, 0)], []), (3, [(some 14, 0), (some 16, 0)], []), (20, [(some 16, 0), (none, 0)], [1]), (74, [(some 14, 0), (some 13, 0), (some 15, 0)], [1, 2, 35, 36]), (78, [], [1])], (76, [(some 14, 1), (some 15, 0)], [1, 2, 35, 36]))
set_option maxRecDepth 20000 in
theorem v_rp0_1_30 {PT : PTy} (hp : HP2 PT) : vcOk PT w_rp0_1_30 := vc_iv [(13, 0, 7), (14, 1, 24), (15, 0, 8), (16, 0, 24), (17, 97, 97), (18, (-1), 47)] [1, 2, 35, 36] (by decide +kernel) (fun ρ α => by
  intro r13 g13 b13 r14 g14 b14 r15 g15 b15 r16 g16 b16 r17 g17 b17 r18 g18 b18 a1 h1 a2 h2 a35 h35 a36 h36 f0 f1 f2 f3 f4 f5 f6 f7 f8 f9 f10 f11 f12 f13 f14 f15 tt
  clear f0 f1 f2 f3 f4 f7 f8 f10 f11
  have e72 : PT 72 = P_by0 := pe72_2 hp
  have e74 : PT 74 = P_rpI := pe74_2 hp
  have e76 : PT 76 = P_rdP := pe76_2 hp
  have e78 : PT 78 = P_ly := pe78_2 hp
  simp only [hF0, hF3, hF20, hFp_72, hFp_74, hFp_76, hFp_78, e72, e74, e76, e78, P_by0, P_rpI, P_rdP, P_ly, den_s, den_c, Int.add_zero, List.map_cons, List.map_nil, g13.eq, g14.eq, g15.eq, g16.eq, g17.eq, g18.eq, h1, h2, h35, h36] at f5 f6 f9 f12 f13 f14 f15 ⊢
  subst f13
  obtain ⟨i1, i2, i3, i4, i5⟩ := f14
  by_cases h : (r14 + 1) < a1 0
  · subst i1
    subst i5
    first
      | (exfalso; omega)
      | exact rdP_f (Or.inr (Or.inl ⟨by omega, by omega, allG_3 i3 (fun q => by unfold gP; omega) (fun q => by unfold gP; omega) (fun q => by unfold gP; omega) (by omega), by unfold gP; omega⟩)) (by omega) (by omega)
  · subst i1
    subst i5
    first
      | (exfalso; omega)
      | exact rdP_f (Or.inr (Or.inr ⟨by omega, allG_3 i3 (fun q => by unfold gP; omega) (fun q => by unfold gP; omega) (fun q => by unfold gP; omega) (by omega), by omega⟩)) (by omega) (by omega))
def w_rp0_1_31 : VC := ((bY ++ [(0, 7), (1, 24), (0, 8), (0, 24), (97, 97), (58, 255)]), [(2, [(none, 1), (none, 2)], []), (0, [(none, 0), (none, 0)], []), (2, [(none, 57), (some 18, 0)], []), (3, [(some 18, 0), (none, 48)], []), (1, [(none, 2), (none, (-1))], []), (1, [(some 13, 0), (none, 8)], []), (72, [(some 18, 0), (some 14, 1)], [1, 2]), (0, [(some 17, 0), (none, 97)], []), (1, [(some 17, 0), (none, 115)], []), (1, [(some 17, 0), (none, 109)], []), (72, [(some 17, 0), (some 14, 0)], [1, 2]), (0, [(none, 0), (none, 0)], []), (2, [(none, 0), (some 14, 0)], []), (3, [(some 14, 0), (some 16, 0)], []), (20, [(some 16, 0), (none, 0)], [1]), (74, [(some 14, 0), (some 13, 0), (some 15, 0)], [1, 2, 35, 36]), (78, [], [1])], (76, [(some 14, 1), (some 15, 0)], [1, 2, 35, 36]))
set_option maxRecDepth 20000 in
theorem v_rp0_1_31 {PT : PTy} (hp : HP2 PT) : vcOk PT w_rp0_1_31 := vc_iv [(13, 0, 7), (14, 1, 24), (15, 0, 8), (16, 0, 24), (17, 97, 97), (18, 58, 255)] [1, 2, 35, 36] (by decide +kernel) (fun ρ α => by
  intro r13 g13 b13 r14 g14 b14 r15 g15 b15 r16 g16 b16 r17 g17 b17 r18 g18 b18 a1 h1 a2 h2 a35 h35 a36 h36 f0 f1 f2 f3 f4 f5 f6 f7 f8 f9 f10 f11 f12 f13 f14 f15 f16 tt
  clear f0 f1 f2 f3 f4 f5 f8 f9 f11 f12
  have e72 : PT 72 = P_by0 := pe72_2 hp
  have e74 : PT 74 = P_rpI := pe74_2 hp
  have e76 : PT 76 = P_rdP := pe76_2 hp
  have e78 : PT 78 = P_ly := pe78_2 hp
  simp only [hF0, hF3, hF20, hFp_72, hFp_74, hFp_76, hFp_78, e72, e74, e76, e78, P_by0, P_rpI, P_rdP, P_ly, den_s, den_c, Int.add_zero, List.map_cons, List.map_nil, g13.eq, g14.eq, g15.eq, g16.eq, g17.eq, g18.eq, h1, h2, h35, h36] at f6 f7 f10 f13 f14 f15 f16 ⊢
  subst f14
  obtain ⟨i1, i2, i3, i4, i5⟩ := f15
  by_cases h : (r14 + 1) < a1 0
  · subst i1
    subst i5
    first
      | (exfalso; omega)
      | exact rdP_f (Or.inr (Or.inl ⟨by omega, by omega, allG_3 i3 (fun q => by unfold gP; omega) (fun q => by unfold gP; omega) (fun q => by unfold gP; omega) (by omega), by unfold gP; omega⟩)) (by omega) (by omega)
  · subst i1
    subst i5
    first
      | (exfalso; omega)
      | exact rdP_f (Or.inr (Or.inr ⟨by omega, allG_3 i3 (fun q => by unfold gP; omega) (fun q => by unfold gP; omega) (fun q => by unfold gP; omega) (by omega), by omega⟩)) (by omega) (by omega))
def w_rp0_1_32 : VC := ((bY ++ [(0, 7), (1, 24), (0, 8), (0, 24), (97, 97), (48, 57), (0, 49), (59, 59)]), [(0, [(some 20, 0), (none, 59)], []), (72, [(some 20, 0), (some 14, 2)], [1, 2]), (1, [(some 14, 2), (some 19, 0)], []), (20, [(some 19, 0), (none, 0)], [1]), (3, [(none, 2), (none, 2)], []), (21, [(some 13, 0), (some 18, (-48))], [38, 36]), (21, [(some 13, 0), (none, 2)], [37, 35]), (1, [(none, 1), (none, 0)], []), (3, [(none, 57), (some 18, 0)], []), (3, [(some 18, 0), (none, 48)], []), (1, [(none, 2), (none, (-1))], []), (1, [(some 13, 0), (none, 8)], []), (72, [(some 18, 0), (some 14, 1)], [1, 2]), (0, [(some 17, 0), (none, 97)], []), (1, [(some 17, 0), (none, 115)], []), (1, [(some 17, 0), (none, 109)], []), (72, [(some 17, 0), (some 14, 0)], [1, 2]), (0, [(none, 0), (none, 0)], []), (2, [(none, 0), (some 14, 0)], []), (3, [(some 14, 0), (some 16, 0)], []), (20, [(some 16, 0), (none, 0)], [1]), (74, [(some 14, 0), (some 13, 0), (some 15, 0)], [1, 2, 35, 36]), (78, [], [1])], (3, [(some 14, 3), (none, 0)], []))
set_option maxRecDepth 20000 in
theorem v_rp0_1_32 {PT : PTy} (hp : HP2 PT) : vcOk PT w_rp0_1_32 := vc_iv [(13, 0, 7), (14, 1, 24), (15, 0, 8), (16, 0, 24), (17, 97, 97), (18, 48, 57), (19, 0, 49), (20, 59, 59)] [1, 2, 35, 36, 37, 38] (by decide +kernel) (fun ρ α => by
  intro r13 g13 b13 r14 g14 b14 r15 g15 b15 r16 g16 b16 r17 g17 b17 r18 g18 b18 r19 g19 b19 r20 g20 b20 a1 h1 a2 h2 a35 h35 a36 h36 a37 h37 a38 h38 f0 f1 f2 f3 f4 f5 f6 f7 f8 f9 f10 f11 f12 f13 f14 f15 f16 f17 f18 f19 f20 f21 f22 tt
  clear f4 f7 f8 f9 f10 f11 f14 f15 f17 f18
  have e72 : PT 72 = P_by0 := pe72_2 hp
  have e74 : PT 74 = P_rpI := pe74_2 hp
  have e78 : PT 78 = P_ly := pe78_2 hp
  simp only [hF0, hF1, hF3, hF20, hF21, hFp_72, hFp_74, hFp_78, e72, e74, e78, P_by0, P_rpI, P_ly, den_s, den_c, Int.add_zero, List.map_cons, List.map_nil, g13.eq, g14.eq, g15.eq, g16.eq, g17.eq, g18.eq, g19.eq, g20.eq, h1, h2, h35, h36, h37, h38] at f0 f1 f2 f3 f5 f6 f12 f13 f16 f19 f20 f21 f22 ⊢
  subst f3
  subst f5
  subst f6
  subst f20
  obtain ⟨i1, i2, i3, i4, i5⟩ := f21
  omega)
def w_rp0_1_33 : VC := ((bY ++ [(0, 7), (1, 24), (0, 8), (0, 24), (97, 97), (48, 57), (0, 49), (59, 59)]), [(0, [(some 20, 0), (none, 59)], []), (72, [(some 20, 0), (some 14, 2)], [1, 2]), (1, [(some 14, 2), (some 19, 0)], []), (20, [(some 19, 0), (none, 0)], [1]), (3, [(none, 2), (none, 2)], []), (21, [(some 13, 0), (some 18, (-48))], [38, 36]), (21, [(some 13, 0), (none, 2)], [37, 35]), (1, [(none, 1), (none, 0)], []), (3, [(none, 57), (some 18, 0)], []), (3, [(some 18, 0), (none, 48)], []), (1, [(none, 2), (none, (-1))], []), (1, [(some 13, 0), (none, 8)], []), (72, [(some 18, 0), (some 14, 1)], [1, 2]), (0, [(some 17, 0), (none, 97)], []), (1, [(some 17, 0), (none, 115)], []), (1, [(some 17, 0), (none, 109)], []), (72, [(some 17, 0), (some 14, 0)], [1, 2]), (0, [(none, 0), (none, 0)], []), (2, [(none, 0), (some 14, 0)], []), (3, [(some 14, 0), (some 16, 0)], []), (20, [(some 16, 0), (none, 0)], [1]), (74, [(some 14, 0), (some 13, 0), (some 15, 0)], [1, 2, 35, 36]), (78, [], [1])], (3, [(none, 24), (some 14, 3)], []))
set_option maxRecDepth 20000 in
theorem v_rp0_1_33 {PT : PTy} (hp : HP2 PT) : vcOk PT w_rp0_1_33 := vc_iv [(13, 0, 7), (14, 1, 24), (15, 0, 8), (16, 0, 24), (17, 97, 97), (18, 48, 57), (19, 0, 49), (20, 59, 59)] [1, 2, 35, 36, 37, 38] (by decide +kernel) (fun ρ α => by
  intro r13 g13 b13 r14 g14 b14 r15 g15 b15 r16 g16 b16 r17 g17 b17 r18 g18 b18 r19 g19 b19 r20 g20 b20 a1 h1 a2 h2 a35 h35 a36 h36 a37 h37 a38 h38 f0 f1 f2 f3 f4 f5 f6 f7 f8 f9 f10 f11 f12 f13 f14 f15 f16 f17 f18 f19 f20 f21 f22 tt
  clear f4 f7 f8 f9 f10 f11 f14 f15 f17 f18
  have e72 : PT 72 = P_by0 := pe72_2 hp
  have e74 : PT 74 = P_rpI := pe74_2 hp
  have e78 : PT 78 = P_ly := pe78_2 hp
  simp only [hF0, hF1, hF3, hF20, hF21, hFp_72, hFp_74, hFp_78, e72, e74, e78, P_by0, P_rpI, P_ly, den_s, den_c, Int.add_zero, List.map_cons, List.map_nil, g13.eq, g14.eq, g15.eq, g16.eq, g17.eq, g18.eq, g19.eq, g20.eq, h1, h2, h35, h36, h37, h38] at f0 f1 f2 f3 f5 f6 f12 f13 f16 f19 f20 f21 f22 ⊢
  subst f3
  subst f5
  subst f6
  subst f20
  obtain ⟨i1, i2, i3, i4, i5⟩ := f21
  omega)
def w_rp0_1_34 : VC := ((bY ++ [(0, 7), (1, 24), (0, 8), (0, 24), (97, 97), (48, 57), (0, 49), (59, 59)]), [(0, [(some 20, 0), (none, 59)], []), (72, [(some 20, 0), (some 14, 2)], [1, 2]), (1, [(some 14, 2), (some 19, 0)], []), (20, [(some 19, 0), (none, 0)], [1]), (3, [(none, 2), (none, 2)], []), (21, [(some 13, 0), (some 18, (-48))], [38, 36]), (21, [(some 13, 0), (none, 2)], [37, 35]), (1, [(none, 1), (none, 0)], []), (3, [(none, 57), (some 18, 0)], []), (3, [(some 18, 0), (none, 48)], []), (1, [(none, 2), (none, (-1))], []), (1, [(some 13, 0), (none, 8)], []), (72, [(some 18, 0), (some 14, 1)], [1, 2]), (0, [(some 17, 0), (none, 97)], []), (1, [(some 17, 0), (none, 115)], []), (1, [(some 17, 0), (none, 109)], []), (72, [(some 17, 0), (some 14, 0)], [1, 2]), (0, [(none, 0), (none, 0)], []), (2, [(none, 0), (some 14, 0)], []), (3, [(some 14, 0), (some 16, 0)], []), (20, [(some 16, 0), (none, 0)], [1]), (74, [(some 14, 0), (some 13, 0), (some 15, 0)], [1, 2, 35, 36]), (78, [], [1])], (74, [(some 14, 3), (some 13, 1), (some 15, 0)], [1, 2, 37, 38]))
set_option maxRecDepth 20000 in
theorem v_rp0_1_34 {PT : PTy} (hp : HP2 PT) : vcOk PT w_rp0_1_34 := vc_iv [(13, 0, 7), (14, 1, 24), (15, 0, 8), (16, 0, 24), (17, 97, 97), (18, 48, 57), (19, 0, 49), (20, 59, 59)] [1, 2, 35, 36, 37, 38] (by decide +kernel) (fun ρ α => by
  intro r13 g13 b13 r14 g14 b14 r15 g15 b15 r16 g16 b16 r17 g17 b17 r18 g18 b18 r19 g19 b19 r20 g20 b20 a1 h1 a2 h2 a35 h35 a36 h36 a37 h37 a38 h38 f0 f1 f2 f3 f4 f5 f6 f7 f8 f9 f10 f11 f12 f13 f14 f15 f16 f17 f18 f19 f20 f21 f22 tt
  clear f4 f7 f8 f9 f10 f11 f14 f15 f17 f18
  have e72 : PT 72 = P_by0 := pe72_2 hp
  have e74 : PT 74 = P_rpI := pe74_2 hp
  have e78 : PT 78 = P_ly := pe78_2 hp
  simp only [hF0, hF1, hF3, hF20, hF21, hFp_72, hFp_74, hFp_78, e72, e74, e78, P_by0, P_rpI, P_ly, den_s, den_c, Int.add_zero, List.map_cons, List.map_nil, g13.eq, g14.eq, g15.eq, g16.eq, g17.eq, g18.eq, g19.eq, g20.eq, h1, h2, h35, h36, h37, h38] at f0 f1 f2 f3 f5 f6 f12 f13 f16 f19 f20 f21 f22 ⊢
  subst f3
  subst f5
  subst f6
  subst f20
  obtain ⟨i1, i2, i3, i4, i5⟩ := f21
  subst i1
  subst i5
  first
    | exact ⟨by omega, by omega, allG_3 i3 (fun q => by unfold gP; omega) (fun q => by unfold gP; omega) (fun q => by unfold gP; omega) (by omega), tkP_s i4 (by unfold soP; repeat' split; all_goals omega) (by omega), rfl⟩
    | (exfalso; omega))
def w_rp0_1_35 : VC := ((bY ++ [(0, 7), (1, 24), (0, 8), (0, 24), (97, 97), (48, 57), (0, 49), ((-1), 255)]), [(1, [(some 20, 0), (none, 59)], []), (72, [(some 20, 0), (some 14, 2)], [1, 2]), (1, [(some 14, 2), (some 19, 0)], []), (20, [(some 19, 0), (none, 0)], [1]), (3, [(none, 2), (none, 2)], []), (21, [(some 13, 0), (some 18, (-48))], [38, 36]), (21, [(some 13, 0), (none, 2)], [37, 35]), (1, [(none, 1), (none, 0)], []), (3, [(none, 57), (some 18, 0)], []), (3, [(some 18, 0), (none, 48)], []), (1, [(none, 2), (none, (-1))], []), (1, [(some 13, 0), (none, 8)], []), (72, [(some 18, 0), (some 14, 1)], [1, 2]), (0, [(some 17, 0), (none, 97)], []), (1, [(some 17, 0), (none, 115)], []), (1, [(some 17, 0), (none, 109)], []), (72, [(some 17, 0), (some 14, 0)], [1, 2]), (0, [(none, 0), (none, 0)], []), (2, [(none, 0), (some 14, 0)], []), (3, [(some 14, 0), (some 16, 0)], []), (20, [(some 16, 0), (none, 0)], [1]), (74, [(some 14, 0), (some 13, 0), (some 15, 0)], [1, 2, 35, 36]), (78, [], [1])], (76, [(some 14, 2), (some 15, 0)], [1, 2, 37, 38]))
set_option maxRecDepth 20000 in
theorem v_rp0_1_35 {PT : PTy} (hp : HP2 PT) : vcOk PT w_rp0_1_35 := vc_iv [(13, 0, 7), (14, 1, 24), (15, 0, 8), (16, 0, 24), (17, 97, 97), (18, 48, 57), (19, 0, 49), (20, (-1), 255)] [1, 2, 35, 36, 37, 38] (by decide +kernel) (fun ρ α => by
  intro r13 g13 b13 r14 g14 b14 r15 g15 b15 r16 g16 b16 r17 g17 b17 r18 g18 b18 r19 g19 b19 r20 g20 b20 a1 h1 a2 h2 a35 h35 a36 h36 a37 h37 a38 h38 f0 f1 f2 f3 f4 f5 f6 f7 f8 f9 f10 f11 f12 f13 f14 f15 f16 f17 f18 f19 f20 f21 f22 tt
  clear f4 f7 f8 f9 f10 f11 f14 f15 f17 f18
  have e72 : PT 72 = P_by0 := pe72_2 hp
  have e74 : PT 74 = P_rpI := pe74_2 hp
  have e76 : PT 76 = P_rdP := pe76_2 hp
  have e78 : PT 78 = P_ly := pe78_2 hp
  simp only [hF0, hF1, hF3, hF20, hF21, hFp_72, hFp_74, hFp_76, hFp_78, e72, e74, e76, e78, P_by0, P_rpI, P_rdP, P_ly, den_s, den_c, Int.add_zero, List.map_cons, List.map_nil, g13.eq, g14.eq, g15.eq, g16.eq, g17.eq, g18.eq, g19.eq, g20.eq, h1, h2, h35, h36, h37, h38] at f0 f1 f2 f3 f5 f6 f12 f13 f16 f19 f20 f21 f22 ⊢
  subst f3
  subst f5
  subst f6
  subst f20
  obtain ⟨i1, i2, i3, i4, i5⟩ := f21
  by_cases h : (r14 + 2) < a1 0
  · subst i1
    subst i5
    first
      | (exfalso; omega)
      | exact rdP_f (Or.inr (Or.inl ⟨by omega, by omega, allG_3 i3 (fun q => by unfold gP; omega) (fun q => by unfold gP; omega) (fun q => by unfold gP; omega) (by omega), by unfold gP; omega⟩)) (by omega) (by omega)
  · subst i1
    subst i5
    first
      | (exfalso; omega)
      | exact rdP_f (Or.inr (Or.inr ⟨by omega, allG_3 i3 (fun q => by unfold gP; omega) (fun q => by unfold gP; omega) (fun q => by unfold gP; omega) (by omega), by omega⟩)) (by omega) (by omega))
def w_rp0_1_36 : VC := ((bY ++ [(0, 7), (1, 24), (0, 8), (0, 24), (97, 97), (48, 57), (3, 26)]), [(1, [(none, 0), (none, 1)], []), (0, [(none, 0), (none, 0)], []), (0, [(some 14, 2), (some 19, 0)], []), (20, [(some 19, 0), (none, 0)], [1]), (3, [(none, 2), (none, 2)], []), (21, [(some 13, 0), (some 18, (-48))], [38, 36]), (21, [(some 13, 0), (none, 2)], [37, 35]), (1, [(none, 1), (none, 0)], []), (3, [(none, 57), (some 18, 0)], []), (3, [(some 18, 0), (none, 48)], []), (1, [(none, 2), (none, (-1))], []), (1, [(some 13, 0), (none, 8)], []), (72, [(some 18, 0), (some 14, 1)], [1, 2]), (0, [(some 17, 0), (none, 97)], []), (1, [(some 17, 0), (none, 115)], []), (1, [(some 17, 0), (none, 109)], []), (72, [(some 17, 0), (some 14, 0)], [1, 2]), (0, [(none, 0), (none, 0)], []), (2, [(none, 0), (some 14, 0)], []), (3, [(some 14, 0), (some 16, 0)], []), (20, [(some 16, 0), (none, 0)], [1]), (74, [(some 14, 0), (some 13, 0), (some 15, 0)], [1, 2, 35, 36]), (78, [], [1])], (76, [(none, (-1)), (some 13, 1)], [1, 2, 37, 38]))
set_option maxRecDepth 20000 in
theorem v_rp0_1_36 {PT : PTy} (hp : HP2 PT) : vcOk PT w_rp0_1_36 := vc_iv [(13, 0, 7), (14, 1, 24), (15, 0, 8), (16, 0, 24), (17, 97, 97), (18, 48, 57), (19, 3, 26)] [1, 2, 35, 36, 37, 38] (by decide +kernel) (fun ρ α => by
  intro r13 g13 b13 r14 g14 b14 r15 g15 b15 r16 g16 b16 r17 g17 b17 r18 g18 b18 r19 g19 b19 a1 h1 a2 h2 a35 h35 a36 h36 a37 h37 a38 h38 f0 f1 f2 f3 f4 f5 f6 f7 f8 f9 f10 f11 f12 f13 f14 f15 f16 f17 f18 f19 f20 f21 f22 tt
  clear f0 f1 f4 f7 f8 f9 f10 f11 f14 f15 f17 f18
  have e72 : PT 72 = P_by0 := pe72_2 hp
  have e74 : PT 74 = P_rpI := pe74_2 hp
  have e76 : PT 76 = P_rdP := pe76_2 hp
  have e78 : PT 78 = P_ly := pe78_2 hp
  simp only [hF0, hF3, hF20, hF21, hFp_72, hFp_74, hFp_76, hFp_78, e72, e74, e76, e78, P_by0, P_rpI, P_rdP, P_ly, den_s, den_c, Int.add_zero, List.map_cons, List.map_nil, g13.eq, g14.eq, g15.eq, g16.eq, g17.eq, g18.eq, g19.eq, h1, h2, h35, h36, h37, h38] at f2 f3 f5 f6 f12 f13 f16 f19 f20 f21 f22 ⊢
  subst f3
  subst f5
  subst f6
  subst f20
  obtain ⟨i1, i2, i3, i4, i5⟩ := f21
  subst i1
  subst i5
  first
    | exact rdP_w ⟨allG_3 i3 (fun q => by unfold gP; omega) (fun q => by unfold gP; omega) (fun q => by unfold gP; omega) (by omega), by omega⟩ (by omega) (tkP_s i4 (by unfold soP; repeat' split; all_goals omega) (by omega))
    | exact rdP_w ⟨allG_3 i3 (fun q => by unfold gP; omega) (fun q => by unfold gP; omega) (fun q => by unfold gP; omega) (by omega), by omega⟩ (by omega) (fun j h1 h2 => by omega)
    | (exfalso; omega))
def w_rp0_1_37 : VC := ((bY ++ [(8, 8), (1, 24), (0, 8), (0, 24), (115, 115), ((-1), 255)]), [(2, [(none, 0), (none, 2)], []), (0, [(some 13, 0), (none, 8)], []), (72, [(some 18, 0), (some 14, 1)], [1, 2]), (0, [(some 17, 0), (none, 115)], []), (1, [(some 17, 0), (none, 109)], []), (72, [(some 17, 0), (some 14, 0)], [1, 2]), (0, [(none, 0), (none, 0)], []), (2, [(none, 0), (some 14, 0)], []), (3, [(some 14, 0), (some 16, 0)], []), (20, [(some 16, 0), (none, 0)], [1]), (74, [(some 14, 0), (some 13, 0), (some 15, 0)], [1, 2, 35, 36]), (78, [], [1])], (76, [(some 14, 0), (some 15, 0)], [1, 2, 35, 36]))
set_option maxRecDepth 20000 in
theorem v_rp0_1_37 {PT : PTy} (hp : HP2 PT) : vcOk PT w_rp0_1_37 := vc_iv [(13, 8, 8), (14, 1, 24), (15, 0, 8), (16, 0, 24), (17, 115, 115), (18, (-1), 255)] [1, 2, 35, 36] (by decide +kernel) (fun ρ α => by
  intro r13 g13 b13 r14 g14 b14 r15 g15 b15 r16 g16 b16 r17 g17 b17 r18 g18 b18 a1 h1 a2 h2 a35 h35 a36 h36 f0 f1 f2 f3 f4 f5 f6 f7 f8 f9 f10 f11 tt
  clear f0 f4 f6 f7
  have e72 : PT 72 = P_by0 := pe72_2 hp
  have e74 : PT 74 = P_rpI := pe74_2 hp
  have e76 : PT 76 = P_rdP := pe76_2 hp
  have e78 : PT 78 = P_ly := pe78_2 hp
  simp only [hF0, hF3, hF20, hFp_72, hFp_74, hFp_76, hFp_78, e72, e74, e76, e78, P_by0, P_rpI, P_rdP, P_ly, den_s, den_c, Int.add_zero, List.map_cons, List.map_nil, g13.eq, g14.eq, g15.eq, g16.eq, g17.eq, g18.eq, h1, h2, h35, h36] at f1 f2 f3 f5 f8 f9 f10 f11 ⊢
  subst f9
  obtain ⟨i1, i2, i3, i4, i5⟩ := f10
  by_cases h : r14 < a1 0
  · subst i1
    subst i5
    first
      | (exfalso; omega)
      | exact rdP_f (Or.inr (Or.inl ⟨by omega, by omega, allG_3 i3 (fun q => by unfold gP; omega) (fun q => by unfold gP; omega) (fun q => by unfold gP; omega) (by omega), by unfold gP; omega⟩)) (by omega) (by omega)
  · subst i1
    subst i5
    first
      | (exfalso; omega)
      | exact rdP_f (Or.inr (Or.inr ⟨by omega, allG_3 i3 (fun q => by unfold gP; omega) (fun q => by unfold gP; omega) (fun q => by unfold gP; omega) (by omega), by omega⟩)) (by omega) (by omega))
def w_rp0_1_38 : VC := ((bY ++ [(0, 7), (1, 24), (0, 8), (0, 24), (115, 115), ((-1), 47)]), [(2, [(none, 1), (none, 2)], []), (0, [(none, 0), (none, 0)], []), (2, [(some 18, 0), (none, 48)], []), (1, [(none, 1), (none, (-1))], []), (1, [(some 13, 0), (none, 8)], []), (72, [(some 18, 0), (some 14, 1)], [1, 2]), (0, [(some 17, 0), (none, 115)], []), (1, [(some 17, 0), (none, 109)], []), (72, [(some 17, 0), (some 14, 0)], [1, 2]), (0, [(none, 0), (none, 0)], []), (2, [(none, 0), (some 14, 0)], []), (3, [(some 14, 0), (some 16, 0)], []), (20, [(some 16, 0), (none, 0)], [1]), (74, [(some 14, 0), (some 13, 0), (some 15, 0)], [1, 2, 35, 36]), (78, [], [1])], (76, [(some 14, 1), (some 15, 0)], [1, 2, 35, 36]))
set_option maxRecDepth 20000 in
theorem v_rp0_1_38 {PT : PTy} (hp : HP2 PT) : vcOk PT w_rp0_1_38 := vc_iv [(13, 0, 7), (14, 1, 24), (15, 0, 8), (16, 0, 24), (17, 115, 115), (18, (-1), 47)] [1, 2, 35, 36] (by decide +kernel) (fun ρ α => by
  intro r13 g13 b13 r14 g14 b14 r15 g15 b15 r16 g16 b16 r17 g17 b17 r18 g18 b18 a1 h1 a2 h2 a35 h35 a36 h36 f0 f1 f2 f3 f4 f5 f6 f7 f8 f9 f10 f11 f12 f13 f14 tt
  clear f0 f1 f2 f3 f4 f7 f9 f10
  have e72 : PT 72 = P_by0 := pe72_2 hp
  have e74 : PT 74 = P_rpI := pe74_2 hp
  have e76 : PT 76 = P_rdP := pe76_2 hp
  have e78 : PT 78 = P_ly := pe78_2 hp
  simp only [hF0, hF3, hF20, hFp_72, hFp_74, hFp_76, hFp_78, e72, e74, e76, e78, P_by0, P_rpI, P_rdP, P_ly, den_s, den_c, Int.add_zero, List.map_cons, List.map_nil, g13.eq, g14.eq, g15.eq, g16.eq, g17.eq, g18.eq, h1, h2, h35, h36] at f5 f6 f8 f11 f12 f13 f14 ⊢
  subst f12
  obtain ⟨i1, i2, i3, i4, i5⟩ := f13
  by_cases h : (r14 + 1) < a1 0
  · subst i1
    subst i5
    first
      | (exfalso; omega)
      | exact rdP_f (Or.inr (Or.inl ⟨by omega, by omega, allG_3 i3 (fun q => by unfold gP; omega) (fun q => by unfold gP; omega) (fun q => by unfold gP; omega) (by omega), by unfold gP; omega⟩)) (by omega) (by omega)
  · subst i1
    subst i5
    first
      | (exfalso; omega)
      | exact rdP_f (Or.inr (Or.inr ⟨by omega, allG_3 i3 (fun q => by unfold gP; omega) (fun q => by unfold gP; omega) (fun q => by unfold gP; omega) (by omega), by omega⟩)) (by omega) (by omega))
def w_rp0_1_39 : VC := ((bY ++ [(0, 7), (1, 24), (0, 8), (0, 24), (115, 115), (58, 255)]), [(2, [(none, 1), (none, 2)], []), (0, [(none, 0), (none, 0)], []), (2, [(none, 57), (some 18, 0)], []), (3, [(some 18, 0), (none, 48)], []), (1, [(none, 1), (none, (-1))], []), (1, [(some 13, 0), (none, 8)], []), (72, [(some 18, 0), (some 14, 1)], [1, 2]), (0, [(some 17, 0), (none, 115)], []), (1, [(some 17, 0), (none, 109)], []), (72, [(some 17, 0), (some 14, 0)], [1, 2]), (0, [(none, 0), (none, 0)], []), (2, [(none, 0), (some 14, 0)], []), (3, [(some 14, 0), (some 16, 0)], []), (20, [(some 16, 0), (none, 0)], [1]), (74, [(some 14, 0), (some 13, 0), (some 15, 0)], [1, 2, 35, 36]), (78, [], [1])], (76, [(some 14, 1), (some 15, 0)], [1, 2, 35, 36]))
set_option maxRecDepth 20000 in
theorem v_rp0_1_39 {PT : PTy} (hp : HP2 PT) : vcOk PT w_rp0_1_39 := vc_iv [(13, 0, 7), (14, 1, 24), (15, 0, 8), (16, 0, 24), (17, 115, 115), (18, 58, 255)] [1, 2, 35, 36] (by decide +kernel) (fun ρ α => by
  intro r13 g13 b13 r14 g14 b14 r15 g15 b15 r16 g16 b16 r17 g17 b17 r18 g18 b18 a1 h1 a2 h2 a35 h35 a36 h36 f0 f1 f2 f3 f4 f5 f6 f7 f8 f9 f10 f11 f12 f13 f14 f15 tt
  clear f0 f1 f2 f3 f4 f5 f8 f10 f11
  have e72 : PT 72 = P_by0 := pe72_2 hp
  have e74 : PT 74 = P_rpI := pe74_2 hp
  have e76 : PT 76 = P_rdP := pe76_2 hp
  have e78 : PT 78 = P_ly := pe78_2 hp
  simp only [hF0, hF3, hF20, hFp_72, hFp_74, hFp_76, hFp_78, e72, e74, e76, e78, P_by0, P_rpI, P_rdP, P_ly, den_s, den_c, Int.add_zero, List.map_cons, List.map_nil, g13.eq, g14.eq, g15.eq, g16.eq, g17.eq, g18.eq, h1, h2, h35, h36] at f6 f7 f9 f12 f13 f14 f15 ⊢
  subst f13
  obtain ⟨i1, i2, i3, i4, i5⟩ := f14
  by_cases h : (r14 + 1) < a1 0
  · subst i1
    subst i5
    first
      | (exfalso; omega)
      | exact rdP_f (Or.inr (Or.inl ⟨by omega, by omega, allG_3 i3 (fun q => by unfold gP; omega) (fun q => by unfold gP; omega) (fun q => by unfold gP; omega) (by omega), by unfold gP; omega⟩)) (by omega) (by omega)
  · subst i1
    subst i5
    first
      | (exfalso; omega)
      | exact rdP_f (Or.inr (Or.inr ⟨by omega, allG_3 i3 (fun q => by unfold gP; omega) (fun q => by unfold gP; omega) (fun q => by unfold gP; omega) (by omega), by omega⟩)) (by omega) (by omega))
def w_rp0_1_40 : VC := ((bY ++ [(0, 7), (1, 24), (0, 8), (0, 24), (115, 115), (48, 57), (0, 49), (59, 59)]), [(0, [(some 20, 0), (none, 59)], []), (72, [(some 20, 0), (some 14, 2)], [1, 2]), (1, [(some 14, 2), (some 19, 0)], []), (20, [(some 19, 0), (none, 0)], [1]), (3, [(none, 2), (none, 2)], []), (21, [(some 13, 0), (some 18, (-48))], [38, 36]), (21, [(some 13, 0), (none, 1)], [37, 35]), (1, [(none, 1), (none, 0)], []), (3, [(none, 57), (some 18, 0)], []), (3, [(some 18, 0), (none, 48)], []), (1, [(none, 1), (none, (-1))], []), (1, [(some 13, 0), (none, 8)], []), (72, [(some 18, 0), (some 14, 1)], [1, 2]), (0, [(some 17, 0), (none, 115)], []), (1, [(some 17, 0), (none, 109)], []), (72, [(some 17, 0), (some 14, 0)], [1, 2]), (0, [(none, 0), (none, 0)], []), (2, [(none, 0), (some 14, 0)], []), (3, [(some 14, 0), (some 16, 0)], []), (20, [(some 16, 0), (none, 0)], [1]), (74, [(some 14, 0), (some 13, 0), (some 15, 0)], [1, 2, 35, 36]), (78, [], [1])], (3, [(some 14, 3), (none, 0)], []))
set_option maxRecDepth 20000 in
theorem v_rp0_1_40 {PT : PTy} (hp : HP2 PT) : vcOk PT w_rp0_1_40 := vc_iv [(13, 0, 7), (14, 1, 24), (15, 0, 8), (16, 0, 24), (17, 115, 115), (18, 48, 57), (19, 0, 49), (20, 59, 59)] [1, 2, 35, 36, 37, 38] (by decide +kernel) (fun ρ α => by
  intro r13 g13 b13 r14 g14 b14 r15 g15 b15 r16 g16 b16 r17 g17 b17 r18 g18 b18 r19 g19 b19 r20 g20 b20 a1 h1 a2 h2 a35 h35 a36 h36 a37 h37 a38 h38 f0 f1 f2 f3 f4 f5 f6 f7 f8 f9 f10 f11 f12 f13 f14 f15 f16 f17 f18 f19 f20 f21 tt
  clear f4 f7 f8 f9 f10 f11 f14 f16 f17
  have e72 : PT 72 = P_by0 := pe72_2 hp
  have e74 : PT 74 = P_rpI := pe74_2 hp
  have e78 : PT 78 = P_ly := pe78_2 hp
  simp only [hF0, hF1, hF3, hF20, hF21, hFp_72, hFp_74, hFp_78, e72, e74, e78, P_by0, P_rpI, P_ly, den_s, den_c, Int.add_zero, List.map_cons, List.map_nil, g13.eq, g14.eq, g15.eq, g16.eq, g17.eq, g18.eq, g19.eq, g20.eq, h1, h2, h35, h36, h37, h38] at f0 f1 f2 f3 f5 f6 f12 f13 f15 f18 f19 f20 f21 ⊢
  subst f3
  subst f5
  subst f6
  subst f19
  obtain ⟨i1, i2, i3, i4, i5⟩ := f20
  omega)
def w_rp0_1_41 : VC := ((bY ++ [(0, 7), (1, 24), (0, 8), (0, 24), (115, 115), (48, 57), (0, 49), (59, 59)]), [(0, [(some 20, 0), (none, 59)], []), (72, [(some 20, 0), (some 14, 2)], [1, 2]), (1, [(some 14, 2), (some 19, 0)], []), (20, [(some 19, 0), (none, 0)], [1]), (3, [(none, 2), (none, 2)], []), (21, [(some 13, 0), (some 18, (-48))], [38, 36]), (21, [(some 13, 0), (none, 1)], [37, 35]), (1, [(none, 1), (none, 0)], []), (3, [(none, 57), (some 18, 0)], []), (3, [(some 18, 0), (none, 48)], []), (1, [(none, 1), (none, (-1))], []), (1, [(some 13, 0), (none, 8)], []), (72, [(some 18, 0), (some 14, 1)], [1, 2]), (0, [(some 17, 0), (none, 115)], []), (1, [(some 17, 0), (none, 109)], []), (72, [(some 17, 0), (some 14, 0)], [1, 2]), (0, [(none, 0), (none, 0)], []), (2, [(none, 0), (some 14, 0)], []), (3, [(some 14, 0), (some 16, 0)], []), (20, [(some 16, 0), (none, 0)], [1]), (74, [(some 14, 0), (some 13, 0), (some 15, 0)], [1, 2, 35, 36]), (78, [], [1])], (3, [(none, 24), (some 14, 3)], []))
set_option maxRecDepth 20000 in
theorem v_rp0_1_41 {PT : PTy} (hp : HP2 PT) : vcOk PT w_rp0_1_41 := vc_iv [(13, 0, 7), (14, 1, 24), (15, 0, 8), (16, 0, 24), (17, 115, 115), (18, 48, 57), (19, 0, 49), (20, 59, 59)] [1, 2, 35, 36, 37, 38] (by decide +kernel) (fun ρ α => by
  intro r13 g13 b13 r14 g14 b14 r15 g15 b15 r16 g16 b16 r17 g17 b17 r18 g18 b18 r19 g19 b19 r20 g20 b20 a1 h1 a2 h2 a35 h35 a36 h36 a37 h37 a38 h38 f0 f1 f2 f3 f4 f5 f6 f7 f8 f9 f10 f11 f12 f13 f14 f15 f16 f17 f18 f19 f20 f21 tt
  clear f4 f7 f8 f9 f10 f11 f14 f16 f17
  have e72 : PT 72 = P_by0 := pe72_2 hp
  have e74 : PT 74 = P_rpI := pe74_2 hp
  have e78 : PT 78 = P_ly := pe78_2 hp
  simp only [hF0, hF1, hF3, hF20, hF21, hFp_72, hFp_74, hFp_78, e72, e74, e78, P_by0, P_rpI, P_ly, den_s, den_c, Int.add_zero, List.map_cons, List.map_nil, g13.eq, g14.eq, g15.eq, g16.eq, g17.eq, g18.eq, g19.eq, g20.eq, h1, h2, h35, h36, h37, h38] at f0 f1 f2 f3 f5 f6 f12 f13 f15 f18 f19 f20 f21 ⊢
  subst f3
  subst f5
  subst f6
  subst f19
  obtain ⟨i1, i2, i3, i4, i5⟩ := f20
  omega)
def w_rp0_1_42 : VC := ((bY ++ [(0, 7), (1, 24), (0, 8), (0, 24), (115, 115), (48, 57), (0, 49), (59, 59)]), [(0, [(some 20, 0), (none, 59)], []), (72, [(some 20, 0), (some 14, 2)], [1, 2]), (1, [(some 14, 2), (some 19, 0)], []), (20, [(some 19, 0), (none, 0)], [1]), (3, [(none, 2), (none, 2)], []), (21, [(some 13, 0), (some 18, (-48))], [38, 36]), (21, [(some 13, 0), (none, 1)], [37, 35]), (1, [(none, 1), (none, 0)], []), (3, [(none, 57), (some 18, 0)], []), (3, [(some 18, 0), (none, 48)], []), (1, [(none, 1), (none, (-1))], []), (1, [(some 13, 0), (none, 8)], []), (72, [(some 18, 0), (some 14, 1)], [1, 2]), (0, [(some 17, 0), (none, 115)], []), (1, [(some 17, 0), (none, 109)], []), (72, [(some 17, 0), (some 14, 0)], [1, 2]), (0, [(none, 0), (none, 0)], []), (2, [(none, 0), (some 14, 0)], []), (3, [(some 14, 0), (some 16, 0)], []), (20, [(some 16, 0), (none, 0)], [1]), (74, [(some 14, 0), (some 13, 0), (some 15, 0)], [1, 2, 35, 36]), (78, [], [1])], (74, [(some 14, 3), (some 13, 1), (some 15, 0)], [1, 2, 37, 38]))
set_option maxRecDepth 20000 in
theorem v_rp0_1_42 {PT : PTy} (hp : HP2 PT) : vcOk PT w_rp0_1_42 := vc_iv [(13, 0, 7), (14, 1, 24), (15, 0, 8), (16, 0, 24), (17, 115, 115), (18, 48, 57), (19, 0, 49), (20, 59, 59)] [1, 2, 35, 36, 37, 38] (by decide +kernel) (fun ρ α => by
  intro r13 g13 b13 r14 g14 b14 r15 g15 b15 r16 g16 b16 r17 g17 b17 r18 g18 b18 r19 g19 b19 r20 g20 b20 a1 h1 a2 h2 a35 h35 a36 h36 a37 h37 a38 h38 f0 f1 f2 f3 f4 f5 f6 f7 f8 f9 f10 f11 f12 f13 f14 f15 f16 f17 f18 f19 f20 f21 tt
  clear f4 f7 f8 f9 f10 f11 f14 f16 f17
  have e72 : PT 72 = P_by0 := pe72_2 hp
  have e74 : PT 74 = P_rpI := pe74_2 hp
  have e78 : PT 78 = P_ly := pe78_2 hp
  simp only [hF0, hF1, hF3, hF20, hF21, hFp_72, hFp_74, hFp_78, e72, e74, e78, P_by0, P_rpI, P_ly, den_s, den_c, Int.add_zero, List.map_cons, List.map_nil, g13.eq, g14.eq, g15.eq, g16.eq, g17.eq, g18.eq, g19.eq, g20.eq, h1, h2, h35, h36, h37, h38] at f0 f1 f2 f3 f5 f6 f12 f13 f15 f18 f19 f20 f21 ⊢
  subst f3
  subst f5
  subst f6
  subst f19
  obtain ⟨i1, i2, i3, i4, i5⟩ := f20
  subst i1
  subst i5
  first
    | exact ⟨by omega, by omega, allG_3 i3 (fun q => by unfold gP; omega) (fun q => by unfold gP; omega) (fun q => by unfold gP; omega) (by omega), tkP_s i4 (by unfold soP; repeat' split; all_goals omega) (by omega), rfl⟩
    | (exfalso; omega))
def w_rp0_1_43 : VC := ((bY ++ [(0, 7), (1, 24), (0, 8), (0, 24), (115, 115), (48, 57), (0, 49), ((-1), 255)]), [(1, [(some 20, 0), (none, 59)], []), (72, [(some 20, 0), (some 14, 2)], [1, 2]), (1, [(some 14, 2), (some 19, 0)], []), (20, [(some 19, 0), (none, 0)], [1]), (3, [(none, 2), (none, 2)], []), (21, [(some 13, 0), (some 18, (-48))], [38, 36]), (21, [(some 13, 0), (none, 1)], [37, 35]), (1, [(none, 1), (none, 0)], []), (3, [(none, 57), (some 18, 0)], []), (3, [(some 18, 0), (none, 48)], []), (1, [(none, 1), (none, (-1))], []), (1, [(some 13, 0), (none, 8)], []), (72, [(some 18, 0), (some 14, 1)], [1, 2]), (0, [(some 17, 0), (none, 115)], []), (1, [(some 17, 0), (none, 109)], []), (72, [(some 17, 0), (some 14, 0)], [1, 2]), (0, [(none, 0), (none, 0)], []), (2, [(none, 0), (some 14, 0)], []), (3, [(some 14, 0), (some 16, 0)], []), (20, [(some 16, 0), (none, 0)], [1]), (74, [(some 14, 0), (some 13, 0), (some 15, 0)], [1, 2, 35, 36]), (78, [], [1])], (76, [(some 14, 2), (some 15, 0)], [1, 2, 37, 38]))
set_option maxRecDepth 20000 in
theorem v_rp0_1_43 {PT : PTy} (hp : HP2 PT) : vcOk PT w_rp0_1_43 := vc_iv [(13, 0, 7), (14, 1, 24), (15, 0, 8), (16, 0, 24), (17, 115, 115), (18, 48, 57), (19, 0, 49), (20, (-1), 255)] [1, 2, 35, 36, 37, 38] (by decide +kernel) (fun ρ α => by
  intro r13 g13 b13 r14 g14 b14 r15 g15 b15 r16 g16 b16 r17 g17 b17 r18 g18 b18 r19 g19 b19 r20 g20 b20 a1 h1 a2 h2 a35 h35 a36 h36 a37 h37 a38 h38 f0 f1 f2 f3 f4 f5 f6 f7 f8 f9 f10 f11 f12 f13 f14 f15 f16 f17 f18 f19 f20 f21 tt
  clear f4 f7 f8 f9 f10 f11 f14 f16 f17
  have e72 : PT 72 = P_by0 := pe72_2 hp
  have e74 : PT 74 = P_rpI := pe74_2 hp
  have e76 : PT 76 = P_rdP := pe76_2 hp
  have e78 : PT 78 = P_ly := pe78_2 hp
  simp only [hF0, hF1, hF3, hF20, hF21, hFp_72, hFp_74, hFp_76, hFp_78, e72, e74, e76, e78, P_by0, P_rpI, P_rdP, P_ly, den_s, den_c, Int.add_zero, List.map_cons, List.map_nil, g13.eq, g14.eq, g15.eq, g16.eq, g17.eq, g18.eq, g19.eq, g20.eq, h1, h2, h35, h36, h37, h38] at f0 f1 f2 f3 f5 f6 f12 f13 f15 f18 f19 f20 f21 ⊢
  subst f3
  subst f5
  subst f6
  subst f19
  obtain ⟨i1, i2, i3, i4, i5⟩ := f20
  by_cases h : (r14 + 2) < a1 0
  · subst i1
    subst i5
    first
      | (exfalso; omega)
      | exact rdP_f (Or.inr (Or.inl ⟨by omega, by omega, allG_3 i3 (fun q => by unfold gP; omega) (fun q => by unfold gP; omega) (fun q => by unfold gP; omega) (by omega), by unfold gP; omega⟩)) (by omega) (by omega)
  · subst i1
    subst i5
    first
      | (exfalso; omega)
      | exact rdP_f (Or.inr (Or.inr ⟨by omega, allG_3 i3 (fun q => by unfold gP; omega) (fun q => by unfold gP; omega) (fun q => by unfold gP; omega) (by omega), by omega⟩)) (by omega) (by omega))
def w_rp0_1_44 : VC := ((bY ++ [(0, 7), (1, 24), (0, 8), (0, 24), (115, 115), (48, 57), (3, 26)]), [(1, [(none, 0), (none, 1)], []), (0, [(none, 0), (none, 0)], []), (0, [(some 14, 2), (some 19, 0)], []), (20, [(some 19, 0), (none, 0)], [1]), (3, [(none, 2), (none, 2)], []), (21, [(some 13, 0), (some 18, (-48))], [38, 36]), (21, [(some 13, 0), (none, 1)], [37, 35]), (1, [(none, 1), (none, 0)], []), (3, [(none, 57), (some 18, 0)], []), (3, [(some 18, 0), (none, 48)], []), (1, [(none, 1), (none, (-1))], []), (1, [(some 13, 0), (none, 8)], []), (72, [(some 18, 0), (some 14, 1)], [1, 2]), (0, [(some 17, 0), (none, 115)], []), (1, [(some 17, 0), (none, 109)], []), (72, [(some 17, 0), (some 14, 0)], [1, 2]), (0, [(none, 0), (none, 0)], []), (2, [(none, 0), (some 14, 0)], []), (3, [(some 14, 0), (some 16, 0)], []), (20, [(some 16, 0), (none, 0)], [1]), (74, [(some 14, 0), (some 13, 0), (some 15, 0)], [1, 2, 35, 36]), (78, [], [1])], (76, [(none, (-1)), (some 13, 1)], [1, 2, 37, 38]))
set_option maxRecDepth 20000 in
theorem v_rp0_1_44 {PT : PTy} (hp : HP2 PT) : vcOk PT w_rp0_1_44 := vc_iv [(13, 0, 7), (14, 1, 24), (15, 0, 8), (16, 0, 24), (17, 115, 115), (18, 48, 57), (19, 3, 26)] [1, 2, 35, 36, 37, 38] (by decide +kernel) (fun ρ α => by
  intro r13 g13 b13 r14 g14 b14 r15 g15 b15 r16 g16 b16 r17 g17 b17 r18 g18 b18 r19 g19 b19 a1 h1 a2 h2 a35 h35 a36 h36 a37 h37 a38 h38 f0 f1 f2 f3 f4 f5 f6 f7 f8 f9 f10 f11 f12 f13 f14 f15 f16 f17 f18 f19 f20 f21 tt
  clear f0 f1 f4 f7 f8 f9 f10 f11 f14 f16 f17
  have e72 : PT 72 = P_by0 := pe72_2 hp
  have e74 : PT 74 = P_rpI := pe74_2 hp
  have e76 : PT 76 = P_rdP := pe76_2 hp
  have e78 : PT 78 = P_ly := pe78_2 hp
  simp only [hF0, hF3, hF20, hF21, hFp_72, hFp_74, hFp_76, hFp_78, e72, e74, e76, e78, P_by0, P_rpI, P_rdP, P_ly, den_s, den_c, Int.add_zero, List.map_cons, List.map_nil, g13.eq, g14.eq, g15.eq, g16.eq, g17.eq, g18.eq, g19.eq, h1, h2, h35, h36, h37, h38] at f2 f3 f5 f6 f12 f13 f15 f18 f19 f20 f21 ⊢
  subst f3
  subst f5
  subst f6
  subst f19
  obtain ⟨i1, i2, i3, i4, i5⟩ := f20
  subst i1
  subst i5
  first
    | exact rdP_w ⟨allG_3 i3 (fun q => by unfold gP; omega) (fun q => by unfold gP; omega) (fun q => by unfold gP; omega) (by omega), by omega⟩ (by omega) (tkP_s i4 (by unfold soP; repeat' split; all_goals omega) (by omega))
    | exact rdP_w ⟨allG_3 i3 (fun q => by unfold gP; omega) (fun q => by unfold gP; omega) (fun q => by unfold gP; omega) (by omega), by omega⟩ (by omega) (fun j h1 h2 => by omega)
    | (exfalso; omega))
def w_rp0_1_45 : VC := ((bY ++ [(8, 8), (1, 24), (0, 8), (0, 24), (109, 109), ((-1), 255)]), [(2, [(none, 0), (none, 2)], []), (0, [(some 13, 0), (none, 8)], []), (72, [(some 18, 0), (some 14, 1)], [1, 2]), (0, [(some 17, 0), (none, 109)], []), (72, [(some 17, 0), (some 14, 0)], [1, 2]), (0, [(none, 0), (none, 0)], []), (2, [(none, 0), (some 14, 0)], []), (3, [(some 14, 0), (some 16, 0)], []), (20, [(some 16, 0), (none, 0)], [1]), (74, [(some 14, 0), (some 13, 0), (some 15, 0)], [1, 2, 35, 36]), (78, [], [1])], (76, [(some 14, 0), (some 15, 0)], [1, 2, 35, 36]))
set_option maxRecDepth 20000 in
theorem v_rp0_1_45 {PT : PTy} (hp : HP2 PT) : vcOk PT w_rp0_1_45 := vc_iv [(13, 8, 8), (14, 1, 24), (15, 0, 8), (16, 0, 24), (17, 109, 109), (18, (-1), 255)] [1, 2, 35, 36] (by decide +kernel) (fun ρ α => by
  intro r13 g13 b13 r14 g14 b14 r15 g15 b15 r16 g16 b16 r17 g17 b17 r18 g18 b18 a1 h1 a2 h2 a35 h35 a36 h36 f0 f1 f2 f3 f4 f5 f6 f7 f8 f9 f10 tt
  clear f0 f5 f6
  have e72 : PT 72 = P_by0 := pe72_2 hp
  have e74 : PT 74 = P_rpI := pe74_2 hp
  have e76 : PT 76 = P_rdP := pe76_2 hp
  have e78 : PT 78 = P_ly := pe78_2 hp
  simp only [hF0, hF3, hF20, hFp_72, hFp_74, hFp_76, hFp_78, e72, e74, e76, e78, P_by0, P_rpI, P_rdP, P_ly, den_s, den_c, Int.add_zero, List.map_cons, List.map_nil, g13.eq, g14.eq, g15.eq, g16.eq, g17.eq, g18.eq, h1, h2, h35, h36] at f1 f2 f3 f4 f7 f8 f9 f10 ⊢
  subst f8
  obtain ⟨i1, i2, i3, i4, i5⟩ := f9
  by_cases h : r14 < a1 0
  · subst i1
    subst i5
    first
      | (exfalso; omega)
      | exact rdP_f (Or.inr (Or.inl ⟨by omega, by omega, allG_3 i3 (fun q => by unfold gP; omega) (fun q => by unfold gP; omega) (fun q => by unfold gP; omega) (by omega), by unfold gP; omega⟩)) (by omega) (by omega)
  · subst i1
    subst i5
    first
      | (exfalso; omega)
      | exact rdP_f (Or.inr (Or.inr ⟨by omega, allG_3 i3 (fun q => by unfold gP; omega) (fun q => by unfold gP; omega) (fun q => by unfold gP; omega) (by omega), by omega⟩)) (by omega) (by omega))
def w_rp0_1_46 : VC := ((bY ++ [(0, 7), (1, 24), (0, 8), (0, 24), (109, 109), ((-1), 47)]), [(2, [(none, 1), (none, 2)], []), (0, [(none, 0), (none, 0)], []), (2, [(some 18, 0), (none, 48)], []), (1, [(none, 0), (none, (-1))], []), (1, [(some 13, 0), (none, 8)], []), (72, [(some 18, 0), (some 14, 1)], [1, 2]), (0, [(some 17, 0), (none, 109)], []), (72, [(some 17, 0), (some 14, 0)], [1, 2]), (0, [(none, 0), (none, 0)], []), (2, [(none, 0), (some 14, 0)], []), (3, [(some 14, 0), (some 16, 0)], []), (20, [(some 16, 0), (none, 0)], [1]), (74, [(some 14, 0), (some 13, 0), (some 15, 0)], [1, 2, 35, 36]), (78, [], [1])], (76, [(some 14, 1), (some 15, 0)], [1, 2, 35, 36]))
set_option maxRecDepth 20000 in
theorem v_rp0_1_46 {PT : PTy} (hp : HP2 PT) : vcOk PT w_rp0_1_46 := vc_iv [(13, 0, 7), (14, 1, 24), (15, 0, 8), (16, 0, 24), (17, 109, 109), (18, (-1), 47)] [1, 2, 35, 36] (by decide +kernel) (fun ρ α => by
  intro r13 g13 b13 r14 g14 b14 r15 g15 b15 r16 g16 b16 r17 g17 b17 r18 g18 b18 a1 h1 a2 h2 a35 h35 a36 h36 f0 f1 f2 f3 f4 f5 f6 f7 f8 f9 f10 f11 f12 f13 tt
  clear f0 f1 f2 f3 f4 f8 f9
  have e72 : PT 72 = P_by0 := pe72_2 hp
  have e74 : PT 74 = P_rpI := pe74_2 hp
  have e76 : PT 76 = P_rdP := pe76_2 hp
  have e78 : PT 78 = P_ly := pe78_2 hp
  simp only [hF0, hF3, hF20, hFp_72, hFp_74, hFp_76, hFp_78, e72, e74, e76, e78, P_by0, P_rpI, P_rdP, P_ly, den_s, den_c, Int.add_zero, List.map_cons, List.map_nil, g13.eq, g14.eq, g15.eq, g16.eq, g17.eq, g18.eq, h1, h2, h35, h36] at f5 f6 f7 f10 f11 f12 f13 ⊢
  subst f11
  obtain ⟨i1, i2, i3, i4, i5⟩ := f12
  by_cases h : (r14 + 1) < a1 0
  · subst i1
    subst i5
    first
      | (exfalso; omega)
      | exact rdP_f (Or.inr (Or.inl ⟨by omega, by omega, allG_3 i3 (fun q => by unfold gP; omega) (fun q => by unfold gP; omega) (fun q => by unfold gP; omega) (by omega), by unfold gP; omega⟩)) (by omega) (by omega)
  · subst i1
    subst i5
    first
      | (exfalso; omega)
      | exact rdP_f (Or.inr (Or.inr ⟨by omega, allG_3 i3 (fun q => by unfold gP; omega) (fun q => by unfold gP; omega) (fun q => by unfold gP; omega) (by omega), by omega⟩)) (by omega) (by omega))
def w_rp0_1_47 : VC := ((bY ++ [(0, 7), (1, 24), (0, 8), (0, 24), (109, 109), (58, 255)]), [(2, [(none, 1), (none, 2)], []), (0, [(none, 0), (none, 0)], []), (2, [(none, 57), (some 18, 0)], []), (3, [(some 18, 0), (none, 48)], []), (1, [(none, 0), (none, (-1))], []), (1, [(some 13, 0), (none, 8)], []), (72, [(some 18, 0), (some 14, 1)], [1, 2]), (0, [(some 17, 0), (none, 109)], []), (72, [(some 17, 0), (some 14, 0)], [1, 2]), (0, [(none, 0), (none, 0)], []), (2, [(none, 0), (some 14, 0)], []), (3, [(some 14, 0), (some 16, 0)], []), (20, [(some 16, 0), (none, 0)], [1]), (74, [(some 14, 0), (some 13, 0), (some 15, 0)], [1, 2, 35, 36]), (78, [], [1])], (76, [(some 14, 1), (some 15, 0)], [1, 2, 35, 36]))
set_option maxRecDepth 20000 in
theorem v_rp0_1_47 {PT : PTy} (hp : HP2 PT) : vcOk PT w_rp0_1_47 := vc_iv [(13, 0, 7), (14, 1, 24), (15, 0, 8), (16, 0, 24), (17, 109, 109), (18, 58, 255)] [1, 2, 35, 36] (by decide +kernel) (fun ρ α => by
  intro r13 g13 b13 r14 g14 b14 r15 g15 b15 r16 g16 b16 r17 g17 b17 r18 g18 b18 a1 h1 a2 h2 a35 h35 a36 h36 f0 f1 f2 f3 f4 f5 f6 f7 f8 f9 f10 f11 f12 f13 f14 tt
  clear f0 f1 f2 f3 f4 f5 f9 f10
  have e72 : PT 72 = P_by0 := pe72_2 hp
  have e74 : PT 74 = P_rpI := pe74_2 hp
  have e76 : PT 76 = P_rdP := pe76_2 hp
  have e78 : PT 78 = P_ly := pe78_2 hp
  simp only [hF0, hF3, hF20, hFp_72, hFp_74, hFp_76, hFp_78, e72, e74, e76, e78, P_by0, P_rpI, P_rdP, P_ly, den_s, den_c, Int.add_zero, List.map_cons, List.map_nil, g13.eq, g14.eq, g15.eq, g16.eq, g17.eq, g18.eq, h1, h2, h35, h36] at f6 f7 f8 f11 f12 f13 f14 ⊢
  subst f12
  obtain ⟨i1, i2, i3, i4, i5⟩ := f13
  by_cases h : (r14 + 1) < a1 0
  · subst i1
    subst i5
    first
      | (exfalso; omega)
      | exact rdP_f (Or.inr (Or.inl ⟨by omega, by omega, allG_3 i3 (fun q => by unfold gP; omega) (fun q => by unfold gP; omega) (fun q => by unfold gP; omega) (by omega), by unfold gP; omega⟩)) (by omega) (by omega)
  · subst i1
    subst i5
    first
      | (exfalso; omega)
      | exact rdP_f (Or.inr (Or.inr ⟨by omega, allG_3 i3 (fun q => by unfold gP; omega) (fun q => by unfold gP; omega) (fun q => by unfold gP; omega) (by omega), by omega⟩)) (by omega) (by omega))
def w_rp0_1_48 : VC := ((bY ++ [(0, 7), (1, 24), (0, 8), (0, 24), (109, 109), (48, 57), (0, 49), (59, 59)]), [(0, [(some 20, 0), (none, 59)], []), (72, [(some 20, 0), (some 14, 2)], [1, 2]), (1, [(some 14, 2), (some 19, 0)], []), (20, [(some 19, 0), (none, 0)], [1]), (3, [(none, 2), (none, 2)], []), (21, [(some 13, 0), (some 18, (-48))], [38, 36]), (21, [(some 13, 0), (none, 0)], [37, 35]), (1, [(none, 1), (none, 0)], []), (3, [(none, 57), (some 18, 0)], []), (3, [(some 18, 0), (none, 48)], []), (1, [(none, 0), (none, (-1))], []), (1, [(some 13, 0), (none, 8)], []), (72, [(some 18, 0), (some 14, 1)], [1, 2]), (0, [(some 17, 0), (none, 109)], []), (72, [(some 17, 0), (some 14, 0)], [1, 2]), (0, [(none, 0), (none, 0)], []), (2, [(none, 0), (some 14, 0)], []), (3, [(some 14, 0), (some 16, 0)], []), (20, [(some 16, 0), (none, 0)], [1]), (74, [(some 14, 0), (some 13, 0), (some 15, 0)], [1, 2, 35, 36]), (78, [], [1])], (3, [(some 14, 3), (none, 0)], []))
set_option maxRecDepth 20000 in
theorem v_rp0_1_48 {PT : PTy} (hp : HP2 PT) : vcOk PT w_rp0_1_48 := vc_iv [(13, 0, 7), (14, 1, 24), (15, 0, 8), (16, 0, 24), (17, 109, 109), (18, 48, 57), (19, 0, 49), (20, 59, 59)] [1, 2, 35, 36, 37, 38] (by decide +kernel) (fun ρ α => by
  intro r13 g13 b13 r14 g14 b14 r15 g15 b15 r16 g16 b16 r17 g17 b17 r18 g18 b18 r19 g19 b19 r20 g20 b20 a1 h1 a2 h2 a35 h35 a36 h36 a37 h37 a38 h38 f0 f1 f2 f3 f4 f5 f6 f7 f8 f9 f10 f11 f12 f13 f14 f15 f16 f17 f18 f19 f20 tt
  clear f4 f7 f8 f9 f10 f11 f15 f16
  have e72 : PT 72 = P_by0 := pe72_2 hp
  have e74 : PT 74 = P_rpI := pe74_2 hp
  have e78 : PT 78 = P_ly := pe78_2 hp
  simp only [hF0, hF1, hF3, hF20, hF21, hFp_72, hFp_74, hFp_78, e72, e74, e78, P_by0, P_rpI, P_ly, den_s, den_c, Int.add_zero, List.map_cons, List.map_nil, g13.eq, g14.eq, g15.eq, g16.eq, g17.eq, g18.eq, g19.eq, g20.eq, h1, h2, h35, h36, h37, h38] at f0 f1 f2 f3 f5 f6 f12 f13 f14 f17 f18 f19 f20 ⊢
  subst f3
  subst f5
  subst f6
  subst f18
  obtain ⟨i1, i2, i3, i4, i5⟩ := f19
  omega)
def w_rp0_1_49 : VC := ((bY ++ [(0, 7), (1, 24), (0, 8), (0, 24), (109, 109), (48, 57), (0, 49), (59, 59)]), [(0, [(some 20, 0), (none, 59)], []), (72, [(some 20, 0), (some 14, 2)], [1, 2]), (1, [(some 14, 2), (some 19, 0)], []), (20, [(some 19, 0), (none, 0)], [1]), (3, [(none, 2), (none, 2)], []), (21, [(some 13, 0), (some 18, (-48))], [38, 36]), (21, [(some 13, 0), (none, 0)], [37, 35]), (1, [(none, 1), (none, 0)], []), (3, [(none, 57), (some 18, 0)], []), (3, [(some 18, 0), (none, 48)], []), (1, [(none, 0), (none, (-1))], []), (1, [(some 13, 0), (none, 8)], []), (72, [(some 18, 0), (some 14, 1)], [1, 2]), (0, [(some 17, 0), (none, 109)], []), (72, [(some 17, 0), (some 14, 0)], [1, 2]), (0, [(none, 0), (none, 0)], []), (2, [(none, 0), (some 14, 0)], []), (3, [(some 14, 0), (some 16, 0)], []), (20, [(some 16, 0), (none, 0)], [1]), (74, [(some 14, 0), (some 13, 0), (some 15, 0)], [1, 2, 35, 36]), (78, [], [1])], (3, [(none, 24), (some 14, 3)], []))
set_option maxRecDepth 20000 in
theorem v_rp0_1_49 {PT : PTy} (hp : HP2 PT) : vcOk PT w_rp0_1_49 := vc_iv [(13, 0, 7), (14, 1, 24), (15, 0, 8), (16, 0, 24), (17, 109, 109), (18, 48, 57), (19, 0, 49), (20, 59, 59)] [1, 2, 35, 36, 37, 38] (by decide +kernel) (fun ρ α => by
  intro r13 g13 b13 r14 g14 b14 r15 g15 b15 r16 g16 b16 r17 g17 b17 r18 g18 b18 r19 g19 b19 r20 g20 b20 a1 h1 a2 h2 a35 h35 a36 h36 a37 h37 a38 h38 f0 f1 f2 f3 f4 f5 f6 f7 f8 f9 f10 f11 f12 f13 f14 f15 f16 f17 f18 f19 f20 tt
  clear f4 f7 f8 f9 f10 f11 f15 f16
  have e72 : PT 72 = P_by0 := pe72_2 hp
  have e74 : PT 74 = P_rpI := pe74_2 hp
  have e78 : PT 78 = P_ly := pe78_2 hp
  simp only [hF0, hF1, hF3, hF20, hF21, hFp_72, hFp_74, hFp_78, e72, e74, e78, P_by0, P_rpI, P_ly, den_s, den_c, Int.add_zero, List.map_cons, List.map_nil, g13.eq, g14.eq, g15.eq, g16.eq, g17.eq, g18.eq, g19.eq, g20.eq, h1, h2, h35, h36, h37, h38] at f0 f1 f2 f3 f5 f6 f12 f13 f14 f17 f18 f19 f20 ⊢
  subst f3
  subst f5
  subst f6
  subst f18
  obtain ⟨i1, i2, i3, i4, i5⟩ := f19
  omega)
def w_rp0_1_50 : VC := ((bY ++ [(0, 7), (1, 24), (0, 8), (0, 24), (109, 109), (48, 57), (0, 49), (59, 59)]), [(0, [(some 20, 0), (none, 59)], []), (72, [(some 20, 0), (some 14, 2)], [1, 2]), (1, [(some 14, 2), (some 19, 0)], []), (20, [(some 19, 0), (none, 0)], [1]), (3, [(none, 2), (none, 2)], []), (21, [(some 13, 0), (some 18, (-48))], [38, 36]), (21, [(some 13, 0), (none, 0)], [37, 35]), (1, [(none, 1), (none, 0)], []), (3, [(none, 57), (some 18, 0)], []), (3, [(some 18, 0), (none, 48)], []), (1, [(none, 0), (none, (-1))], []), (1, [(some 13, 0), (none, 8)], []), (72, [(some 18, 0), (some 14, 1)], [1, 2]), (0, [(some 17, 0), (none, 109)], []), (72, [(some 17, 0), (some 14, 0)], [1, 2]), (0, [(none, 0), (none, 0)], []), (2, [(none, 0), (some 14, 0)], []), (3, [(some 14, 0), (some 16, 0)], []), (20, [(some 16, 0), (none, 0)], [1]), (74, [(some 14, 0), (some 13, 0), (some 15, 0)], [1, 2, 35, 36]), (78, [], [1])], (74, [(some 14, 3), (some 13, 1), (some 15, 0)], [1, 2, 37, 38]))
set_option maxRecDepth 20000 in
theorem v_rp0_1_50 {PT : PTy} (hp : HP2 PT) : vcOk PT w_rp0_1_50 := vc_iv [(13, 0, 7), (14, 1, 24), (15, 0, 8), (16, 0, 24), (17, 109, 109), (18, 48, 57), (19, 0, 49), (20, 59, 59)] [1, 2, 35, 36, 37, 38] (by decide +kernel) (fun ρ α => by
  intro r13 g13 b13 r14 g14 b14 r15 g15 b15 r16 g16 b16 r17 g17 b17 r18 g18 b18 r19 g19 b19 r20 g20 b20 a1 h1 a2 h2 a35 h35 a36 h36 a37 h37 a38 h38 f0 f1 f2 f3 f4 f5 f6 f7 f8 f9 f10 f11 f12 f13 f14 f15 f16 f17 f18 f19 f20 tt
  clear f4 f7 f8 f9 f10 f11 f15 f16
  have e72 : PT 72 = P_by0 := pe72_2 hp
  have e74 : PT 74 = P_rpI := pe74_2 hp
  have e78 : PT 78 = P_ly := pe78_2 hp
  simp only [hF0, hF1, hF3, hF20, hF21, hFp_72, hFp_74, hFp_78, e72, e74, e78, P_by0, P_rpI, P_ly, den_s, den_c, Int.add_zero, List.map_cons, List.map_nil, g13.eq, g14.eq, g15.eq, g16.eq, g17.eq, g18.eq, g19.eq, g20.eq, h1, h2, h35, h36, h37, h38] at f0 f1 f2 f3 f5 f6 f12 f13 f14 f17 f18 f19 f20 ⊢
  subst f3
  subst f5
  subst f6
  subst f18
  obtain ⟨i1, i2, i3, i4, i5⟩ := f19
  subst i1
  subst i5
  first
    | exact ⟨by omega, by omega, allG_3 i3 (fun q => by unfold gP; omega) (fun q => by unfold gP; omega) (fun q => by unfold gP; omega) (by omega), tkP_s i4 (by unfold soP; repeat' split; all_goals omega) (by omega), rfl⟩
    | (exfalso; omega))
def w_rp0_1_51 : VC := ((bY ++ [(0, 7), (1, 24), (0, 8), (0, 24), (109, 109), (48, 57), (0, 49), ((-1), 255)]), [(1, [(some 20, 0), (none, 59)], []), (72, [(some 20, 0), (some 14, 2)], [1, 2]), (1, [(some 14, 2), (some 19, 0)], []), (20, [(some 19, 0), (none, 0)], [1]), (3, [(none, 2), (none, 2)], []), (21, [(some 13, 0), (some 18, (-48))], [38, 36]), (21, [(some 13, 0), (none, 0)], [37, 35]), (1, [(none, 1), (none, 0)], []), (3, [(none, 57), (some 18, 0)], []), (3, [(some 18, 0), (none, 48)], []), (1, [(none, 0), (none, (-1))], []), (1, [(some 13, 0), (none, 8)], []), (72, [(some 18, 0), (some 14, 1)], [1, 2]), (0, [(some 17, 0), (none, 109)], []), (72, [(some 17, 0), (some 14, 0)], [1, 2]), (0, [(none, 0), (none, 0)], []), (2, [(none, 0), (some 14, 0)], []), (3, [(some 14, 0), (some 16, 0)], []), (20, [(some 16, 0), (none, 0)], [1]), (74, [(some 14, 0), (some 13, 0), (some 15, 0)], [1, 2, 35, 36]), (78, [], [1])], (76, [(some 14, 2), (some 15, 0)], [1, 2, 37, 38]))
set_option maxRecDepth 20000 in
theorem v_rp0_1_51 {PT : PTy} (hp : HP2 PT) : vcOk PT w_rp0_1_51 := vc_iv [(13, 0, 7), (14, 1, 24), (15, 0, 8), (16, 0, 24), (17, 109, 109), (18, 48, 57), (19, 0, 49), (20, (-1), 255)] [1, 2, 35, 36, 37, 38] (by decide +kernel) (fun ρ α => by
  intro r13 g13 b13 r14 g14 b14 r15 g15 b15 r16 g16 b16 r17 g17 b17 r18 g18 b18 r19 g19 b19 r20 g20 b20 a1 h1 a2 h2 a35 h35 a36 h36 a37 h37 a38 h38 f0 f1 f2 f3 f4 f5 f6 f7 f8 f9 f10 f11 f12 f13 f14 f15 f16 f17 f18 f19 f20 tt
  clear f4 f7 f8 f9 f10 f11 f15 f16
  have e72 : PT 72 = P_by0 := pe72_2 hp
  have e74 : PT 74 = P_rpI := pe74_2 hp
  have e76 : PT 76 = P_rdP := pe76_2 hp
  have e78 : PT 78 = P_ly := pe78_2 hp
  simp only [hF0, hF1, hF3, hF20, hF21, hFp_72, hFp_74, hFp_76, hFp_78, e72, e74, e76, e78, P_by0, P_rpI, P_rdP, P_ly, den_s, den_c, Int.add_zero, List.map_cons, List.map_nil, g13.eq, g14.eq, g15.eq, g16.eq, g17.eq, g18.eq, g19.eq, g20.eq, h1, h2, h35, h36, h37, h38] at f0 f1 f2 f3 f5 f6 f12 f13 f14 f17 f18 f19 f20 ⊢
  subst f3
  subst f5
  subst f6
  subst f18
  obtain ⟨i1, i2, i3, i4, i5⟩ := f19
  by_cases h : (r14 + 2) < a1 0
  · subst i1
    subst i5
    first
      | (exfalso; omega)
      | exact rdP_f (Or.inr (Or.inl ⟨by omega, by omega, allG_3 i3 (fun q => by unfold gP; omega) (fun q => by unfold gP; omega) (fun q => by unfold gP; omega) (by omega), by unfold gP; omega⟩)) (by omega) (by omega)
  · subst i1
    subst i5
    first
      | (exfalso; omega)
      | exact rdP_f (Or.inr (Or.inr ⟨by omega, allG_3 i3 (fun q => by unfold gP; omega) (fun q => by unfold gP; omega) (fun q => by unfold gP; omega) (by omega), by omega⟩)) (by omega) (by omega))
def w_rp0_1_52 : VC := ((bY ++ [(0, 7), (1, 24), (0, 8), (0, 24), (109, 109), (48, 57), (3, 26)]), [(1, [(none, 0), (none, 1)], []), (0, [(none, 0), (none, 0)], []), (0, [(some 14, 2), (some 19, 0)], []), (20, [(some 19, 0), (none, 0)], [1]), (3, [(none, 2), (none, 2)], []), (21, [(some 13, 0), (some 18, (-48))], [38, 36]), (21, [(some 13, 0), (none, 0)], [37, 35]), (1, [(none, 1), (none, 0)], []), (3, [(none, 57), (some 18, 0)], []), (3, [(some 18, 0), (none, 48)], []), (1, [(none, 0), (none, (-1))], []), (1, [(some 13, 0), (none, 8)], []), (72, [(some 18, 0), (some 14, 1)], [1, 2]), (0, [(some 17, 0), (none, 109)], []), (72, [(some 17, 0), (some 14, 0)], [1, 2]), (0, [(none, 0), (none, 0)], []), (2, [(none, 0), (some 14, 0)], []), (3, [(some 14, 0), (some 16, 0)], []), (20, [(some 16, 0), (none, 0)], [1]), (74, [(some 14, 0), (some 13, 0), (some 15, 0)], [1, 2, 35, 36]), (78, [], [1])], (76, [(none, (-1)), (some 13, 1)], [1, 2, 37, 38]))
set_option maxRecDepth 20000 in
theorem v_rp0_1_52 {PT : PTy} (hp : HP2 PT) : vcOk PT w_rp0_1_52 := vc_iv [(13, 0, 7), (14, 1, 24), (15, 0, 8), (16, 0, 24), (17, 109, 109), (18, 48, 57), (19, 3, 26)] [1, 2, 35, 36, 37, 38] (by decide +kernel) (fun ρ α => by
  intro r13 g13 b13 r14 g14 b14 r15 g15 b15 r16 g16 b16 r17 g17 b17 r18 g18 b18 r19 g19 b19 a1 h1 a2 h2 a35 h35 a36 h36 a37 h37 a38 h38 f0 f1 f2 f3 f4 f5 f6 f7 f8 f9 f10 f11 f12 f13 f14 f15 f16 f17 f18 f19 f20 tt
  clear f0 f1 f4 f7 f8 f9 f10 f11 f15 f16
  have e72 : PT 72 = P_by0 := pe72_2 hp
  have e74 : PT 74 = P_rpI := pe74_2 hp
  have e76 : PT 76 = P_rdP := pe76_2 hp
  have e78 : PT 78 = P_ly := pe78_2 hp
  simp only [hF0, hF3, hF20, hF21, hFp_72, hFp_74, hFp_76, hFp_78, e72, e74, e76, e78, P_by0, P_rpI, P_rdP, P_ly, den_s, den_c, Int.add_zero, List.map_cons, List.map_nil, g13.eq, g14.eq, g15.eq, g16.eq, g17.eq, g18.eq, g19.eq, h1, h2, h35, h36, h37, h38] at f2 f3 f5 f6 f12 f13 f14 f17 f18 f19 f20 ⊢
  subst f3
  subst f5
  subst f6
  subst f18
  obtain ⟨i1, i2, i3, i4, i5⟩ := f19
  subst i1
  subst i5
  first
    | exact rdP_w ⟨allG_3 i3 (fun q => by unfold gP; omega) (fun q => by unfold gP; omega) (fun q => by unfold gP; omega) (by omega), by omega⟩ (by omega) (tkP_s i4 (by unfold soP; repeat' split; all_goals omega) (by omega))
    | exact rdP_w ⟨allG_3 i3 (fun q => by unfold gP; omega) (fun q => by unfold gP; omega) (fun q => by unfold gP; omega) (by omega), by omega⟩ (by omega) (fun j h1 h2 => by omega)
    | (exfalso; omega))
set_option maxRecDepth 1000000 in
theorem k_rp0 {PT : PTy} (hp : HP2 PT) : wfX c_rp0 = true ∧ xcOk PT c_rp0 := xctr (xl (k_byteAt0 hp) (xl0)) c_rp0 123 mX7_readsParts rfl h_rp0 (by decide +kernel) (by decide +kernel) (by decide) (vcs_by [w_rp0_0_0] (by decide +kernel) (vc (v_rp0_0_0 hp) vn)) (fmc (vcs_by [w_rp0_1_0, w_rp0_1_1, w_rp0_1_2, w_rp0_1_3, w_rp0_1_4, w_rp0_1_5, w_rp0_1_6, w_rp0_1_7, w_rp0_1_8, w_rp0_1_9, w_rp0_1_10, w_rp0_1_11, w_rp0_1_12, w_rp0_1_13, w_rp0_1_14, w_rp0_1_15, w_rp0_1_16, w_rp0_1_17, w_rp0_1_18, w_rp0_1_19, w_rp0_1_20, w_rp0_1_21, w_rp0_1_22, w_rp0_1_23, w_rp0_1_24, w_rp0_1_25, w_rp0_1_26, w_rp0_1_27, w_rp0_1_28, w_rp0_1_29, w_rp0_1_30, w_rp0_1_31, w_rp0_1_32, w_rp0_1_33, w_rp0_1_34, w_rp0_1_35, w_rp0_1_36, w_rp0_1_37, w_rp0_1_38, w_rp0_1_39, w_rp0_1_40, w_rp0_1_41, w_rp0_1_42, w_rp0_1_43, w_rp0_1_44, w_rp0_1_45, w_rp0_1_46, w_rp0_1_47, w_rp0_1_48, w_rp0_1_49, w_rp0_1_50, w_rp0_1_51, w_rp0_1_52] (by decide +kernel) (vc (v_rp0_1_0 hp) (vc (v_rp0_1_1 hp) (vc (v_rp0_1_2 hp) (vc (v_rp0_1_3 hp) (vc (v_rp0_1_4 hp) (vc (v_rp0_1_5 hp) (vc (v_rp0_1_6 hp) (vc (v_rp0_1_7 hp) (vc (v_rp0_1_8 hp) (vc (v_rp0_1_9 hp) (vc (v_rp0_1_10 hp) (vc (v_rp0_1_11 hp) (vc (v_rp0_1_12 hp) (vc (v_rp0_1_13 hp) (vc (v_rp0_1_14 hp) (vc (v_rp0_1_15 hp) (vc (v_rp0_1_16 hp) (vc (v_rp0_1_17 hp) (vc (v_rp0_1_18 hp) (vc (v_rp0_1_19 hp) (vc (v_rp0_1_20 hp) (vc (v_rp0_1_21 hp) (vc (v_rp0_1_22 hp) (vc (v_rp0_1_23 hp) (vc (v_rp0_1_24 hp) (vc (v_rp0_1_25 hp) (vc (v_rp0_1_26 hp) (vc (v_rp0_1_27 hp) (vc (v_rp0_1_28 hp) (vc (v_rp0_1_29 hp) (vc (v_rp0_1_30 hp) (vc (v_rp0_1_31 hp) (vc (v_rp0_1_32 hp) (vc (v_rp0_1_33 hp) (vc (v_rp0_1_34 hp) (vc (v_rp0_1_35 hp) (vc (v_rp0_1_36 hp) (vc (v_rp0_1_37 hp) (vc (v_rp0_1_38 hp) (vc (v_rp0_1_39 hp) (vc (v_rp0_1_40 hp) (vc (v_rp0_1_41 hp) (vc (v_rp0_1_42 hp) (vc (v_rp0_1_43 hp) (vc (v_rp0_1_44 hp) (vc (v_rp0_1_45 hp) (vc (v_rp0_1_46 hp) (vc (v_rp0_1_47 hp) (vc (v_rp0_1_48 hp) (vc (v_rp0_1_49 hp) (vc (v_rp0_1_50 hp) (vc (v_rp0_1_51 hp) (vc (v_rp0_1_52 hp) vn)))))))))))))))))))))))))))))))))))))))))))))))))))))) fmn)
def c_rp1 : XC := (117, 2, (bY), [.inr (.inl 0), .inl (none, 1)], gY2, [(78, [], [1])], [((bY ++ [((-1), 54), (0, 10)]), some (.inl (some 13, 0)), (hst gY2 [(0, .inr (.inr (.inr (7, [.inr (.inl 1), .inr (.inl 2), .inl (some 2, 0), .inr (.inl 3), .inr (.inl 4), .inl (some 14, 0), .inr (.inl 5), .inr (.inl 6), .inr (.inl 7), .inr (.inl 8), .inl (some 4, 0), .inr (.inl 9), .inr (.inl 10), .inl (some 5, 0), .inr (.inl 11), .inr (.inl 12), .inr (.inl 13), .inl (some 6, 0), .inr (.inl 14), .inr (.inl 15), .inr (.inl 16), .inl (some 8, 0), .inl (some 9, 0), .inr (.inl 17), .inr (.inl 18), .inl (some 10, 0), .inl (some 11, 0), .inr (.inl 19), .inr (.inl 20), .inr (.inl 21), .inr (.inl 22), .inr (.inl 23), .inr (.inl 24), .inr (.inl 25), .inl (some 7, 0), .inr (.inl 26), .inr (.inl 27), .inr (.inl 28), .inr (.inl 29), .inr (.inl 30), .inr (.inl 31), .inr (.inl 32), .inr (.inl 33), .inr (.inl 34), .inl (some 12, 0)]))))]), (ansT 35 [(5, 35), (6, 36), (7, 37), (8, 38)]), 39, [(77, [(some 13, 0), (some 14, 0)], [1, 2, 35, 36, 37, 38])])])
def h_rp1 : List XH := [(48, (bY ++ [(0, 10), (0, 50), (0, 10)]), [some (.inr (.inl 0)), some (.inl (none, 1)), some (.inl (none, 4)), some (.inl (some 13, 0)), some (.inl (some 14, 0)), none], (hst gY2 [(0, .inr (.inr (.inr (7, [.inr (.inl 1), .inr (.inl 2), .inl (some 2, 0), .inr (.inl 3), .inr (.inl 4), .inl (some 15, 0), .inr (.inl 5), .inr (.inl 6), .inr (.inl 7), .inr (.inl 8), .inl (some 4, 0), .inr (.inl 9), .inr (.inl 10), .inl (some 5, 0), .inr (.inl 11), .inr (.inl 12), .inr (.inl 13), .inl (some 6, 0), .inr (.inl 14), .inr (.inl 15), .inr (.inl 16), .inl (some 8, 0), .inl (some 9, 0), .inr (.inl 17), .inr (.inl 18), .inl (some 10, 0), .inl (some 11, 0), .inr (.inl 19), .inr (.inl 20), .inr (.inl 21), .inr (.inl 22), .inr (.inl 23), .inr (.inl 24), .inr (.inl 25), .inl (some 7, 0), .inr (.inl 26), .inr (.inl 27), .inr (.inl 28), .inr (.inl 29), .inr (.inl 30), .inr (.inl 31), .inr (.inl 32), .inr (.inl 33), .inr (.inl 34), .inl (some 12, 0)]))))]), (ansT 35 [(5, 35), (6, 36), (7, 37), (8, 38)]), 39, [(75, [(some 14, 0), (some 13, 0), (some 15, 0)], [1, 2, 35, 36, 37, 38])], [(true, (none, 1)), (true, (some 14, 0))])]
def w_rp1_0_0 : VC := ((bY), [(0, [(none, 1), (none, 1)], []), (1, [(none, 1), (none, 0)], []), (1, [(none, 1), (none, 0)], []), (78, [], [1])], (75, [(none, 0), (none, 0), (none, 0)], [1, 2, 5, 6, 7, 8]))
theorem pe75_2 {PT : PTy} (hp : HP2 PT) : PT 75 = P_rvI := hp.2.2.2.2.1
set_option maxRecDepth 20000 in
theorem v_rp1_0_0 {PT : PTy} (hp : HP2 PT) : vcOk PT w_rp1_0_0 := vc_in [] (by decide +kernel) (fun ρ α => by
  intro f0 f1 f2 f3 tt
  clear f0 f1 f2
  have e75 : PT 75 = P_rvI := pe75_2 hp
  have e78 : PT 78 = P_ly := pe78_2 hp
  simp only [hFp_75, hFp_78, e75, e78, P_rvI, P_ly, den_s, den_c, Int.add_zero, List.map_cons, List.map_nil] at f3 ⊢
  exact ⟨by omega, by omega, allG_z, tkV_z, rfl⟩)
def w_rp1_1_0 : VC := ((bY ++ [(10, 10), (0, 48), (0, 10), (1, 49), ((-1), 255), ((-1), 255), ((-1), 255), ((-1), 255)]), [(2, [(none, 0), (none, 4)], []), (0, [(some 13, 0), (none, 10)], []), (73, [(some 20, 0), (some 14, 3)], [1, 2]), (73, [(some 19, 0), (some 14, 2)], [1, 2]), (73, [(some 18, 0), (some 14, 1)], [1, 2]), (73, [(some 17, 0), (some 14, 0)], [1, 2]), (1, [(none, 1), (none, 0)], []), (2, [(some 14, 0), (some 16, 0)], []), (20, [(some 16, 0), (none, 1)], [1]), (75, [(some 14, 0), (some 13, 0), (some 15, 0)], [1, 2, 35, 36, 37, 38]), (78, [], [1])], (77, [(some 14, 0), (some 15, 0)], [1, 2, 35, 36, 37, 38]))
theorem pe77_2 {PT : PTy} (hp : HP2 PT) : PT 77 = P_rdV := hp.2.2.2.2.2.2.1
set_option maxRecDepth 20000 in
theorem v_rp1_1_0 {PT : PTy} (hp : HP2 PT) : vcOk PT w_rp1_1_0 := vc_iv [(13, 10, 10), (14, 0, 48), (15, 0, 10), (16, 1, 49), (17, (-1), 255), (18, (-1), 255), (19, (-1), 255), (20, (-1), 255)] [1, 2, 35, 36, 37, 38] (by decide +kernel) (fun ρ α => by
  intro r13 g13 b13 r14 g14 b14 r15 g15 b15 r16 g16 b16 r17 g17 b17 r18 g18 b18 r19 g19 b19 r20 g20 b20 a1 h1 a2 h2 a35 h35 a36 h36 a37 h37 a38 h38 f0 f1 f2 f3 f4 f5 f6 f7 f8 f9 f10 tt
  clear f0 f6
  have e73 : PT 73 = P_by1 := pe73_2 hp
  have e75 : PT 75 = P_rvI := pe75_2 hp
  have e77 : PT 77 = P_rdV := pe77_2 hp
  have e78 : PT 78 = P_ly := pe78_2 hp
  simp only [hF0, hF2, hF20, hFp_73, hFp_75, hFp_77, hFp_78, e73, e75, e77, e78, P_by1, P_rvI, P_rdV, P_ly, den_s, den_c, Int.add_zero, List.map_cons, List.map_nil, g13.eq, g14.eq, g15.eq, g16.eq, g17.eq, g18.eq, g19.eq, g20.eq, h1, h2, h35, h36, h37, h38] at f1 f2 f3 f4 f5 f7 f8 f9 f10 ⊢
  subst f8
  obtain ⟨i1, i2, i3, i4, i5⟩ := f9
  by_cases h : r14 < a1 1
  · subst i1
    subst i5
    first
      | (exfalso; omega)
      | exact rdV_f (Or.inr (Or.inl ⟨by omega, by omega, allG_5 i3 (fun q => by unfold gV sh; omega) (fun q => by unfold gV sh; omega) (fun q => by unfold gV sh; omega) (fun q => by unfold gV sh; omega) (fun q => by unfold gV sh; omega) (by omega), by unfold gV sh; omega⟩)) (by omega) (by omega)
  · subst i1
    subst i5
    first
      | (exfalso; omega)
      | exact rdV_f (Or.inr (Or.inr ⟨by omega, allG_5 i3 (fun q => by unfold gV sh; omega) (fun q => by unfold gV sh; omega) (fun q => by unfold gV sh; omega) (fun q => by unfold gV sh; omega) (fun q => by unfold gV sh; omega) (by omega), by omega⟩)) (by omega) (by omega))
def w_rp1_1_1 : VC := ((bY ++ [(0, 9), (0, 48), (0, 10), (1, 49), ((-1), 96), ((-1), 255), ((-1), 255), ((-1), 255)]), [(2, [(none, 0), (none, 4)], []), (0, [(none, 0), (none, 0)], []), (2, [(some 17, 0), (none, 97)], []), (1, [(some 13, 0), (none, 10)], []), (73, [(some 20, 0), (some 14, 3)], [1, 2]), (73, [(some 19, 0), (some 14, 2)], [1, 2]), (73, [(some 18, 0), (some 14, 1)], [1, 2]), (73, [(some 17, 0), (some 14, 0)], [1, 2]), (1, [(none, 1), (none, 0)], []), (2, [(some 14, 0), (some 16, 0)], []), (20, [(some 16, 0), (none, 1)], [1]), (75, [(some 14, 0), (some 13, 0), (some 15, 0)], [1, 2, 35, 36, 37, 38]), (78, [], [1])], (77, [(some 14, 0), (some 15, 0)], [1, 2, 35, 36, 37, 38]))
set_option maxRecDepth 20000 in
theorem v_rp1_1_1 {PT : PTy} (hp : HP2 PT) : vcOk PT w_rp1_1_1 := vc_iv [(13, 0, 9), (14, 0, 48), (15, 0, 10), (16, 1, 49), (17, (-1), 96), (18, (-1), 255), (19, (-1), 255), (20, (-1), 255)] [1, 2, 35, 36, 37, 38] (by decide +kernel) (fun ρ α => by
  intro r13 g13 b13 r14 g14 b14 r15 g15 b15 r16 g16 b16 r17 g17 b17 r18 g18 b18 r19 g19 b19 r20 g20 b20 a1 h1 a2 h2 a35 h35 a36 h36 a37 h37 a38 h38 f0 f1 f2 f3 f4 f5 f6 f7 f8 f9 f10 f11 f12 tt
  clear f0 f1 f2 f3 f8
  have e73 : PT 73 = P_by1 := pe73_2 hp
  have e75 : PT 75 = P_rvI := pe75_2 hp
  have e77 : PT 77 = P_rdV := pe77_2 hp
  have e78 : PT 78 = P_ly := pe78_2 hp
  simp only [hF2, hF20, hFp_73, hFp_75, hFp_77, hFp_78, e73, e75, e77, e78, P_by1, P_rvI, P_rdV, P_ly, den_s, den_c, Int.add_zero, List.map_cons, List.map_nil, g13.eq, g14.eq, g15.eq, g16.eq, g17.eq, g18.eq, g19.eq, g20.eq, h1, h2, h35, h36, h37, h38] at f4 f5 f6 f7 f9 f10 f11 f12 ⊢
  subst f10
  obtain ⟨i1, i2, i3, i4, i5⟩ := f11
  by_cases h : r14 < a1 1
  · subst i1
    subst i5
    first
      | (exfalso; omega)
      | exact rdV_f (Or.inr (Or.inl ⟨by omega, by omega, allG_5 i3 (fun q => by unfold gV sh; omega) (fun q => by unfold gV sh; omega) (fun q => by unfold gV sh; omega) (fun q => by unfold gV sh; omega) (fun q => by unfold gV sh; omega) (by omega), by unfold gV sh; omega⟩)) (by omega) (by omega)
  · subst i1
    subst i5
    first
      | (exfalso; omega)
      | exact rdV_f (Or.inr (Or.inr ⟨by omega, allG_5 i3 (fun q => by unfold gV sh; omega) (fun q => by unfold gV sh; omega) (fun q => by unfold gV sh; omega) (fun q => by unfold gV sh; omega) (fun q => by unfold gV sh; omega) (by omega), by omega⟩)) (by omega) (by omega))
def w_rp1_1_2 : VC := ((bY ++ [(0, 9), (0, 48), (0, 10), (1, 49), (105, 255), ((-1), 255), ((-1), 255), ((-1), 255)]), [(2, [(none, 0), (none, 4)], []), (0, [(none, 0), (none, 0)], []), (2, [(none, 104), (some 17, 0)], []), (3, [(some 17, 0), (none, 97)], []), (1, [(some 13, 0), (none, 10)], []), (73, [(some 20, 0), (some 14, 3)], [1, 2]), (73, [(some 19, 0), (some 14, 2)], [1, 2]), (73, [(some 18, 0), (some 14, 1)], [1, 2]), (73, [(some 17, 0), (some 14, 0)], [1, 2]), (1, [(none, 1), (none, 0)], []), (2, [(some 14, 0), (some 16, 0)], []), (20, [(some 16, 0), (none, 1)], [1]), (75, [(some 14, 0), (some 13, 0), (some 15, 0)], [1, 2, 35, 36, 37, 38]), (78, [], [1])], (77, [(some 14, 0), (some 15, 0)], [1, 2, 35, 36, 37, 38]))
set_option maxRecDepth 20000 in
theorem v_rp1_1_2 {PT : PTy} (hp : HP2 PT) : vcOk PT w_rp1_1_2 := vc_iv [(13, 0, 9), (14, 0, 48), (15, 0, 10), (16, 1, 49), (17, 105, 255), (18, (-1), 255), (19, (-1), 255), (20, (-1), 255)] [1, 2, 35, 36, 37, 38] (by decide +kernel) (fun ρ α => by
  intro r13 g13 b13 r14 g14 b14 r15 g15 b15 r16 g16 b16 r17 g17 b17 r18 g18 b18 r19 g19 b19 r20 g20 b20 a1 h1 a2 h2 a35 h35 a36 h36 a37 h37 a38 h38 f0 f1 f2 f3 f4 f5 f6 f7 f8 f9 f10 f11 f12 f13 tt
  clear f0 f1 f2 f3 f4 f9
  have e73 : PT 73 = P_by1 := pe73_2 hp
  have e75 : PT 75 = P_rvI := pe75_2 hp
  have e77 : PT 77 = P_rdV := pe77_2 hp
  have e78 : PT 78 = P_ly := pe78_2 hp
  simp only [hF2, hF20, hFp_73, hFp_75, hFp_77, hFp_78, e73, e75, e77, e78, P_by1, P_rvI, P_rdV, P_ly, den_s, den_c, Int.add_zero, List.map_cons, List.map_nil, g13.eq, g14.eq, g15.eq, g16.eq, g17.eq, g18.eq, g19.eq, g20.eq, h1, h2, h35, h36, h37, h38] at f5 f6 f7 f8 f10 f11 f12 f13 ⊢
  subst f11
  obtain ⟨i1, i2, i3, i4, i5⟩ := f12
  by_cases h : r14 < a1 1
  · subst i1
    subst i5
    first
      | (exfalso; omega)
      | exact rdV_f (Or.inr (Or.inl ⟨by omega, by omega, allG_5 i3 (fun q => by unfold gV sh; omega) (fun q => by unfold gV sh; omega) (fun q => by unfold gV sh; omega) (fun q => by unfold gV sh; omega) (fun q => by unfold gV sh; omega) (by omega), by unfold gV sh; omega⟩)) (by omega) (by omega)
  · subst i1
    subst i5
    first
      | (exfalso; omega)
      | exact rdV_f (Or.inr (Or.inr ⟨by omega, allG_5 i3 (fun q => by unfold gV sh; omega) (fun q => by unfold gV sh; omega) (fun q => by unfold gV sh; omega) (fun q => by unfold gV sh; omega) (fun q => by unfold gV sh; omega) (by omega), by omega⟩)) (by omega) (by omega))
def w_rp1_1_3 : VC := ((bY ++ [(0, 9), (0, 48), (0, 10), (1, 49), (97, 104), ((-1), 48), ((-1), 255), ((-1), 255)]), [(2, [(none, 1), (none, 4)], []), (0, [(none, 0), (none, 0)], []), (2, [(some 18, 0), (none, 49)], []), (1, [(none, 1), (none, 0)], []), (3, [(none, 104), (some 17, 0)], []), (3, [(some 17, 0), (none, 97)], []), (1, [(some 13, 0), (none, 10)], []), (73, [(some 20, 0), (some 14, 3)], [1, 2]), (73, [(some 19, 0), (some 14, 2)], [1, 2]), (73, [(some 18, 0), (some 14, 1)], [1, 2]), (73, [(some 17, 0), (some 14, 0)], [1, 2]), (1, [(none, 1), (none, 0)], []), (2, [(some 14, 0), (some 16, 0)], []), (20, [(some 16, 0), (none, 1)], [1]), (75, [(some 14, 0), (some 13, 0), (some 15, 0)], [1, 2, 35, 36, 37, 38]), (78, [], [1])], (77, [(some 14, 1), (some 15, 0)], [1, 2, 35, 36, 37, 38]))
set_option maxRecDepth 20000 in
theorem v_rp1_1_3 {PT : PTy} (hp : HP2 PT) : vcOk PT w_rp1_1_3 := vc_iv [(13, 0, 9), (14, 0, 48), (15, 0, 10), (16, 1, 49), (17, 97, 104), (18, (-1), 48), (19, (-1), 255), (20, (-1), 255)] [1, 2, 35, 36, 37, 38] (by decide +kernel) (fun ρ α => by
  intro r13 g13 b13 r14 g14 b14 r15 g15 b15 r16 g16 b16 r17 g17 b17 r18 g18 b18 r19 g19 b19 r20 g20 b20 a1 h1 a2 h2 a35 h35 a36 h36 a37 h37 a38 h38 f0 f1 f2 f3 f4 f5 f6 f7 f8 f9 f10 f11 f12 f13 f14 f15 tt
  clear f0 f1 f2 f3 f4 f5 f6 f11
  have e73 : PT 73 = P_by1 := pe73_2 hp
  have e75 : PT 75 = P_rvI := pe75_2 hp
  have e77 : PT 77 = P_rdV := pe77_2 hp
  have e78 : PT 78 = P_ly := pe78_2 hp
  simp only [hF2, hF20, hFp_73, hFp_75, hFp_77, hFp_78, e73, e75, e77, e78, P_by1, P_rvI, P_rdV, P_ly, den_s, den_c, Int.add_zero, List.map_cons, List.map_nil, g13.eq, g14.eq, g15.eq, g16.eq, g17.eq, g18.eq, g19.eq, g20.eq, h1, h2, h35, h36, h37, h38] at f7 f8 f9 f10 f12 f13 f14 f15 ⊢
  subst f13
  obtain ⟨i1, i2, i3, i4, i5⟩ := f14
  by_cases h : (r14 + 1) < a1 1
  · subst i1
    subst i5
    first
      | (exfalso; omega)
      | exact rdV_f (Or.inr (Or.inl ⟨by omega, by omega, allG_5 i3 (fun q => by unfold gV sh; omega) (fun q => by unfold gV sh; omega) (fun q => by unfold gV sh; omega) (fun q => by unfold gV sh; omega) (fun q => by unfold gV sh; omega) (by omega), by unfold gV sh; omega⟩)) (by omega) (by omega)
  · subst i1
    subst i5
    first
      | (exfalso; omega)
      | exact rdV_f (Or.inr (Or.inr ⟨by omega, allG_5 i3 (fun q => by unfold gV sh; omega) (fun q => by unfold gV sh; omega) (fun q => by unfold gV sh; omega) (fun q => by unfold gV sh; omega) (fun q => by unfold gV sh; omega) (by omega), by omega⟩)) (by omega) (by omega))
def w_rp1_1_4 : VC := ((bY ++ [(0, 9), (0, 48), (0, 10), (1, 49), (97, 104), (58, 255), ((-1), 255), ((-1), 255)]), [(2, [(none, 1), (none, 4)], []), (0, [(none, 0), (none, 0)], []), (2, [(none, 57), (some 18, 0)], []), (3, [(some 18, 0), (none, 49)], []), (1, [(none, 1), (none, 0)], []), (3, [(none, 104), (some 17, 0)], []), (3, [(some 17, 0), (none, 97)], []), (1, [(some 13, 0), (none, 10)], []), (73, [(some 20, 0), (some 14, 3)], [1, 2]), (73, [(some 19, 0), (some 14, 2)], [1, 2]), (73, [(some 18, 0), (some 14, 1)], [1, 2]), (73, [(some 17, 0), (some 14, 0)], [1, 2]), (1, [(none, 1), (none, 0)], []), (2, [(some 14, 0), (some 16, 0)], []), (20, [(some 16, 0), (none, 1)], [1]), (75, [(some 14, 0), (some 13, 0), (some 15, 0)], [1, 2, 35, 36, 37, 38]), (78, [], [1])], (77, [(some 14, 1), (some 15, 0)], [1, 2, 35, 36, 37, 38]))
set_option maxRecDepth 20000 in
theorem v_rp1_1_4 {PT : PTy} (hp : HP2 PT) : vcOk PT w_rp1_1_4 := vc_iv [(13, 0, 9), (14, 0, 48), (15, 0, 10), (16, 1, 49), (17, 97, 104), (18, 58, 255), (19, (-1), 255), (20, (-1), 255)] [1, 2, 35, 36, 37, 38] (by decide +kernel) (fun ρ α => by
  intro r13 g13 b13 r14 g14 b14 r15 g15 b15 r16 g16 b16 r17 g17 b17 r18 g18 b18 r19 g19 b19 r20 g20 b20 a1 h1 a2 h2 a35 h35 a36 h36 a37 h37 a38 h38 f0 f1 f2 f3 f4 f5 f6 f7 f8 f9 f10 f11 f12 f13 f14 f15 f16 tt
  clear f0 f1 f2 f3 f4 f5 f6 f7 f12
  have e73 : PT 73 = P_by1 := pe73_2 hp
  have e75 : PT 75 = P_rvI := pe75_2 hp
  have e77 : PT 77 = P_rdV := pe77_2 hp
  have e78 : PT 78 = P_ly := pe78_2 hp
  simp only [hF2, hF20, hFp_73, hFp_75, hFp_77, hFp_78, e73, e75, e77, e78, P_by1, P_rvI, P_rdV, P_ly, den_s, den_c, Int.add_zero, List.map_cons, List.map_nil, g13.eq, g14.eq, g15.eq, g16.eq, g17.eq, g18.eq, g19.eq, g20.eq, h1, h2, h35, h36, h37, h38] at f8 f9 f10 f11 f13 f14 f15 f16 ⊢
  subst f14
  obtain ⟨i1, i2, i3, i4, i5⟩ := f15
  by_cases h : (r14 + 1) < a1 1
  · subst i1
    subst i5
    first
      | (exfalso; omega)
      | exact rdV_f (Or.inr (Or.inl ⟨by omega, by omega, allG_5 i3 (fun q => by unfold gV sh; omega) (fun q => by unfold gV sh; omega) (fun q => by unfold gV sh; omega) (fun q => by unfold gV sh; omega) (fun q => by unfold gV sh; omega) (by omega), by unfold gV sh; omega⟩)) (by omega) (by omega)
  · subst i1
    subst i5
    first
      | (exfalso; omega)
      | exact rdV_f (Or.inr (Or.inr ⟨by omega, allG_5 i3 (fun q => by unfold gV sh; omega) (fun q => by unfold gV sh; omega) (fun q => by unfold gV sh; omega) (fun q => by unfold gV sh; omega) (fun q => by unfold gV sh; omega) (by omega), by omega⟩)) (by omega) (by omega))
def w_rp1_1_5 : VC := ((bY ++ [(0, 9), (0, 48), (0, 10), (1, 49), (97, 104), (49, 57), ((-1), 96), ((-1), 255)]), [(2, [(none, 2), (none, 4)], []), (0, [(none, 0), (none, 0)], []), (2, [(some 19, 0), (none, 97)], []), (1, [(none, 1), (none, 0)], []), (3, [(none, 57), (some 18, 0)], []), (3, [(some 18, 0), (none, 49)], []), (1, [(none, 1), (none, 0)], []), (3, [(none, 104), (some 17, 0)], []), (3, [(some 17, 0), (none, 97)], []), (1, [(some 13, 0), (none, 10)], []), (73, [(some 20, 0), (some 14, 3)], [1, 2]), (73, [(some 19, 0), (some 14, 2)], [1, 2]), (73, [(some 18, 0), (some 14, 1)], [1, 2]), (73, [(some 17, 0), (some 14, 0)], [1, 2]), (1, [(none, 1), (none, 0)], []), (2, [(some 14, 0), (some 16, 0)], []), (20, [(some 16, 0), (none, 1)], [1]), (75, [(some 14, 0), (some 13, 0), (some 15, 0)], [1, 2, 35, 36, 37, 38]), (78, [], [1])], (77, [(some 14, 2), (some 15, 0)], [1, 2, 35, 36, 37, 38]))
set_option maxRecDepth 20000 in
theorem v_rp1_1_5 {PT : PTy} (hp : HP2 PT) : vcOk PT w_rp1_1_5 := vc_iv [(13, 0, 9), (14, 0, 48), (15, 0, 10), (16, 1, 49), (17, 97, 104), (18, 49, 57), (19, (-1), 96), (20, (-1), 255)] [1, 2, 35, 36, 37, 38] (by decide +kernel) (fun ρ α => by
  intro r13 g13 b13 r14 g14 b14 r15 g15 b15 r16 g16 b16 r17 g17 b17 r18 g18 b18 r19 g19 b19 r20 g20 b20 a1 h1 a2 h2 a35 h35 a36 h36 a37 h37 a38 h38 f0 f1 f2 f3 f4 f5 f6 f7 f8 f9 f10 f11 f12 f13 f14 f15 f16 f17 f18 tt
  clear f0 f1 f2 f3 f4 f5 f6 f7 f8 f9 f14
  have e73 : PT 73 = P_by1 := pe73_2 hp
  have e75 : PT 75 = P_rvI := pe75_2 hp
  have e77 : PT 77 = P_rdV := pe77_2 hp
  have e78 : PT 78 = P_ly := pe78_2 hp
  simp only [hF2, hF20, hFp_73, hFp_75, hFp_77, hFp_78, e73, e75, e77, e78, P_by1, P_rvI, P_rdV, P_ly, den_s, den_c, Int.add_zero, List.map_cons, List.map_nil, g13.eq, g14.eq, g15.eq, g16.eq, g17.eq, g18.eq, g19.eq, g20.eq, h1, h2, h35, h36, h37, h38] at f10 f11 f12 f13 f15 f16 f17 f18 ⊢
  subst f16
  obtain ⟨i1, i2, i3, i4, i5⟩ := f17
  by_cases h : (r14 + 2) < a1 1
  · subst i1
    subst i5
    first
      | (exfalso; omega)
      | exact rdV_f (Or.inr (Or.inl ⟨by omega, by omega, allG_5 i3 (fun q => by unfold gV sh; omega) (fun q => by unfold gV sh; omega) (fun q => by unfold gV sh; omega) (fun q => by unfold gV sh; omega) (fun q => by unfold gV sh; omega) (by omega), by unfold gV sh; omega⟩)) (by omega) (by omega)
  · subst i1
    subst i5
    first
      | (exfalso; omega)
      | exact rdV_f (Or.inr (Or.inr ⟨by omega, allG_5 i3 (fun q => by unfold gV sh; omega) (fun q => by unfold gV sh; omega) (fun q => by unfold gV sh; omega) (fun q => by unfold gV sh; omega) (fun q => by unfold gV sh; omega) (by omega), by omega⟩)) (by omega) (by omega))
def w_rp1_1_6 : VC := ((bY ++ [(0, 9), (0, 48), (0, 10), (1, 49), (97, 104), (49, 57), (121, 255), ((-1), 255)]), [(2, [(none, 2), (none, 4)], []), (0, [(none, 0), (none, 0)], []), (2, [(none, 120), (some 19, 0)], []), (3, [(some 19, 0), (none, 97)], []), (1, [(none, 1), (none, 0)], []), (3, [(none, 57), (some 18, 0)], []), (3, [(some 18, 0), (none, 49)], []), (1, [(none, 1), (none, 0)], []), (3, [(none, 104), (some 17, 0)], []), (3, [(some 17, 0), (none, 97)], []), (1, [(some 13, 0), (none, 10)], []), (73, [(some 20, 0), (some 14, 3)], [1, 2]), (73, [(some 19, 0), (some 14, 2)], [1, 2]), (73, [(some 18, 0), (some 14, 1)], [1, 2]), (73, [(some 17, 0), (some 14, 0)], [1, 2]), (1, [(none, 1), (none, 0)], []), (2, [(some 14, 0), (some 16, 0)], []), (20, [(some 16, 0), (none, 1)], [1]), (75, [(some 14, 0), (some 13, 0), (some 15, 0)], [1, 2, 35, 36, 37, 38]), (78, [], [1])], (77, [(some 14, 2), (some 15, 0)], [1, 2, 35, 36, 37, 38]))
set_option maxRecDepth 20000 in
theorem v_rp1_1_6 {PT : PTy} (hp : HP2 PT) : vcOk PT w_rp1_1_6 := vc_iv [(13, 0, 9), (14, 0, 48), (15, 0, 10), (16, 1, 49), (17, 97, 104), (18, 49, 57), (19, 121, 255), (20, (-1), 255)] [1, 2, 35, 36, 37, 38] (by decide +kernel) (fun ρ α => by
  intro r13 g13 b13 r14 g14 b14 r15 g15 b15 r16 g16 b16 r17 g17 b17 r18 g18 b18 r19 g19 b19 r20 g20 b20 a1 h1 a2 h2 a35 h35 a36 h36 a37 h37 a38 h38 f0 f1 f2 f3 f4 f5 f6 f7 f8 f9 f10 f11 f12 f13 f14 f15 f16 f17 f18 f19 tt
  clear f0 f1 f2 f3 f4 f5 f6 f7 f8 f9 f10 f15
  have e73 : PT 73 = P_by1 := pe73_2 hp
  have e75 : PT 75 = P_rvI := pe75_2 hp
  have e77 : PT 77 = P_rdV := pe77_2 hp
  have e78 : PT 78 = P_ly := pe78_2 hp
  simp only [hF2, hF20, hFp_73, hFp_75, hFp_77, hFp_78, e73, e75, e77, e78, P_by1, P_rvI, P_rdV, P_ly, den_s, den_c, Int.add_zero, List.map_cons, List.map_nil, g13.eq, g14.eq, g15.eq, g16.eq, g17.eq, g18.eq, g19.eq, g20.eq, h1, h2, h35, h36, h37, h38] at f11 f12 f13 f14 f16 f17 f18 f19 ⊢
  subst f17
  obtain ⟨i1, i2, i3, i4, i5⟩ := f18
  by_cases h : (r14 + 2) < a1 1
  · subst i1
    subst i5
    first
      | (exfalso; omega)
      | exact rdV_f (Or.inr (Or.inl ⟨by omega, by omega, allG_5 i3 (fun q => by unfold gV sh; omega) (fun q => by unfold gV sh; omega) (fun q => by unfold gV sh; omega) (fun q => by unfold gV sh; omega) (fun q => by unfold gV sh; omega) (by omega), by unfold gV sh; omega⟩)) (by omega) (by omega)
  · subst i1
    subst i5
    first
      | (exfalso; omega)
      | exact rdV_f (Or.inr (Or.inr ⟨by omega, allG_5 i3 (fun q => by unfold gV sh; omega) (fun q => by unfold gV sh; omega) (fun q => by unfold gV sh; omega) (fun q => by unfold gV sh; omega) (fun q => by unfold gV sh; omega) (by omega), by omega⟩)) (by omega) (by omega))
def w_rp1_1_7 : VC := ((bY ++ [(0, 9), (0, 48), (0, 10), (1, 49), (97, 104), (49, 57), (97, 120), ((-1), 96)]), [(2, [(none, 3), (none, 4)], []), (0, [(none, 0), (none, 0)], []), (2, [(some 20, 0), (none, 97)], []), (1, [(none, 1), (none, 0)], []), (3, [(none, 120), (some 19, 0)], []), (3, [(some 19, 0), (none, 97)], []), (1, [(none, 1), (none, 0)], []), (3, [(none, 57), (some 18, 0)], []), (3, [(some 18, 0), (none, 49)], []), (1, [(none, 1), (none, 0)], []), (3, [(none, 104), (some 17, 0)], []), (3, [(some 17, 0), (none, 97)], []), (1, [(some 13, 0), (none, 10)], []), (73, [(some 20, 0), (some 14, 3)], [1, 2]), (73, [(some 19, 0), (some 14, 2)], [1, 2]), (73, [(some 18, 0), (some 14, 1)], [1, 2]), (73, [(some 17, 0), (some 14, 0)], [1, 2]), (1, [(none, 1), (none, 0)], []), (2, [(some 14, 0), (some 16, 0)], []), (20, [(some 16, 0), (none, 1)], [1]), (75, [(some 14, 0), (some 13, 0), (some 15, 0)], [1, 2, 35, 36, 37, 38]), (78, [], [1])], (77, [(some 14, 3), (some 15, 0)], [1, 2, 35, 36, 37, 38]))
set_option maxRecDepth 20000 in
theorem v_rp1_1_7 {PT : PTy} (hp : HP2 PT) : vcOk PT w_rp1_1_7 := vc_iv [(13, 0, 9), (14, 0, 48), (15, 0, 10), (16, 1, 49), (17, 97, 104), (18, 49, 57), (19, 97, 120), (20, (-1), 96)] [1, 2, 35, 36, 37, 38] (by decide +kernel) (fun ρ α => by
  intro r13 g13 b13 r14 g14 b14 r15 g15 b15 r16 g16 b16 r17 g17 b17 r18 g18 b18 r19 g19 b19 r20 g20 b20 a1 h1 a2 h2 a35 h35 a36 h36 a37 h37 a38 h38 f0 f1 f2 f3 f4 f5 f6 f7 f8 f9 f10 f11 f12 f13 f14 f15 f16 f17 f18 f19 f20 f21 tt
  clear f0 f1 f2 f3 f4 f5 f6 f7 f8 f9 f10 f11 f12 f17
  have e73 : PT 73 = P_by1 := pe73_2 hp
  have e75 : PT 75 = P_rvI := pe75_2 hp
  have e77 : PT 77 = P_rdV := pe77_2 hp
  have e78 : PT 78 = P_ly := pe78_2 hp
  simp only [hF2, hF20, hFp_73, hFp_75, hFp_77, hFp_78, e73, e75, e77, e78, P_by1, P_rvI, P_rdV, P_ly, den_s, den_c, Int.add_zero, List.map_cons, List.map_nil, g13.eq, g14.eq, g15.eq, g16.eq, g17.eq, g18.eq, g19.eq, g20.eq, h1, h2, h35, h36, h37, h38] at f13 f14 f15 f16 f18 f19 f20 f21 ⊢
  subst f19
  obtain ⟨i1, i2, i3, i4, i5⟩ := f20
  by_cases h : (r14 + 3) < a1 1
  · subst i1
    subst i5
    first
      | (exfalso; omega)
      | exact rdV_f (Or.inr (Or.inl ⟨by omega, by omega, allG_5 i3 (fun q => by unfold gV sh; omega) (fun q => by unfold gV sh; omega) (fun q => by unfold gV sh; omega) (fun q => by unfold gV sh; omega) (fun q => by unfold gV sh; omega) (by omega), by unfold gV sh; omega⟩)) (by omega) (by omega)
  · subst i1
    subst i5
    first
      | (exfalso; omega)
      | exact rdV_f (Or.inr (Or.inr ⟨by omega, allG_5 i3 (fun q => by unfold gV sh; omega) (fun q => by unfold gV sh; omega) (fun q => by unfold gV sh; omega) (fun q => by unfold gV sh; omega) (fun q => by unfold gV sh; omega) (by omega), by omega⟩)) (by omega) (by omega))
def w_rp1_1_8 : VC := ((bY ++ [(0, 9), (0, 48), (0, 10), (1, 49), (97, 104), (49, 57), (97, 120), (121, 255)]), [(2, [(none, 3), (none, 4)], []), (0, [(none, 0), (none, 0)], []), (2, [(none, 120), (some 20, 0)], []), (3, [(some 20, 0), (none, 97)], []), (1, [(none, 1), (none, 0)], []), (3, [(none, 120), (some 19, 0)], []), (3, [(some 19, 0), (none, 97)], []), (1, [(none, 1), (none, 0)], []), (3, [(none, 57), (some 18, 0)], []), (3, [(some 18, 0), (none, 49)], []), (1, [(none, 1), (none, 0)], []), (3, [(none, 104), (some 17, 0)], []), (3, [(some 17, 0), (none, 97)], []), (1, [(some 13, 0), (none, 10)], []), (73, [(some 20, 0), (some 14, 3)], [1, 2]), (73, [(some 19, 0), (some 14, 2)], [1, 2]), (73, [(some 18, 0), (some 14, 1)], [1, 2]), (73, [(some 17, 0), (some 14, 0)], [1, 2]), (1, [(none, 1), (none, 0)], []), (2, [(some 14, 0), (some 16, 0)], []), (20, [(some 16, 0), (none, 1)], [1]), (75, [(some 14, 0), (some 13, 0), (some 15, 0)], [1, 2, 35, 36, 37, 38]), (78, [], [1])], (77, [(some 14, 3), (some 15, 0)], [1, 2, 35, 36, 37, 38]))
set_option maxRecDepth 20000 in
theorem v_rp1_1_8 {PT : PTy} (hp : HP2 PT) : vcOk PT w_rp1_1_8 := vc_iv [(13, 0, 9), (14, 0, 48), (15, 0, 10), (16, 1, 49), (17, 97, 104), (18, 49, 57), (19, 97, 120), (20, 121, 255)] [1, 2, 35, 36, 37, 38] (by decide +kernel) (fun ρ α => by
  intro r13 g13 b13 r14 g14 b14 r15 g15 b15 r16 g16 b16 r17 g17 b17 r18 g18 b18 r19 g19 b19 r20 g20 b20 a1 h1 a2 h2 a35 h35 a36 h36 a37 h37 a38 h38 f0 f1 f2 f3 f4 f5 f6 f7 f8 f9 f10 f11 f12 f13 f14 f15 f16 f17 f18 f19 f20 f21 f22 tt
  clear f0 f1 f2 f3 f4 f5 f6 f7 f8 f9 f10 f11 f12 f13 f18
  have e73 : PT 73 = P_by1 := pe73_2 hp
  have e75 : PT 75 = P_rvI := pe75_2 hp
  have e77 : PT 77 = P_rdV := pe77_2 hp
  have e78 : PT 78 = P_ly := pe78_2 hp
  simp only [hF2, hF20, hFp_73, hFp_75, hFp_77, hFp_78, e73, e75, e77, e78, P_by1, P_rvI, P_rdV, P_ly, den_s, den_c, Int.add_zero, List.map_cons, List.map_nil, g13.eq, g14.eq, g15.eq, g16.eq, g17.eq, g18.eq, g19.eq, g20.eq, h1, h2, h35, h36, h37, h38] at f14 f15 f16 f17 f19 f20 f21 f22 ⊢
  subst f20
  obtain ⟨i1, i2, i3, i4, i5⟩ := f21
  by_cases h : (r14 + 3) < a1 1
  · subst i1
    subst i5
    first
      | (exfalso; omega)
      | exact rdV_f (Or.inr (Or.inl ⟨by omega, by omega, allG_5 i3 (fun q => by unfold gV sh; omega) (fun q => by unfold gV sh; omega) (fun q => by unfold gV sh; omega) (fun q => by unfold gV sh; omega) (fun q => by unfold gV sh; omega) (by omega), by unfold gV sh; omega⟩)) (by omega) (by omega)
  · subst i1
    subst i5
    first
      | (exfalso; omega)
      | exact rdV_f (Or.inr (Or.inr ⟨by omega, allG_5 i3 (fun q => by unfold gV sh; omega) (fun q => by unfold gV sh; omega) (fun q => by unfold gV sh; omega) (fun q => by unfold gV sh; omega) (fun q => by unfold gV sh; omega) (by omega), by omega⟩)) (by omega) (by omega))
def w_rp1_1_9 : VC := ((bY ++ [(0, 9), (0, 48), (0, 10), (1, 49), (97, 104), (49, 57), (97, 120), (97, 120), (0, 49), (59, 59)]), [(0, [(some 22, 0), (none, 59)], []), (73, [(some 22, 0), (some 14, 4)], [1, 2]), (1, [(some 14, 4), (some 21, 0)], []), (20, [(some 21, 0), (none, 1)], [1]), (3, [(none, 4), (none, 4)], []), (21, [(some 13, 0), (some 20, (-97))], [42, 38]), (21, [(some 13, 0), (some 19, (-97))], [41, 37]), (21, [(some 13, 0), (some 18, (-48))], [40, 36]), (21, [(some 13, 0), (some 17, (-97))], [39, 35]), (1, [(none, 1), (none, 0)], []), (3, [(none, 120), (some 20, 0)], []), (3, [(some 20, 0), (none, 97)], []), (1, [(none, 1), (none, 0)], []), (3, [(none, 120), (some 19, 0)], []), (3, [(some 19, 0), (none, 97)], []), (1, [(none, 1), (none, 0)], []), (3, [(none, 57), (some 18, 0)], []), (3, [(some 18, 0), (none, 49)], []), (1, [(none, 1), (none, 0)], []), (3, [(none, 104), (some 17, 0)], []), (3, [(some 17, 0), (none, 97)], []), (1, [(some 13, 0), (none, 10)], []), (73, [(some 20, 0), (some 14, 3)], [1, 2]), (73, [(some 19, 0), (some 14, 2)], [1, 2]), (73, [(some 18, 0), (some 14, 1)], [1, 2]), (73, [(some 17, 0), (some 14, 0)], [1, 2]), (1, [(none, 1), (none, 0)], []), (2, [(some 14, 0), (some 16, 0)], []), (20, [(some 16, 0), (none, 1)], [1]), (75, [(some 14, 0), (some 13, 0), (some 15, 0)], [1, 2, 35, 36, 37, 38]), (78, [], [1])], (3, [(some 14, 5), (none, 0)], []))
set_option maxRecDepth 20000 in
theorem v_rp1_1_9 {PT : PTy} (hp : HP2 PT) : vcOk PT w_rp1_1_9 := vc_iv [(13, 0, 9), (14, 0, 48), (15, 0, 10), (16, 1, 49), (17, 97, 104), (18, 49, 57), (19, 97, 120), (20, 97, 120), (21, 0, 49), (22, 59, 59)] [1, 2, 35, 36, 37, 38, 39, 40, 41, 42] (by decide +kernel) (fun ρ α => by
  intro r13 g13 b13 r14 g14 b14 r15 g15 b15 r16 g16 b16 r17 g17 b17 r18 g18 b18 r19 g19 b19 r20 g20 b20 r21 g21 b21 r22 g22 b22 a1 h1 a2 h2 a35 h35 a36 h36 a37 h37 a38 h38 a39 h39 a40 h40 a41 h41 a42 h42 f0 f1 f2 f3 f4 f5 f6 f7 f8 f9 f10 f11 f12 f13 f14 f15 f16 f17 f18 f19 f20 f21 f22 f23 f24 f25 f26 f27 f28 f29 f30 tt
  clear f4 f9 f10 f11 f12 f13 f14 f15 f16 f17 f18 f19 f20 f21 f26
  have e73 : PT 73 = P_by1 := pe73_2 hp
  have e75 : PT 75 = P_rvI := pe75_2 hp
  have e78 : PT 78 = P_ly := pe78_2 hp
  simp only [hF0, hF1, hF2, hF3, hF20, hF21, hFp_73, hFp_75, hFp_78, e73, e75, e78, P_by1, P_rvI, P_ly, den_s, den_c, Int.add_zero, List.map_cons, List.map_nil, g13.eq, g14.eq, g15.eq, g16.eq, g17.eq, g18.eq, g19.eq, g20.eq, g21.eq, g22.eq, h1, h2, h35, h36, h37, h38, h39, h40, h41, h42] at f0 f1 f2 f3 f5 f6 f7 f8 f22 f23 f24 f25 f27 f28 f29 f30 ⊢
  subst f3
  subst f5
  subst f6
  subst f7
  subst f8
  subst f28
  obtain ⟨i1, i2, i3, i4, i5⟩ := f29
  omega)
def w_rp1_1_10 : VC := ((bY ++ [(0, 9), (0, 48), (0, 10), (1, 49), (97, 104), (49, 57), (97, 120), (97, 120), (0, 49), (59, 59)]), [(0, [(some 22, 0), (none, 59)], []), (73, [(some 22, 0), (some 14, 4)], [1, 2]), (1, [(some 14, 4), (some 21, 0)], []), (20, [(some 21, 0), (none, 1)], [1]), (3, [(none, 4), (none, 4)], []), (21, [(some 13, 0), (some 20, (-97))], [42, 38]), (21, [(some 13, 0), (some 19, (-97))], [41, 37]), (21, [(some 13, 0), (some 18, (-48))], [40, 36]), (21, [(some 13, 0), (some 17, (-97))], [39, 35]), (1, [(none, 1), (none, 0)], []), (3, [(none, 120), (some 20, 0)], []), (3, [(some 20, 0), (none, 97)], []), (1, [(none, 1), (none, 0)], []), (3, [(none, 120), (some 19, 0)], []), (3, [(some 19, 0), (none, 97)], []), (1, [(none, 1), (none, 0)], []), (3, [(none, 57), (some 18, 0)], []), (3, [(some 18, 0), (none, 49)], []), (1, [(none, 1), (none, 0)], []), (3, [(none, 104), (some 17, 0)], []), (3, [(some 17, 0), (none, 97)], []), (1, [(some 13, 0), (none, 10)], []), (73, [(some 20, 0), (some 14, 3)], [1, 2]), (73, [(some 19, 0), (some 14, 2)], [1, 2]), (73, [(some 18, 0), (some 14, 1)], [1, 2]), (73, [(some 17, 0), (some 14, 0)], [1, 2]), (1, [(none, 1), (none, 0)], []), (2, [(some 14, 0), (some 16, 0)], []), (20, [(some 16, 0), (none, 1)], [1]), (75, [(some 14, 0), (some 13, 0), (some 15, 0)], [1, 2, 35, 36, 37, 38]), (78, [], [1])], (3, [(none, 50), (some 14, 5)], []))
set_option maxRecDepth 20000 in
theorem v_rp1_1_10 {PT : PTy} (hp : HP2 PT) : vcOk PT w_rp1_1_10 := vc_iv [(13, 0, 9), (14, 0, 48), (15, 0, 10), (16, 1, 49), (17, 97, 104), (18, 49, 57), (19, 97, 120), (20, 97, 120), (21, 0, 49), (22, 59, 59)] [1, 2, 35, 36, 37, 38, 39, 40, 41, 42] (by decide +kernel) (fun ρ α => by
  intro r13 g13 b13 r14 g14 b14 r15 g15 b15 r16 g16 b16 r17 g17 b17 r18 g18 b18 r19 g19 b19 r20 g20 b20 r21 g21 b21 r22 g22 b22 a1 h1 a2 h2 a35 h35 a36 h36 a37 h37 a38 h38 a39 h39 a40 h40 a41 h41 a42 h42 f0 f1 f2 f3 f4 f5 f6 f7 f8 f9 f10 f11 f12 f13 f14 f15 f16 f17 f18 f19 f20 f21 f22 f23 f24 f25 f26 f27 f28 f29 f30 tt
  clear f4 f9 f10 f11 f12 f13 f14 f15 f16 f17 f18 f19 f20 f21 f26
  have e73 : PT 73 = P_by1 := pe73_2 hp
  have e75 : PT 75 = P_rvI := pe75_2 hp
  have e78 : PT 78 = P_ly := pe78_2 hp
  simp only [hF0, hF1, hF2, hF3, hF20, hF21, hFp_73, hFp_75, hFp_78, e73, e75, e78, P_by1, P_rvI, P_ly, den_s, den_c, Int.add_zero, List.map_cons, List.map_nil, g13.eq, g14.eq, g15.eq, g16.eq, g17.eq, g18.eq, g19.eq, g20.eq, g21.eq, g22.eq, h1, h2, h35, h36, h37, h38, h39, h40, h41, h42] at f0 f1 f2 f3 f5 f6 f7 f8 f22 f23 f24 f25 f27 f28 f29 f30 ⊢
  subst f3
  subst f5
  subst f6
  subst f7
  subst f8
  subst f28
  obtain ⟨i1, i2, i3, i4, i5⟩ := f29
  omega)
def w_rp1_1_11 : VC := ((bY ++ [(0, 9), (0, 48), (0, 10), (1, 49), (97, 104), (49, 57), (97, 120), (97, 120), (0, 49), (59, 59)]), [(0, [(some 22, 0), (none, 59)], []), (73, [(some 22, 0), (some 14, 4)], [1, 2]), (1, [(some 14, 4), (some 21, 0)], []), (20, [(some 21, 0), (none, 1)], [1]), (3, [(none, 4), (none, 4)], []), (21, [(some 13, 0), (some 20, (-97))], [42, 38]), (21, [(some 13, 0), (some 19, (-97))], [41, 37]), (21, [(some 13, 0), (some 18, (-48))], [40, 36]), (21, [(some 13, 0), (some 17, (-97))], [39, 35]), (1, [(none, 1), (none, 0)], []), (3, [(none, 120), (some 20, 0)], []), (3, [(some 20, 0), (none, 97)], []), (1, [(none, 1), (none, 0)], []), (3, [(none, 120), (some 19, 0)], []), (3, [(some 19, 0), (none, 97)], []), (1, [(none, 1), (none, 0)], []), (3, [(none, 57), (some 18, 0)], []), (3, [(some 18, 0), (none, 49)], []), (1, [(none, 1), (none, 0)], []), (3, [(none, 104), (some 17, 0)], []), (3, [(some 17, 0), (none, 97)], []), (1, [(some 13, 0), (none, 10)], []), (73, [(some 20, 0), (some 14, 3)], [1, 2]), (73, [(some 19, 0), (some 14, 2)], [1, 2]), (73, [(some 18, 0), (some 14, 1)], [1, 2]), (73, [(some 17, 0), (some 14, 0)], [1, 2]), (1, [(none, 1), (none, 0)], []), (2, [(some 14, 0), (some 16, 0)], []), (20, [(some 16, 0), (none, 1)], [1]), (75, [(some 14, 0), (some 13, 0), (some 15, 0)], [1, 2, 35, 36, 37, 38]), (78, [], [1])], (75, [(some 14, 5), (some 13, 1), (some 15, 0)], [1, 2, 39, 40, 41, 42]))
set_option maxRecDepth 20000 in
theorem v_rp1_1_11 {PT : PTy} (hp : HP2 PT) : vcOk PT w_rp1_1_11 := vc_iv [(13, 0, 9), (14, 0, 48), (15, 0, 10), (16, 1, 49), (17, 97, 104), (18, 49, 57), (19, 97, 120), (20, 97, 120), (21, 0, 49), (22, 59, 59)] [1, 2, 35, 36, 37, 38, 39, 40, 41, 42] (by decide +kernel) (fun ρ α => by
  intro r13 g13 b13 r14 g14 b14 r15 g15 b15 r16 g16 b16 r17 g17 b17 r18 g18 b18 r19 g19 b19 r20 g20 b20 r21 g21 b21 r22 g22 b22 a1 h1 a2 h2 a35 h35 a36 h36 a37 h37 a38 h38 a39 h39 a40 h40 a41 h41 a42 h42 f0 f1 f2 f3 f4 f5 f6 f7 f8 f9 f10 f11 f12 f13 f14 f15 f16 f17 f18 f19 f20 f21 f22 f23 f24 f25 f26 f27 f28 f29 f30 tt
  clear f4 f9 f10 f11 f12 f13 f14 f15 f16 f17 f18 f19 f20 f21 f26
  have e73 : PT 73 = P_by1 := pe73_2 hp
  have e75 : PT 75 = P_rvI := pe75_2 hp
  have e78 : PT 78 = P_ly := pe78_2 hp
  simp only [hF0, hF1, hF2, hF20, hF21, hFp_73, hFp_75, hFp_78, e73, e75, e78, P_by1, P_rvI, P_ly, den_s, den_c, Int.add_zero, List.map_cons, List.map_nil, g13.eq, g14.eq, g15.eq, g16.eq, g17.eq, g18.eq, g19.eq, g20.eq, g21.eq, g22.eq, h1, h2, h35, h36, h37, h38, h39, h40, h41, h42] at f0 f1 f2 f3 f5 f6 f7 f8 f22 f23 f24 f25 f27 f28 f29 f30 ⊢
  subst f3
  subst f5
  subst f6
  subst f7
  subst f8
  subst f28
  obtain ⟨i1, i2, i3, i4, i5⟩ := f29
  subst i1
  subst i5
  first
    | exact ⟨by omega, by omega, allG_5 i3 (fun q => by unfold gV sh; omega) (fun q => by unfold gV sh; omega) (fun q => by unfold gV sh; omega) (fun q => by unfold gV sh; omega) (fun q => by unfold gV sh; omega) (by omega), tkV_s i4 (by unfold sh; omega) (by unfold sh; omega) (by unfold sh; omega) (by unfold sh; omega), rfl⟩
    | (exfalso; omega))
def w_rp1_1_12 : VC := ((bY ++ [(0, 9), (0, 48), (0, 10), (1, 49), (97, 104), (49, 57), (97, 120), (97, 120), (0, 49), ((-1), 255)]), [(1, [(some 22, 0), (none, 59)], []), (73, [(some 22, 0), (some 14, 4)], [1, 2]), (1, [(some 14, 4), (some 21, 0)], []), (20, [(some 21, 0), (none, 1)], [1]), (3, [(none, 4), (none, 4)], []), (21, [(some 13, 0), (some 20, (-97))], [42, 38]), (21, [(some 13, 0), (some 19, (-97))], [41, 37]), (21, [(some 13, 0), (some 18, (-48))], [40, 36]), (21, [(some 13, 0), (some 17, (-97))], [39, 35]), (1, [(none, 1), (none, 0)], []), (3, [(none, 120), (some 20, 0)], []), (3, [(some 20, 0), (none, 97)], []), (1, [(none, 1), (none, 0)], []), (3, [(none, 120), (some 19, 0)], []), (3, [(some 19, 0), (none, 97)], []), (1, [(none, 1), (none, 0)], []), (3, [(none, 57), (some 18, 0)], []), (3, [(some 18, 0), (none, 49)], []), (1, [(none, 1), (none, 0)], []), (3, [(none, 104), (some 17, 0)], []), (3, [(some 17, 0), (none, 97)], []), (1, [(some 13, 0), (none, 10)], []), (73, [(some 20, 0), (some 14, 3)], [1, 2]), (73, [(some 19, 0), (some 14, 2)], [1, 2]), (73, [(some 18, 0), (some 14, 1)], [1, 2]), (73, [(some 17, 0), (some 14, 0)], [1, 2]), (1, [(none, 1), (none, 0)], []), (2, [(some 14, 0), (some 16, 0)], []), (20, [(some 16, 0), (none, 1)], [1]), (75, [(some 14, 0), (some 13, 0), (some 15, 0)], [1, 2, 35, 36, 37, 38]), (78, [], [1])], (77, [(some 14, 4), (some 15, 0)], [1, 2, 39, 40, 41, 42]))
set_option maxRecDepth 20000 in
theorem v_rp1_1_12 {PT : PTy} (hp : HP2 PT) : vcOk PT w_rp1_1_12 := vc_iv [(13, 0, 9), (14, 0, 48), (15, 0, 10), (16, 1, 49), (17, 97, 104), (18, 49, 57), (19, 97, 120), (20, 97, 120), (21, 0, 49), (22, (-1), 255)] [1, 2, 35, 36, 37, 38, 39, 40, 41, 42] (by decide +kernel) (fun ρ α => by
  intro r13 g13 b13 r14 g14 b14 r15 g15 b15 r16 g16 b16 r17 g17 b17 r18 g18 b18 r19 g19 b19 r20 g20 b20 r21 g21 b21 r22 g22 b22 a1 h1 a2 h2 a35 h35 a36 h36 a37 h37 a38 h38 a39 h39 a40 h40 a41 h41 a42 h42 f0 f1 f2 f3 f4 f5 f6 f7 f8 f9 f10 f11 f12 f13 f14 f15 f16 f17 f18 f19 f20 f21 f22 f23 f24 f25 f26 f27 f28 f29 f30 tt
  clear f4 f9 f10 f11 f12 f13 f14 f15 f16 f17 f18 f19 f20 f21 f26
  have e73 : PT 73 = P_by1 := pe73_2 hp
  have e75 : PT 75 = P_rvI := pe75_2 hp
  have e77 : PT 77 = P_rdV := pe77_2 hp
  have e78 : PT 78 = P_ly := pe78_2 hp
  simp only [hF1, hF2, hF20, hF21, hFp_73, hFp_75, hFp_77, hFp_78, e73, e75, e77, e78, P_by1, P_rvI, P_rdV, P_ly, den_s, den_c, Int.add_zero, List.map_cons, List.map_nil, g13.eq, g14.eq, g15.eq, g16.eq, g17.eq, g18.eq, g19.eq, g20.eq, g21.eq, g22.eq, h1, h2, h35, h36, h37, h38, h39, h40, h41, h42] at f0 f1 f2 f3 f5 f6 f7 f8 f22 f23 f24 f25 f27 f28 f29 f30 ⊢
  subst f3
  subst f5
  subst f6
  subst f7
  subst f8
  subst f28
  obtain ⟨i1, i2, i3, i4, i5⟩ := f29
  by_cases h : (r14 + 4) < a1 1
  · subst i1
    subst i5
    first
      | (exfalso; omega)
      | exact rdV_f (Or.inr (Or.inl ⟨by omega, by omega, allG_5 i3 (fun q => by unfold gV sh; omega) (fun q => by unfold gV sh; omega) (fun q => by unfold gV sh; omega) (fun q => by unfold gV sh; omega) (fun q => by unfold gV sh; omega) (by omega), by unfold gV sh; omega⟩)) (by omega) (by omega)
  · subst i1
    subst i5
    first
      | (exfalso; omega)
      | exact rdV_f (Or.inr (Or.inr ⟨by omega, allG_5 i3 (fun q => by unfold gV sh; omega) (fun q => by unfold gV sh; omega) (fun q => by unfold gV sh; omega) (fun q => by unfold gV sh; omega) (fun q => by unfold gV sh; omega) (by omega), by omega⟩)) (by omega) (by omega))
def w_rp1_1_13 : VC := ((bY ++ [(0, 9), (0, 45), (0, 10), (1, 49), (97, 104), (49, 57), (97, 120), (97, 120), (4, 49)]), [(0, [(none, 1), (none, 1)], []), (1, [(none, 1), (none, 0)], []), (0, [(some 14, 4), (some 21, 0)], []), (20, [(some 21, 0), (none, 1)], [1]), (3, [(none, 4), (none, 4)], []), (21, [(some 13, 0), (some 20, (-97))], [42, 38]), (21, [(some 13, 0), (some 19, (-97))], [41, 37]), (21, [(some 13, 0), (some 18, (-48))], [40, 36]), (21, [(some 13, 0), (some 17, (-97))], [39, 35]), (1, [(none, 1), (none, 0)], []), (3, [(none, 120), (some 20, 0)], []), (3, [(some 20, 0), (none, 97)], []), (1, [(none, 1), (none, 0)], []), (3, [(none, 120), (some 19, 0)], []), (3, [(some 19, 0), (none, 97)], []), (1, [(none, 1), (none, 0)], []), (3, [(none, 57), (some 18, 0)], []), (3, [(some 18, 0), (none, 49)], []), (1, [(none, 1), (none, 0)], []), (3, [(none, 104), (some 17, 0)], []), (3, [(some 17, 0), (none, 97)], []), (1, [(some 13, 0), (none, 10)], []), (73, [(some 20, 0), (some 14, 3)], [1, 2]), (73, [(some 19, 0), (some 14, 2)], [1, 2]), (73, [(some 18, 0), (some 14, 1)], [1, 2]), (73, [(some 17, 0), (some 14, 0)], [1, 2]), (1, [(none, 1), (none, 0)], []), (2, [(some 14, 0), (some 16, 0)], []), (20, [(some 16, 0), (none, 1)], [1]), (75, [(some 14, 0), (some 13, 0), (some 15, 0)], [1, 2, 35, 36, 37, 38]), (78, [], [1])], (77, [(none, (-1)), (some 13, 1)], [1, 2, 39, 40, 41, 42]))
set_option maxRecDepth 20000 in
theorem v_rp1_1_13 {PT : PTy} (hp : HP2 PT) : vcOk PT w_rp1_1_13 := vc_iv [(13, 0, 9), (14, 0, 45), (15, 0, 10), (16, 1, 49), (17, 97, 104), (18, 49, 57), (19, 97, 120), (20, 97, 120), (21, 4, 49)] [1, 2, 35, 36, 37, 38, 39, 40, 41, 42] (by decide +kernel) (fun ρ α => by
  intro r13 g13 b13 r14 g14 b14 r15 g15 b15 r16 g16 b16 r17 g17 b17 r18 g18 b18 r19 g19 b19 r20 g20 b20 r21 g21 b21 a1 h1 a2 h2 a35 h35 a36 h36 a37 h37 a38 h38 a39 h39 a40 h40 a41 h41 a42 h42 f0 f1 f2 f3 f4 f5 f6 f7 f8 f9 f10 f11 f12 f13 f14 f15 f16 f17 f18 f19 f20 f21 f22 f23 f24 f25 f26 f27 f28 f29 f30 tt
  clear f0 f1 f4 f9 f10 f11 f12 f13 f14 f15 f16 f17 f18 f19 f20 f21 f26
  have e73 : PT 73 = P_by1 := pe73_2 hp
  have e75 : PT 75 = P_rvI := pe75_2 hp
  have e77 : PT 77 = P_rdV := pe77_2 hp
  have e78 : PT 78 = P_ly := pe78_2 hp
  simp only [hF0, hF2, hF20, hF21, hFp_73, hFp_75, hFp_77, hFp_78, e73, e75, e77, e78, P_by1, P_rvI, P_rdV, P_ly, den_s, den_c, Int.add_zero, List.map_cons, List.map_nil, g13.eq, g14.eq, g15.eq, g16.eq, g17.eq, g18.eq, g19.eq, g20.eq, g21.eq, h1, h2, h35, h36, h37, h38, h39, h40, h41, h42] at f2 f3 f5 f6 f7 f8 f22 f23 f24 f25 f27 f28 f29 f30 ⊢
  subst f3
  subst f5
  subst f6
  subst f7
  subst f8
  subst f28
  obtain ⟨i1, i2, i3, i4, i5⟩ := f29
  subst i1
  subst i5
  first
    | exact rdV_w ⟨allG_5 i3 (fun q => by unfold gV sh; omega) (fun q => by unfold gV sh; omega) (fun q => by unfold gV sh; omega) (fun q => by unfold gV sh; omega) (fun q => by unfold gV sh; omega) (by omega), by omega⟩ (by omega) (tkV_s i4 (by unfold sh; omega) (by unfold sh; omega) (by unfold sh; omega) (by unfold sh; omega))
    | exact rdV_w ⟨allG_5 i3 (fun q => by unfold gV sh; omega) (fun q => by unfold gV sh; omega) (fun q => by unfold gV sh; omega) (fun q => by unfold gV sh; omega) (fun q => by unfold gV sh; omega) (by omega), by omega⟩ (by omega) (fun j h1 h2 => by omega)
    | (exfalso; omega))
def w_rp1_1_14 : VC := ((bY ++ [(0, 10), (0, 0), (0, 10), (0, 49)]), [(3, [(none, 0), (some 14, 0)], []), (3, [(some 14, 0), (some 16, 0)], []), (20, [(some 16, 0), (none, 1)], [1]), (75, [(some 14, 0), (some 13, 0), (some 15, 0)], [1, 2, 35, 36, 37, 38]), (78, [], [1])], (77, [(none, (-1)), (some 15, 0)], [1, 2, 35, 36, 37, 38]))
set_option maxRecDepth 20000 in
theorem v_rp1_1_14 {PT : PTy} (hp : HP2 PT) : vcOk PT w_rp1_1_14 := vc_iv [(13, 0, 10), (14, 0, 0), (15, 0, 10), (16, 0, 49)] [1, 2, 35, 36, 37, 38] (by decide +kernel) (fun ρ α => by
  intro r13 g13 b13 r14 g14 b14 r15 g15 b15 r16 g16 b16 a1 h1 a2 h2 a35 h35 a36 h36 a37 h37 a38 h38 f0 f1 f2 f3 f4 tt
  clear f0
  have e75 : PT 75 = P_rvI := pe75_2 hp
  have e77 : PT 77 = P_rdV := pe77_2 hp
  have e78 : PT 78 = P_ly := pe78_2 hp
  simp only [hF3, hF20, hFp_75, hFp_77, hFp_78, e75, e77, e78, P_rvI, P_rdV, P_ly, den_s, den_c, Int.add_zero, List.map_cons, List.map_nil, g13.eq, g14.eq, g15.eq, g16.eq, h1, h2, h35, h36, h37, h38] at f1 f2 f3 f4 ⊢
  subst f2
  obtain ⟨i1, i2, i3, i4, i5⟩ := f3
  subst i1
  subst i5
  first
    | exact rdV_w ⟨allG_5 i3 (fun q => by unfold gV sh; omega) (fun q => by unfold gV sh; omega) (fun q => by unfold gV sh; omega) (fun q => by unfold gV sh; omega) (fun q => by unfold gV sh; omega) (by omega), by omega⟩ (by omega) (tkV_s i4 (by unfold sh; omega) (by unfold sh; omega) (by unfold sh; omega) (by unfold sh; omega))
    | exact rdV_w ⟨allG_5 i3 (fun q => by unfold gV sh; omega) (fun q => by unfold gV sh; omega) (fun q => by unfold gV sh; omega) (fun q => by unfold gV sh; omega) (fun q => by unfold gV sh; omega) (by omega), by omega⟩ (by omega) (fun j h1 h2 => by omega)
    | (exfalso; omega))
def w_rp1_1_15 : VC := ((bY ++ [(10, 10), (1, 50), (0, 10), (0, 49), ((-1), 255), ((-1), 255), ((-1), 255), ((-1), 255)]), [(2, [(none, 0), (none, 4)], []), (0, [(some 13, 0), (none, 10)], []), (73, [(some 20, 0), (some 14, 3)], [1, 2]), (73, [(some 19, 0), (some 14, 2)], [1, 2]), (73, [(some 18, 0), (some 14, 1)], [1, 2]), (73, [(some 17, 0), (some 14, 0)], [1, 2]), (1, [(none, 1), (none, 0)], []), (2, [(none, 0), (some 14, 0)], []), (3, [(some 14, 0), (some 16, 0)], []), (20, [(some 16, 0), (none, 1)], [1]), (75, [(some 14, 0), (some 13, 0), (some 15, 0)], [1, 2, 35, 36, 37, 38]), (78, [], [1])], (77, [(some 14, 0), (some 15, 0)], [1, 2, 35, 36, 37, 38]))
set_option maxRecDepth 20000 in
theorem v_rp1_1_15 {PT : PTy} (hp : HP2 PT) : vcOk PT w_rp1_1_15 := vc_iv [(13, 10, 10), (14, 1, 50), (15, 0, 10), (16, 0, 49), (17, (-1), 255), (18, (-1), 255), (19, (-1), 255), (20, (-1), 255)] [1, 2, 35, 36, 37, 38] (by decide +kernel) (fun ρ α => by
  intro r13 g13 b13 r14 g14 b14 r15 g15 b15 r16 g16 b16 r17 g17 b17 r18 g18 b18 r19 g19 b19 r20 g20 b20 a1 h1 a2 h2 a35 h35 a36 h36 a37 h37 a38 h38 f0 f1 f2 f3 f4 f5 f6 f7 f8 f9 f10 f11 tt
  clear f0 f6 f7
  have e73 : PT 73 = P_by1 := pe73_2 hp
  have e75 : PT 75 = P_rvI := pe75_2 hp
  have e77 : PT 77 = P_rdV := pe77_2 hp
  have e78 : PT 78 = P_ly := pe78_2 hp
  simp only [hF0, hF3, hF20, hFp_73, hFp_75, hFp_77, hFp_78, e73, e75, e77, e78, P_by1, P_rvI, P_rdV, P_ly, den_s, den_c, Int.add_zero, List.map_cons, List.map_nil, g13.eq, g14.eq, g15.eq, g16.eq, g17.eq, g18.eq, g19.eq, g20.eq, h1, h2, h35, h36, h37, h38] at f1 f2 f3 f4 f5 f8 f9 f10 f11 ⊢
  subst f9
  obtain ⟨i1, i2, i3, i4, i5⟩ := f10
  by_cases h : r14 < a1 1
  · subst i1
    subst i5
    first
      | (exfalso; omega)
      | exact rdV_f (Or.inr (Or.inl ⟨by omega, by omega, allG_5 i3 (fun q => by unfold gV sh; omega) (fun q => by unfold gV sh; omega) (fun q => by unfold gV sh; omega) (fun q => by unfold gV sh; omega) (fun q => by unfold gV sh; omega) (by omega), by unfold gV sh; omega⟩)) (by omega) (by omega)
  · subst i1
    subst i5
    first
      | (exfalso; omega)
      | exact rdV_f (Or.inr (Or.inr ⟨by omega, allG_5 i3 (fun q => by unfold gV sh; omega) (fun q => by unfold gV sh; omega) (fun q => by unfold gV sh; omega) (fun q => by unfold gV sh; omega) (fun q => by unfold gV sh; omega) (by omega), by omega⟩)) (by omega) (by omega))
def w_rp1_1_16 : VC := ((bY ++ [(0, 9), (1, 50), (0, 10), (0, 49), ((-1), 96), ((-1), 255), ((-1), 255), ((-1), 255)]), [(2, [(none, 0), (none, 4)], []), (0, [(none, 0), (none, 0)], []), (2, [(some 17, 0), (none, 97)], []), (1, [(some 13, 0), (none, 10)], []), (73, [(some 20, 0), (some 14, 3)], [1, 2]), (73, [(some 19, 0), (some 14, 2)], [1, 2]), (73, [(some 18, 0), (some 14, 1)], [1, 2]), (73, [(some 17, 0), (some 14, 0)], [1, 2]), (1, [(none, 1), (none, 0)], []), (2, [(none, 0), (some 14, 0)], []), (3, [(some 14, 0), (some 16, 0)], []), (20, [(some 16, 0), (none, 1)], [1]), (75, [(some 14, 0), (some 13, 0), (some 15, 0)], [1, 2, 35, 36, 37, 38]), (78, [], [1])], (77, [(some 14, 0), (some 15, 0)], [1, 2, 35, 36, 37, 38]))
set_option maxRecDepth 20000 in
theorem v_rp1_1_16 {PT : PTy} (hp : HP2 PT) : vcOk PT w_rp1_1_16 := vc_iv [(13, 0, 9), (14, 1, 50), (15, 0, 10), (16, 0, 49), (17, (-1), 96), (18, (-1), 255), (19, (-1), 255), (20, (-1), 255)] [1, 2, 35, 36, 37, 38] (by decide +kernel) (fun ρ α => by
  intro r13 g13 b13 r14 g14 b14 r15 g15 b15 r16 g16 b16 r17 g17 b17 r18 g18 b18 r19 g19 b19 r20 g20 b20 a1 h1 a2 h2 a35 h35 a36 h36 a37 h37 a38 h38 f0 f1 f2 f3 f4 f5 f6 f7 f8 f9 f10 f11 f12 f13 tt
  clear f0 f1 f2 f3 f8 f9
  have e73 : PT 73 = P_by1 := pe73_2 hp
  have e75 : PT 75 = P_rvI := pe75_2 hp
  have e77 : PT 77 = P_rdV := pe77_2 hp
  have e78 : PT 78 = P_ly := pe78_2 hp
  simp only [hF3, hF20, hFp_73, hFp_75, hFp_77, hFp_78, e73, e75, e77, e78, P_by1, P_rvI, P_rdV, P_ly, den_s, den_c, Int.add_zero, List.map_cons, List.map_nil, g13.eq, g14.eq, g15.eq, g16.eq, g17.eq, g18.eq, g19.eq, g20.eq, h1, h2, h35, h36, h37, h38] at f4 f5 f6 f7 f10 f11 f12 f13 ⊢
  subst f11
  obtain ⟨i1, i2, i3, i4, i5⟩ := f12
  by_cases h : r14 < a1 1
  · subst i1
    subst i5
    first
      | (exfalso; omega)
      | exact rdV_f (Or.inr (Or.inl ⟨by omega, by omega, allG_5 i3 (fun q => by unfold gV sh; omega) (fun q => by unfold gV sh; omega) (fun q => by unfold gV sh; omega) (fun q => by unfold gV sh; omega) (fun q => by unfold gV sh; omega) (by omega), by unfold gV sh; omega⟩)) (by omega) (by omega)
  · subst i1
    subst i5
    first
      | (exfalso; omega)
      | exact rdV_f (Or.inr (Or.inr ⟨by omega, allG_5 i3 (fun q => by unfold gV sh; omega) (fun q => by unfold gV sh; omega) (fun q => by unfold gV sh; omega) (fun q => by unfold gV sh; omega) (fun q => by unfold gV sh; omega) (by omega), by omega⟩)) (by omega) (by omega))
def w_rp1_1_17 : VC := ((bY ++ [(0, 9), (1, 50), (0, 10), (0, 49), (105, 255), ((-1), 255), ((-1), 255), ((-1), 255)]), [(2, [(none, 0), (none, 4)], []), (0, [(none, 0), (none, 0)], []), (2, [(none, 104), (some 17, 0)], []), (3, [(some 17, 0), (none, 97)], []), (1, [(some 13, 0), (none, 10)], []), (73, [(some 20, 0), (some 14, 3)], [1, 2]), (73, [(some 19, 0), (some 14, 2)], [1, 2]), (73, [(some 18, 0), (some 14, 1)], [1, 2]), (73, [(some 17, 0), (some 14, 0)], [1, 2]), (1, [(none, 1), (none, 0)], []), (2, [(none, 0), (some 14, 0)], []), (3, [(some 14, 0), (some 16, 0)], []), (20, [(some 16, 0), (none, 1)], [1]), (75, [(some 14, 0), (some 13, 0), (some 15, 0)], [1, 2, 35, 36, 37, 38]), (78, [], [1])], (77, [(some 14, 0), (some 15, 0)], [1, 2, 35, 36, 37, 38]))
set_option maxRecDepth 20000 in
theorem v_rp1_1_17 {PT : PTy} (hp : HP2 PT) : vcOk PT w_rp1_1_17 := vc_iv [(13, 0, 9), (14, 1, 50), (15, 0, 10), (16, 0, 49), (17, 105, 255), (18, (-1), 255), (19, (-1), 255), (20, (-1), 255)] [1, 2, 35, 36, 37, 38] (by decide +kernel) (fun ρ α => by
  intro r13 g13 b13 r14 g14 b14 r15 g15 b15 r16 g16 b16 r17 g17 b17 r18 g18 b18 r19 g19 b19 r20 g20 b20 a1 h1 a2 h2 a35 h35 a36 h36 a37 h37 a38 h38 f0 f1 f2 f3 f4 f5 f6 f7 f8 f9 f10 f11 f12 f13 f14 tt
  clear f0 f1 f2 f3 f4 f9 f10
  have e73 : PT 73 = P_by1 := pe73_2 hp
  have e75 : PT 75 = P_rvI := pe75_2 hp
  have e77 : PT 77 = P_rdV := pe77_2 hp
  have e78 : PT 78 = P_ly := pe78_2 hp
  simp only [hF3, hF20, hFp_73, hFp_75, hFp_77, hFp_78, e73, e75, e77, e78, P_by1, P_rvI, P_rdV, P_ly, den_s, den_c, Int.add_zero, List.map_cons, List.map_nil, g13.eq, g14.eq, g15.eq, g16.eq, g17.eq, g18.eq, g19.eq, g20.eq, h1, h2, h35, h36, h37, h38] at f5 f6 f7 f8 f11 f12 f13 f14 ⊢
  subst f12
  obtain ⟨i1, i2, i3, i4, i5⟩ := f13
  by_cases h : r14 < a1 1
  · subst i1
    subst i5
    first
      | (exfalso; omega)
      | exact rdV_f (Or.inr (Or.inl ⟨by omega, by omega, allG_5 i3 (fun q => by unfold gV sh; omega) (fun q => by unfold gV sh; omega) (fun q => by unfold gV sh; omega) (fun q => by unfold gV sh; omega) (fun q => by unfold gV sh; omega) (by omega), by unfold gV sh; omega⟩)) (by omega) (by omega)
  · subst i1
    subst i5
    first
      | (exfalso; omega)
      | exact rdV_f (Or.inr (Or.inr ⟨by omega, allG_5 i3 (fun q => by unfold gV sh; omega) (fun q => by unfold gV sh; omega) (fun q => by unfold gV sh; omega) (fun q => by unfold gV sh; omega) (fun q => by unfold gV sh; omega) (by omega), by omega⟩)) (by omega) (by omega))
def w_rp1_1_18 : VC := ((bY ++ [(0, 9), (1, 50), (0, 10), (0, 49), (97, 104), ((-1), 48), ((-1), 255), ((-1), 255)]), [(2, [(none, 1), (none, 4)], []), (0, [(none, 0), (none, 0)], []), (2, [(some 18, 0), (none, 49)], []), (1, [(none, 1), (none, 0)], []), (3, [(none, 104), (some 17, 0)], []), (3, [(some 17, 0), (none, 97)], []), (1, [(some 13, 0), (none, 10)], []), (73, [(some 20, 0), (some 14, 3)], [1, 2]), (73, [(some 19, 0), (some 14, 2)], [1, 2]), (73, [(some 18, 0), (some 14, 1)], [1, 2]), (73, [(some 17, 0), (some 14, 0)], [1, 2]), (1, [(none, 1), (none, 0)], []), (2, [(none, 0), (some 14, 0)], []), (3, [(some 14, 0), (some 16, 0)], []), (20, [(some 16, 0), (none, 1)], [1]), (75, [(some 14, 0), (some 13, 0), (some 15, 0)], [1, 2, 35, 36, 37, 38]), (78, [], [1])], (77, [(some 14, 1), (some 15, 0)], [1, 2, 35, 36, 37, 38]))
set_option maxRecDepth 20000 in
theorem v_rp1_1_18 {PT : PTy} (hp : HP2 PT) : vcOk PT w_rp1_1_18 := vc_iv [(13, 0, 9), (14, 1, 50), (15, 0, 10), (16, 0, 49), (17, 97, 104), (18, (-1), 48), (19, (-1), 255), (20, (-1), 255)] [1, 2, 35, 36, 37, 38] (by decide +kernel) (fun ρ α => by
  intro r13 g13 b13 r14 g14 b14 r15 g15 b15 r16 g16 b16 r17 g17 b17 r18 g18 b18 r19 g19 b19 r20 g20 b20 a1 h1 a2 h2 a35 h35 a36 h36 a37 h37 a38 h38 f0 f1 f2 f3 f4 f5 f6 f7 f8 f9 f10 f11 f12 f13 f14 f15 f16 tt
  clear f0 f1 f2 f3 f4 f5 f6 f11 f12
  have e73 : PT 73 = P_by1 := pe73_2 hp
  have e75 : PT 75 = P_rvI := pe75_2 hp
  have e77 : PT 77 = P_rdV := pe77_2 hp
  have e78 : PT 78 = P_ly := pe78_2 hp
  simp only [hF3, hF20, hFp_73, hFp_75, hFp_77, hFp_78, e73, e75, e77, e78, P_by1, P_rvI, P_rdV, P_ly, den_s, den_c, Int.add_zero, List.map_cons, List.map_nil, g13.eq, g14.eq, g15.eq, g16.eq, g17.eq, g18.eq, g19.eq, g20.eq, h1, h2, h35, h36, h37, h38] at f7 f8 f9 f10 f13 f14 f15 f16 ⊢
  subst f14
  obtain ⟨i1, i2, i3, i4, i5⟩ := f15
  by_cases h : (r14 + 1) < a1 1
  · subst i1
    subst i5
    first
      | (exfalso; omega)
      | exact rdV_f (Or.inr (Or.inl ⟨by omega, by omega, allG_5 i3 (fun q => by unfold gV sh; omega) (fun q => by unfold gV sh; omega) (fun q => by unfold gV sh; omega) (fun q => by unfold gV sh; omega) (fun q => by unfold gV sh; omega) (by omega), by unfold gV sh; omega⟩)) (by omega) (by omega)
  · subst i1
    subst i5
    first
      | (exfalso; omega)
      | exact rdV_f (Or.inr (Or.inr ⟨by omega, allG_5 i3 (fun q => by unfold gV sh; omega) (fun q => by unfold gV sh; omega) (fun q => by unfold gV sh; omega) (fun q => by unfold gV sh; omega) (fun q => by unfold gV sh; omega) (by omega), by omega⟩)) (by omega) (by omega))
def w_rp1_1_19 : VC := ((bY ++ [(0, 9), (1, 50), (0, 10), (0, 49), (97, 104), (58, 255), ((-1), 255), ((-1), 255)]), [(2, [(none, 1), (none, 4)], []), (0, [(none, 0), (none, 0)], []), (2, [(none, 57), (some 18, 0)], []), (3, [(some 18, 0), (none, 49)], []), (1, [(none, 1), (none, 0)], []), (3, [(none, 104), (some 17, 0)], []), (3, [(some 17, 0), (none, 97)], []), (1, [(some 13, 0), (none, 10)], []), (73, [(some 20, 0), (some 14, 3)], [1, 2]), (73, [(some 19, 0), (some 14, 2)], [1, 2]), (73, [(some 18, 0), (some 14, 1)], [1, 2]), (73, [(some 17, 0), (some 14, 0)], [1, 2]), (1, [(none, 1), (none, 0)], []), (2, [(none, 0), (some 14, 0)], []), (3, [(some 14, 0), (some 16, 0)], []), (20, [(some 16, 0), (none, 1)], [1]), (75, [(some 14, 0), (some 13, 0), (some 15, 0)], [1, 2, 35, 36, 37, 38]), (78, [], [1])], (77, [(some 14, 1), (some 15, 0)], [1, 2, 35, 36, 37, 38]))
set_option maxRecDepth 20000 in
theorem v_rp1_1_19 {PT : PTy} (hp : HP2 PT) : vcOk PT w_rp1_1_19 := vc_iv [(13, 0, 9), (14, 1, 50), (15, 0, 10), (16, 0, 49), (17, 97, 104), (18, 58, 255), (19, (-1), 255), (20, (-1), 255)] [1, 2, 35, 36, 37, 38] (by decide +kernel) (fun ρ α => by
  intro r13 g13 b13 r14 g14 b14 r15 g15 b15 r16 g16 b16 r17 g17 b17 r18 g18 b18 r19 g19 b19 r20 g20 b20 a1 h1 a2 h2 a35 h35 a36 h36 a37 h37 a38 h38 f0 f1 f2 f3 f4 f5 f6 f7 f8 f9 f10 f11 f12 f13 f14 f15 f16 f17 tt
  clear f0 f1 f2 f3 f4 f5 f6 f7 f12 f13
  have e73 : PT 73 = P_by1 := pe73_2 hp
  have e75 : PT 75 = P_rvI := pe75_2 hp
  have e77 : PT 77 = P_rdV := pe77_2 hp
  have e78 : PT 78 = P_ly := pe78_2 hp
  simp only [hF3, hF20, hFp_73, hFp_75, hFp_77, hFp_78, e73, e75, e77, e78, P_by1, P_rvI, P_rdV, P_ly, den_s, den_c, Int.add_zero, List.map_cons, List.map_nil, g13.eq, g14.eq, g15.eq, g16.eq, g17.eq, g18.eq, g19.eq, g20.eq, h1, h2, h35, h36, h37, h38] at f8 f9 f10 f11 f14 f15 f16 f17 ⊢
  subst f15
  obtain ⟨i1, i2, i3, i4, i5⟩ := f16
  by_cases h : (r14 + 1) < a1 1
  · subst i1
    subst i5
    first
      | (exfalso; omega)
      | exact rdV_f (Or.inr (Or.inl ⟨by omega, by omega, allG_5 i3 (fun q => by unfold gV sh; omega) (fun q => by unfold gV sh; omega) (fun q => by unfold gV sh; omega) (fun q => by unfold gV sh; omega) (fun q => by unfold gV sh; omega) (by omega), by unfold gV sh; omega⟩)) (by omega) (by omega)
  · subst i1
    subst i5
    first
      | (exfalso; omega)
      | exact rdV_f (Or.inr (Or.inr ⟨by omega, allG_5 i3 (fun q => by unfold gV sh; omega) (fun q => by unfold gV sh; omega) (fun q => by unfold gV sh; omega) (fun q => by unfold gV sh; omega) (fun q => by unfold gV sh; omega) (by omega), by omega⟩)) (by omega) (by omega))
def w_rp1_1_20 : VC := ((bY ++ [(0, 9), (1, 50), (0, 10), (0, 49), (97, 104), (49, 57), ((-1), 96), ((-1), 255)]), [(2, [(none, 2), (none, 4)], []), (0, [(none, 0), (none, 0)], []), (2, [(some 19, 0), (none, 97)], []), (1, [(none, 1), (none, 0)], []), (3, [(none, 57), (some 18, 0)], []), (3, [(some 18, 0), (none, 49)], []), (1, [(none, 1), (none, 0)], []), (3, [(none, 104), (some 17, 0)], []), (3, [(some 17, 0), (none, 97)], []), (1, [(some 13, 0), (none, 10)], []), (73, [(some 20, 0), (some 14, 3)], [1, 2]), (73, [(some 19, 0), (some 14, 2)], [1, 2]), (73, [(some 18, 0), (some 14, 1)], [1, 2]), (73, [(some 17, 0), (some 14, 0)], [1, 2]), (1, [(none, 1), (none, 0)], []), (2, [(none, 0), (some 14, 0)], []), (3, [(some 14, 0), (some 16, 0)], []), (20, [(some 16, 0), (none, 1)], [1]), (75, [(some 14, 0), (some 13, 0), (some 15, 0)], [1, 2, 35, 36, 37, 38]), (78, [], [1])], (77, [(some 14, 2), (some 15, 0)], [1, 2, 35, 36, 37, 38]))
set_option maxRecDepth 20000 in
theorem v_rp1_1_20 {PT : PTy} (hp : HP2 PT) : vcOk PT w_rp1_1_20 := vc_iv [(13, 0, 9), (14, 1, 50), (15, 0, 10), (16, 0, 49), (17, 97, 104), (18, 49, 57), (19, (-1), 96), (20, (-1), 255)] [1, 2, 35, 36, 37, 38] (by decide +kernel) (fun ρ α => by
  intro r13 g13 b13 r14 g14 b14 r15 g15 b15 r16 g16 b16 r17 g17 b17 r18 g18 b18 r19 g19 b19 r20 g20 b20 a1 h1 a2 h2 a35 h35 a36 h36 a37 h37 a38 h38 f0 f1 f2 f3 f4 f5 f6 f7 f8 f9 f10 f11 f12 f13 f14 f15 f16 f17 f18 f19 tt
  clear f0 f1 f2 f3 f4 f5 f6 f7 f8 f9 f14 f15
  have e73 : PT 73 = P_by1 := pe73_2 hp
  have e75 : PT 75 = P_rvI := pe75_2 hp
  have e77 : PT 77 = P_rdV := pe77_2 hp
  have e78 : PT 78 = P_ly := pe78_2 hp
  simp only [hF3, hF20, hFp_73, hFp_75, hFp_77, hFp_78, e73, e75, e77, e78, P_by1, P_rvI, P_rdV, P_ly, den_s, den_c, Int.add_zero, List.map_cons, List.map_nil, g13.eq, g14.eq, g15.eq, g16.eq, g17.eq, g18.eq, g19.eq, g20.eq, h1, h2, h35, h36, h37, h38] at f10 f11 f12 f13 f16 f17 f18 f19 ⊢
  subst f17
  obtain ⟨i1, i2, i3, i4, i5⟩ := f18
  by_cases h : (r14 + 2) < a1 1
  · subst i1
    subst i5
    first
      | (exfalso; omega)
      | exact rdV_f (Or.inr (Or.inl ⟨by omega, by omega, allG_5 i3 (fun q => by unfold gV sh; omega) (fun q => by unfold gV sh; omega) (fun q => by unfold gV sh; omega) (fun q => by unfold gV sh; omega) (fun q => by unfold gV sh; omega) (by omega), by unfold gV sh; omega⟩)) (by omega) (by omega)
  · subst i1
    subst i5
    first
      | (exfalso; omega)
      | exact rdV_f (Or.inr (Or.inr ⟨by omega, allG_5 i3 (fun q => by unfold gV sh; omega) (fun q => by unfold gV sh; omega) (fun q => by unfold gV sh; omega) (fun q => by unfold gV sh; omega) (fun q => by unfold gV sh; omega) (by omega), by omega⟩)) (by omega) (by omega))
def w_rp1_1_21 : VC := ((bY ++ [(0, 9), (1, 50), (0, 10), (0, 49), (97, 104), (49, 57), (121, 255), ((-1), 255)]), [(2, [(none, 2), (none, 4)], []), (0, [(none, 0), (none, 0)], []), (2, [(none, 120), (some 19, 0)], []), (3, [(some 19, 0), (none, 97)], []), (1, [(none, 1), (none, 0)], []), (3, [(none, 57), (some 18, 0)], []), (3, [(some 18, 0), (none, 49)], []), (1, [(none, 1), (none, 0)], []), (3, [(none, 104), (some 17, 0)], []), (3, [(some 17, 0), (none, 97)], []), (1, [(some 13, 0), (none, 10)], []), (73, [(some 20, 0), (some 14, 3)], [1, 2]), (73, [(some 19, 0), (some 14, 2)], [1, 2]), (73, [(some 18, 0), (some 14, 1)], [1, 2]), (73, [(some 17, 0), (some 14, 0)], [1, 2]), (1, [(none, 1), (none, 0)], []), (2, [(none, 0), (some 14, 0)], []), (3, [(some 14, 0), (some 16, 0)], []), (20, [(some 16, 0), (none, 1)], [1]), (75, [(some 14, 0), (some 13, 0), (some 15, 0)], [1, 2, 35, 36, 37, 38]), (78, [], [1])], (77, [(some 14, 2), (some 15, 0)], [1, 2, 35, 36, 37, 38]))
set_option maxRecDepth 20000 in
theorem v_rp1_1_21 {PT : PTy} (hp : HP2 PT) : vcOk PT w_rp1_1_21 := vc_iv [(13, 0, 9), (14, 1, 50), (15, 0, 10), (16, 0, 49), (17, 97, 104), (18, 49, 57), (19, 121, 255), (20, (-1), 255)] [1, 2, 35, 36, 37, 38] (by decide +kernel) (fun ρ α => by
  intro r13 g13 b13 r14 g14 b14 r15 g15 b15 r16 g16 b16 r17 g17 b17 r18 g18 b18 r19 g19 b19 r20 g20 b20 a1 h1 a2 h2 a35 h35 a36 h36 a37 h37 a38 h38 f0 f1 f2 f3 f4 f5 f6 f7 f8 f9 f10 f11 f12 f13 f14 f15 f16 f17 f18 f19 f20 tt
  clear f0 f1 f2 f3 f4 f5 f6 f7 f8 f9 f10 f15 f16
  have e73 : PT 73 = P_by1 := pe73_2 hp
  have e75 : PT 75 = P_rvI := pe75_2 hp
  have e77 : PT 77 = P_rdV := pe77_2 hp
  have e78 : PT 78 = P_ly := pe78_2 hp
  simp only [hF3, hF20, hFp_73, hFp_75, hFp_77, hFp_78, e73, e75, e77, e78, P_by1, P_rvI, P_rdV, P_ly, den_s, den_c, Int.add_zero, List.map_cons, List.map_nil, g13.eq, g14.eq, g15.eq, g16.eq, g17.eq, g18.eq, g19.eq, g20.eq, h1, h2, h35, h36, h37, h38] at f11 f12 f13 f14 f17 f18 f19 f20 ⊢
  subst f18
  obtain ⟨i1, i2, i3, i4, i5⟩ := f19
  by_cases h : (r14 + 2) < a1 1
  · subst i1
    subst i5
    first
      | (exfalso; omega)
      | exact rdV_f (Or.inr (Or.inl ⟨by omega, by omega, allG_5 i3 (fun q => by unfold gV sh; omega) (fun q => by unfold gV sh; omega) (fun q => by unfold gV sh; omega) (fun q => by unfold gV sh; omega) (fun q => by unfold gV sh; omega) (by omega), by unfold gV sh; omega⟩)) (by omega) (by omega)
  · subst i1
    subst i5
    first
      | (exfalso; omega)
      | exact rdV_f (Or.inr (Or.inr ⟨by omega, allG_5 i3 (fun q => by unfold gV sh; omega) (fun q => by unfold gV sh; omega) (fun q => by unfold gV sh; omega) (fun q => by unfold gV sh; omega) (fun q => by unfold gV sh; omega) (by omega), by omega⟩)) (by omega) (by omega))
def w_rp1_1_22 : VC := ((bY ++ [(0, 9), (1, 50), (0, 10), (0, 49), (97, 104), (49, 57), (97, 120), ((-1), 96)]), [(2, [(none, 3), (none, 4)], []), (0, [(none, 0), (none, 0)], []), (2, [(some 20, 0), (none, 97)], []), (1, [(none, 1), (none, 0)], []), (3, [(none, 120), (some 19, 0)], []), (3, [(some 19, 0), (none, 97)], []), (1, [(none, 1), (none, 0)], []), (3, [(none, 57), (some 18, 0)], []), (3, [(some 18, 0), (none, 49)], []), (1, [(none, 1), (none, 0)], []), (3, [(none, 104), (some 17, 0)], []), (3, [(some 17, 0), (none, 97)], []), (1, [(some 13, 0), (none, 10)], []), (73, [(some 20, 0), (some 14, 3)], [1, 2]), (73, [(some 19, 0), (some 14, 2)], [1, 2]), (73, [(some 18, 0), (some 14, 1)], [1, 2]), (73, [(some 17, 0), (some 14, 0)], [1, 2]), (1, [(none, 1), (none, 0)], []), (2, [(none, 0), (some 14, 0)], []), (3, [(some 14, 0), (some 16, 0)], []), (20, [(some 16, 0), (none, 1)], [1]), (75, [(some 14, 0), (some 13, 0), (some 15, 0)], [1, 2, 35, 36, 37, 38]), (78, [], [1])], (77, [(some 14, 3), (some 15, 0)], [1, 2, 35, 36, 37, 38]))
set_option maxRecDepth 20000 in
theorem v_rp1_1_22 {PT : PTy} (hp : HP2 PT) : vcOk PT w_rp1_1_22 := vc_iv [(13, 0, 9), (14, 1, 50), (15, 0, 10), (16, 0, 49), (17, 97, 104), (18, 49, 57), (19, 97, 120), (20, (-1), 96)] [1, 2, 35, 36, 37, 38] (by decide +kernel) (fun ρ α => by
  intro r13 g13 b13 r14 g14 b14 r15 g15 b15 r16 g16 b16 r17 g17 b17 r18 g18 b18 r19 g19 b19 r20 g20 b20 a1 h1 a2 h2 a35 h35 a36 h36 a37 h37 a38 h38 f0 f1 f2 f3 f4 f5 f6 f7 f8 f9 f10 f11 f12 f13 f14 f15 f16 f17 f18 f19 f20 f21 f22 tt
  clear f0 f1 f2 f3 f4 f5 f6 f7 f8 f9 f10 f11 f12 f17 f18
  have e73 : PT 73 = P_by1 := pe73_2 hp
  have e75 : PT 75 = P_rvI := pe75_2 hp
  have e77 : PT 77 = P_rdV := pe77_2 hp
  have e78 : PT 78 = P_ly := pe78_2 hp
  simp only [hF3, hF20, hFp_73, hFp_75, hFp_77, hFp_78, e73, e75, e77, e78, P_by1, P_rvI, P_rdV, P_ly, den_s, den_c, Int.add_zero, List.map_cons, List.map_nil, g13.eq, g14.eq, g15.eq, g16.eq, g17.eq, g18.eq, g19.eq, g20.eq, h1, h2, h35, h36, h37, h38] at f13 f14 f15 f16 f19 f20 f21 f22 ⊢
  subst f20
  obtain ⟨i1, i2, i3, i4, i5⟩ := f21
  by_cases h : (r14 + 3) < a1 1
  · subst i1
    subst i5
    first
      | (exfalso; omega)
      | exact rdV_f (Or.inr (Or.inl ⟨by omega, by omega, allG_5 i3 (fun q => by unfold gV sh; omega) (fun q => by unfold gV sh; omega) (fun q => by unfold gV sh; omega) (fun q => by unfold gV sh; omega) (fun q => by unfold gV sh; omega) (by omega), by unfold gV sh; omega⟩)) (by omega) (by omega)
  · subst i1
    subst i5
    first
      | (exfalso; omega)
      | exact rdV_f (Or.inr (Or.inr ⟨by omega, allG_5 i3 (fun q => by unfold gV sh; omega) (fun q => by unfold gV sh; omega) (fun q => by unfold gV sh; omega) (fun q => by unfold gV sh; omega) (fun q => by unfold gV sh; omega) (by omega), by omega⟩)) (by omega) (by omega))
def w_rp1_1_23 : VC := ((bY ++ [(0, 9), (1, 50), (0, 10), (0, 49), (97, 104), (49, 57), (97, 120), (121, 255)]), [(2, [(none, 3), (none, 4)], []), (0, [(none, 0), (none, 0)], []), (2, [(none, 120), (some 20, 0)], []), (3, [(some 20, 0), (none, 97)], []), (1, [(none, 1), (none, 0)], []), (3, [(none, 120), (some 19, 0)], []), (3, [(some 19, 0), (none, 97)], []), (1, [(none, 1), (none, 0)], []), (3, [(none, 57), (some 18, 0)], []), (3, [(some 18, 0), (none, 49)], []), (1, [(none, 1), (none, 0)], []), (3, [(none, 104), (some 17, 0)], []), (3, [(some 17, 0), (none, 97)], []), (1, [(some 13, 0), (none, 10)], []), (73, [(some 20, 0), (some 14, 3)], [1, 2]), (73, [(some 19, 0), (some 14, 2)], [1, 2]), (73, [(some 18, 0), (some 14, 1)], [1, 2]), (73, [(some 17, 0), (some 14, 0)], [1, 2]), (1, [(none, 1), (none, 0)], []), (2, [(none, 0), (some 14, 0)], []), (3, [(some 14, 0), (some 16, 0)], []), (20, [(some 16, 0), (none, 1)], [1]), (75, [(some 14, 0), (some 13, 0), (some 15, 0)], [1, 2, 35, 36, 37, 38]), (78, [], [1])], (77, [(some 14, 3), (some 15, 0)], [1, 2, 35, 36, 37, 38]))
set_option maxRecDepth 20000 in
theorem v_rp1_1_23 {PT : PTy} (hp : HP2 PT) : vcOk PT w_rp1_1_23 := vc_iv [(13, 0, 9), (14, 1, 50), (15, 0, 10), (16, 0, 49), (17, 97, 104), (18, 49, 57), (19, 97, 120), (20, 121, 255)] [1, 2, 35, 36, 37, 38] (by decide +kernel) (fun ρ α => by
  intro r13 g13 b13 r14 g14 b14 r15 g15 b15 r16 g16 b16 r17 g17 b17 r18 g18 b18 r19 g19 b19 r20 g20 b20 a1 h1 a2 h2 a35 h35 a36 h36 a37 h37 a38 h38 f0 f1 f2 f3 f4 f5 f6 f7 f8 f9 f10 f11 f12 f13 f14 f15 f16 f17 f18 f19 f20 f21 f22 f23 tt
  clear f0 f1 f2 f3 f4 f5 f6 f7 f8 f9 f10 f11 f12 f13 f18 f19
  have e73 : PT 73 = P_by1 := pe73_2 hp
  have e75 : PT 75 = P_rvI := pe75_2 hp
  have e77 : PT 77 = P_rdV := pe77_2 hp
  have e78 : PT 78 = P_ly := pe78_2 hp
  simp only [hF3, hF20, hFp_73, hFp_75, hFp_77, hFp_78, e73, e75, e77, e78, P_by1, P_rvI, P_rdV, P_ly, den_s, den_c, Int.add_zero, List.map_cons, List.map_nil, g13.eq, g14.eq, g15.eq, g16.eq, g17.eq, g18.eq, g19.eq, g20.eq, h1, h2, h35, h36, h37, h38] at f14 f15 f16 f17 f20 f21 f22 f23 ⊢
  subst f21
  obtain ⟨i1, i2, i3, i4, i5⟩ := f22
  by_cases h : (r14 + 3) < a1 1
  · subst i1
    subst i5
    first
      | (exfalso; omega)
      | exact rdV_f (Or.inr (Or.inl ⟨by omega, by omega, allG_5 i3 (fun q => by unfold gV sh; omega) (fun q => by unfold gV sh; omega) (fun q => by unfold gV sh; omega) (fun q => by unfold gV sh; omega) (fun q => by unfold gV sh; omega) (by omega), by unfold gV sh; omega⟩)) (by omega) (by omega)
  · subst i1
    subst i5
    first
      | (exfalso; omega)
      | exact rdV_f (Or.inr (Or.inr ⟨by omega, allG_5 i3 (fun q => by unfold gV sh; omega) (fun q => by unfold gV sh; omega) (fun q => by unfold gV sh; omega) (fun q => by unfold gV sh; omega) (fun q => by unfold gV sh; omega) (by omega), by omega⟩)) (by omega) (by omega))
def w_rp1_1_24 : VC := ((bY ++ [(0, 9), (1, 50), (0, 10), (0, 49), (97, 104), (49, 57), (97, 120), (97, 120), (0, 49), (59, 59)]), [(0, [(some 22, 0), (none, 59)], []), (73, [(some 22, 0), (some 14, 4)], [1, 2]), (1, [(some 14, 4), (some 21, 0)], []), (20, [(some 21, 0), (none, 1)], [1]), (3, [(none, 4), (none, 4)], []), (21, [(some 13, 0), (some 20, (-97))], [42, 38]), (21, [(some 13, 0), (some 19, (-97))], [41, 37]), (21, [(some 13, 0), (some 18, (-48))], [40, 36]), (21, [(some 13, 0), (some 17, (-97))], [39, 35]), (1, [(none, 1), (none, 0)], []), (3, [(none, 120), (some 20, 0)], []), (3, [(some 20, 0), (none, 97)], []), (1, [(none, 1), (none, 0)], []), (3, [(none, 120), (some 19, 0)], []), (3, [(some 19, 0), (none, 97)], []), (1, [(none, 1), (none, 0)], []), (3, [(none, 57), (some 18, 0)], []), (3, [(some 18, 0), (none, 49)], []), (1, [(none, 1), (none, 0)], []), (3, [(none, 104), (some 17, 0)], []), (3, [(some 17, 0), (none, 97)], []), (1, [(some 13, 0), (none, 10)], []), (73, [(some 20, 0), (some 14, 3)], [1, 2]), (73, [(some 19, 0), (some 14, 2)], [1, 2]), (73, [(some 18, 0), (some 14, 1)], [1, 2]), (73, [(some 17, 0), (some 14, 0)], [1, 2]), (1, [(none, 1), (none, 0)], []), (2, [(none, 0), (some 14, 0)], []), (3, [(some 14, 0), (some 16, 0)], []), (20, [(some 16, 0), (none, 1)], [1]), (75, [(some 14, 0), (some 13, 0), (some 15, 0)], [1, 2, 35, 36, 37, 38]), (78, [], [1])], (3, [(some 14, 5), (none, 0)], []))
set_option maxRecDepth 20000 in
theorem v_rp1_1_24 {PT : PTy} (hp : HP2 PT) : vcOk PT w_rp1_1_24 := vc_iv [(13, 0, 9), (14, 1, 50), (15, 0, 10), (16, 0, 49), (17, 97, 104), (18, 49, 57), (19, 97, 120), (20, 97, 120), (21, 0, 49), (22, 59, 59)] [1, 2, 35, 36, 37, 38, 39, 40, 41, 42] (by decide +kernel) (fun ρ α => by
  intro r13 g13 b13 r14 g14 b14 r15 g15 b15 r16 g16 b16 r17 g17 b17 r18 g18 b18 r19 g19 b19 r20 g20 b20 r21 g21 b21 r22 g22 b22 a1 h1 a2 h2 a35 h35 a36 h36 a37 h37 a38 h38 a39 h39 a40 h40 a41 h41 a42 h42 f0 f1 f2 f3 f4 f5 f6 f7 f8 f9 f10 f11 f12 f13 f14 f15 f16 f17 f18 f19 f20 f21 f22 f23 f24 f25 f26 f27 f28 f29 f30 f31 tt
  clear f4 f9 f10 f11 f12 f13 f14 f15 f16 f17 f18 f19 f20 f21 f26 f27
  have e73 : PT 73 = P_by1 := pe73_2 hp
  have e75 : PT 75 = P_rvI := pe75_2 hp
  have e78 : PT 78 = P_ly := pe78_2 hp
  simp only [hF0, hF1, hF3, hF20, hF21, hFp_73, hFp_75, hFp_78, e73, e75, e78, P_by1, P_rvI, P_ly, den_s, den_c, Int.add_zero, List.map_cons, List.map_nil, g13.eq, g14.eq, g15.eq, g16.eq, g17.eq, g18.eq, g19.eq, g20.eq, g21.eq, g22.eq, h1, h2, h35, h36, h37, h38, h39, h40, h41, h42] at f0 f1 f2 f3 f5 f6 f7 f8 f22 f23 f24 f25 f28 f29 f30 f31 ⊢
  subst f3
  subst f5
  subst f6
  subst f7
  subst f8
  subst f29
  obtain ⟨i1, i2, i3, i4, i5⟩ := f30
  omega)
def w_rp1_1_25 : VC := ((bY ++ [(0, 9), (1, 50), (0, 10), (0, 49), (97, 104), (49, 57), (97, 120), (97, 120), (0, 49), (59, 59)]), [(0, [(some 22, 0), (none, 59)], []), (73, [(some 22, 0), (some 14, 4)], [1, 2]), (1, [(some 14, 4), (some 21, 0)], []), (20, [(some 21, 0), (none, 1)], [1]), (3, [(none, 4), (none, 4)], []), (21, [(some 13, 0), (some 20, (-97))], [42, 38]), (21, [(some 13, 0), (some 19, (-97))], [41, 37]), (21, [(some 13, 0), (some 18, (-48))], [40, 36]), (21, [(some 13, 0), (some 17, (-97))], [39, 35]), (1, [(none, 1), (none, 0)], []), (3, [(none, 120), (some 20, 0)], []), (3, [(some 20, 0), (none, 97)], []), (1, [(none, 1), (none, 0)], []), (3, [(none, 120), (some 19, 0)], []), (3, [(some 19, 0), (none, 97)], []), (1, [(none, 1), (none, 0)], []), (3, [(none, 57), (some 18, 0)], []), (3, [(some 18, 0), (none, 49)], []), (1, [(none, 1), (none, 0)], []), (3, [(none, 104), (some 17, 0)], []), (3, [(some 17, 0), (none, 97)], []), (1, [(some 13, 0), (none, 10)], []), (73, [(some 20, 0), (some 14, 3)], [1, 2]), (73, [(some 19, 0), (some 14, 2)], [1, 2]), (73, [(some 18, 0), (some 14, 1)], [1, 2]), (73, [(some 17, 0), (some 14, 0)], [1, 2]), (1, [(none, 1), (none, 0)], []), (2, [(none, 0), (some 14, 0)], []), (3, [(some 14, 0), (some 16, 0)], []), (20, [(some 16, 0), (none, 1)], [1]), (75, [(some 14, 0), (some 13, 0), (some 15, 0)], [1, 2, 35, 36, 37, 38]), (78, [], [1])], (3, [(none, 50), (some 14, 5)], []))
set_option maxRecDepth 20000 in
theorem v_rp1_1_25 {PT : PTy} (hp : HP2 PT) : vcOk PT w_rp1_1_25 := vc_iv [(13, 0, 9), (14, 1, 50), (15, 0, 10), (16, 0, 49), (17, 97, 104), (18, 49, 57), (19, 97, 120), (20, 97, 120), (21, 0, 49), (22, 59, 59)] [1, 2, 35, 36, 37, 38, 39, 40, 41, 42] (by decide +kernel) (fun ρ α => by
  intro r13 g13 b13 r14 g14 b14 r15 g15 b15 r16 g16 b16 r17 g17 b17 r18 g18 b18 r19 g19 b19 r20 g20 b20 r21 g21 b21 r22 g22 b22 a1 h1 a2 h2 a35 h35 a36 h36 a37 h37 a38 h38 a39 h39 a40 h40 a41 h41 a42 h42 f0 f1 f2 f3 f4 f5 f6 f7 f8 f9 f10 f11 f12 f13 f14 f15 f16 f17 f18 f19 f20 f21 f22 f23 f24 f25 f26 f27 f28 f29 f30 f31 tt
  clear f4 f9 f10 f11 f12 f13 f14 f15 f16 f17 f18 f19 f20 f21 f26 f27
  have e73 : PT 73 = P_by1 := pe73_2 hp
  have e75 : PT 75 = P_rvI := pe75_2 hp
  have e78 : PT 78 = P_ly := pe78_2 hp
  simp only [hF0, hF1, hF3, hF20, hF21, hFp_73, hFp_75, hFp_78, e73, e75, e78, P_by1, P_rvI, P_ly, den_s, den_c, Int.add_zero, List.map_cons, List.map_nil, g13.eq, g14.eq, g15.eq, g16.eq, g17.eq, g18.eq, g19.eq, g20.eq, g21.eq, g22.eq, h1, h2, h35, h36, h37, h38, h39, h40, h41, h42] at f0 f1 f2 f3 f5 f6 f7 f8 f22 f23 f24 f25 f28 f29 f30 f31 ⊢
  subst f3
  subst f5
  subst f6
  subst f7
  subst f8
  subst f29
  obtain ⟨i1, i2, i3, i4, i5⟩ := f30
  omega)
def w_rp1_1_26 : VC := ((bY ++ [(0, 9), (1, 50), (0, 10), (0, 49), (97, 104), (49, 57), (97, 120), (97, 120), (0, 49), (59, 59)]), [(0, [(some 22, 0), (none, 59)], []), (73, [(some 22, 0), (some 14, 4)], [1, 2]), (1, [(some 14, 4), (some 21, 0)], []), (20, [(some 21, 0), (none, 1)], [1]), (3, [(none, 4), (none, 4)], []), (21, [(some 13, 0), (some 20, (-97))], [42, 38]), (21, [(some 13, 0), (some 19, (-97))], [41, 37]), (21, [(some 13, 0), (some 18, (-48))], [40, 36]), (21, [(some 13, 0), (some 17, (-97))], [39, 35]), (1, [(none, 1), (none, 0)], []), (3, [(none, 120), (some 20, 0)], []), (3, [(some 20, 0), (none, 97)], []), (1, [(none, 1), (none, 0)], []), (3, [(none, 120), (some 19, 0)], []), (3, [(some 19, 0), (none, 97)], []), (1, [(none, 1), (none, 0)], []), (3, [(none, 57), (some 18, 0)], []), (3, [(some 18, 0), (none, 49)], []), (1, [(none, 1), (none, 0)], []), (3, [(none, 104), (some 17, 0)], []), (3, [(some 17, 0), (none, 97)], []), (1, [(some 13, 0), (none, 10)], []), (73, [(some 20, 0), (some 14, 3)], [1, 2]), (73, [(some 19, 0), (some 14, 2)], [1, 2]), (73, [(some 18, 0), (some 14, 1)], [1, 2]), (73, [(some 17, 0), (some 14, 0)], [1, 2]), (1, [(none, 1), (none, 0)], []), (2, [(none, 0), (some 14, 0)], []), (3, [(some 14, 0), (some 16, 0)], []), (20, [(some 16, 0), (none, 1)], [1]), (75, [(some 14, 0), (some 13, 0), (some 15, 0)], [1, 2, 35, 36, 37, 38]), (78, [], [1])], (75, [(some 14, 5), (some 13, 1), (some 15, 0)], [1, 2, 39, 40, 41, 42]))
set_option maxRecDepth 20000 in
theorem v_rp1_1_26 {PT : PTy} (hp : HP2 PT) : vcOk PT w_rp1_1_26 := vc_iv [(13, 0, 9), (14, 1, 50), (15, 0, 10), (16, 0, 49), (17, 97, 104), (18, 49, 57), (19, 97, 120), (20, 97, 120), (21, 0, 49), (22, 59, 59)] [1, 2, 35, 36, 37, 38, 39, 40, 41, 42] (by decide +kernel) (fun ρ α => by
  intro r13 g13 b13 r14 g14 b14 r15 g15 b15 r16 g16 b16 r17 g17 b17 r18 g18 b18 r19 g19 b19 r20 g20 b20 r21 g21 b21 r22 g22 b22 a1 h1 a2 h2 a35 h35 a36 h36 a37 h37 a38 h38 a39 h39 a40 h40 a41 h41 a42 h42 f0 f1 f2 f3 f4 f5 f6 f7 f8 f9 f10 f11 f12 f13 f14 f15 f16 f17 f18 f19 f20 f21 f22 f23 f24 f25 f26 f27 f28 f29 f30 f31 tt
  clear f4 f9 f10 f11 f12 f13 f14 f15 f16 f17 f18 f19 f20 f21 f26 f27
  have e73 : PT 73 = P_by1 := pe73_2 hp
  have e75 : PT 75 = P_rvI := pe75_2 hp
  have e78 : PT 78 = P_ly := pe78_2 hp
  simp only [hF0, hF1, hF3, hF20, hF21, hFp_73, hFp_75, hFp_78, e73, e75, e78, P_by1, P_rvI, P_ly, den_s, den_c, Int.add_zero, List.map_cons, List.map_nil, g13.eq, g14.eq, g15.eq, g16.eq, g17.eq, g18.eq, g19.eq, g20.eq, g21.eq, g22.eq, h1, h2, h35, h36, h37, h38, h39, h40, h41, h42] at f0 f1 f2 f3 f5 f6 f7 f8 f22 f23 f24 f25 f28 f29 f30 f31 ⊢
  subst f3
  subst f5
  subst f6
  subst f7
  subst f8
  subst f29
  obtain ⟨i1, i2, i3, i4, i5⟩ := f30
  subst i1
  subst i5
  first
    | exact ⟨by omega, by omega, allG_5 i3 (fun q => by unfold gV sh; omega) (fun q => by unfold gV sh; omega) (fun q => by unfold gV sh; omega) (fun q => by unfold gV sh; omega) (fun q => by unfold gV sh; omega) (by omega), tkV_s i4 (by unfold sh; omega) (by unfold sh; omega) (by unfold sh; omega) (by unfold sh; omega), rfl⟩
    | (exfalso; omega))
def w_rp1_1_27 : VC := ((bY ++ [(0, 9), (1, 50), (0, 10), (0, 49), (97, 104), (49, 57), (97, 120), (97, 120), (0, 49), ((-1), 255)]), [(1, [(some 22, 0), (none, 59)], []), (73, [(some 22, 0), (some 14, 4)], [1, 2]), (1, [(some 14, 4), (some 21, 0)], []), (20, [(some 21, 0), (none, 1)], [1]), (3, [(none, 4), (none, 4)], []), (21, [(some 13, 0), (some 20, (-97))], [42, 38]), (21, [(some 13, 0), (some 19, (-97))], [41, 37]), (21, [(some 13, 0), (some 18, (-48))], [40, 36]), (21, [(some 13, 0), (some 17, (-97))], [39, 35]), (1, [(none, 1), (none, 0)], []), (3, [(none, 120), (some 20, 0)], []), (3, [(some 20, 0), (none, 97)], []), (1, [(none, 1), (none, 0)], []), (3, [(none, 120), (some 19, 0)], []), (3, [(some 19, 0), (none, 97)], []), (1, [(none, 1), (none, 0)], []), (3, [(none, 57), (some 18, 0)], []), (3, [(some 18, 0), (none, 49)], []), (1, [(none, 1), (none, 0)], []), (3, [(none, 104), (some 17, 0)], []), (3, [(some 17, 0), (none, 97)], []), (1, [(some 13, 0), (none, 10)], []), (73, [(some 20, 0), (some 14, 3)], [1, 2]), (73, [(some 19, 0), (some 14, 2)], [1, 2]), (73, [(some 18, 0), (some 14, 1)], [1, 2]), (73, [(some 17, 0), (some 14, 0)], [1, 2]), (1, [(none, 1), (none, 0)], []), (2, [(none, 0), (some 14, 0)], []), (3, [(some 14, 0), (some 16, 0)], []), (20, [(some 16, 0), (none, 1)], [1]), (75, [(some 14, 0), (some 13, 0), (some 15, 0)], [1, 2, 35, 36, 37, 38]), (78, [], [1])], (77, [(some 14, 4), (some 15, 0)], [1, 2, 39, 40, 41, 42]))
set_option maxRecDepth 20000 in
theorem v_rp1_1_27 {PT : PTy} (hp : HP2 PT) : vcOk PT w_rp1_1_27 := vc_iv [(13, 0, 9), (14, 1, 50), (15, 0, 10), (16, 0, 49), (17, 97, 104), (18, 49, 57), (19, 97, 120), (20, 97, 120), (21, 0, 49), (22, (-1), 255)] [1, 2, 35, 36, 37, 38, 39, 40, 41, 42] (by decide +kernel) (fun ρ α => by
  intro r13 g13 b13 r14 g14 b14 r15 g15 b15 r16 g16 b16 r17 g17 b17 r18 g18 b18 r19 g19 b19 r20 g20 b20 r21 g21 b21 r22 g22 b22 a1 h1 a2 h2 a35 h35 a36 h36 a37 h37 a38 h38 a39 h39 a40 h40 a41 h41 a42 h42 f0 f1 f2 f3 f4 f5 f6 f7 f8 f9 f10 f11 f12 f13 f14 f15 f16 f17 f18 f19 f20 f21 f22 f23 f24 f25 f26 f27 f28 f29 f30 f31 tt
  clear f4 f9 f10 f11 f12 f13 f14 f15 f16 f17 f18 f19 f20 f21 f26 f27
  have e73 : PT 73 = P_by1 := pe73_2 hp
  have e75 : PT 75 = P_rvI := pe75_2 hp
  have e77 : PT 77 = P_rdV := pe77_2 hp
  have e78 : PT 78 = P_ly := pe78_2 hp
  simp only [hF1, hF3, hF20, hF21, hFp_73, hFp_75, hFp_77, hFp_78, e73, e75, e77, e78, P_by1, P_rvI, P_rdV, P_ly, den_s, den_c, Int.add_zero, List.map_cons, List.map_nil, g13.eq, g14.eq, g15.eq, g16.eq, g17.eq, g18.eq, g19.eq, g20.eq, g21.eq, g22.eq, h1, h2, h35, h36, h37, h38, h39, h40, h41, h42] at f0 f1 f2 f3 f5 f6 f7 f8 f22 f23 f24 f25 f28 f29 f30 f31 ⊢
  subst f3
  subst f5
  subst f6
  subst f7
  subst f8
  subst f29
  obtain ⟨i1, i2, i3, i4, i5⟩ := f30
  by_cases h : (r14 + 4) < a1 1
  · subst i1
    subst i5
    first
      | (exfalso; omega)
      | exact rdV_f (Or.inr (Or.inl ⟨by omega, by omega, allG_5 i3 (fun q => by unfold gV sh; omega) (fun q => by unfold gV sh; omega) (fun q => by unfold gV sh; omega) (fun q => by unfold gV sh; omega) (fun q => by unfold gV sh; omega) (by omega), by unfold gV sh; omega⟩)) (by omega) (by omega)
  · subst i1
    subst i5
    first
      | (exfalso; omega)
      | exact rdV_f (Or.inr (Or.inr ⟨by omega, allG_5 i3 (fun q => by unfold gV sh; omega) (fun q => by unfold gV sh; omega) (fun q => by unfold gV sh; omega) (fun q => by unfold gV sh; omega) (fun q => by unfold gV sh; omega) (by omega), by omega⟩)) (by omega) (by omega))
def w_rp1_1_28 : VC := ((bY ++ [(0, 9), (1, 45), (0, 10), (0, 49), (97, 104), (49, 57), (97, 120), (97, 120), (5, 49)]), [(0, [(none, 1), (none, 1)], []), (1, [(none, 1), (none, 0)], []), (0, [(some 14, 4), (some 21, 0)], []), (20, [(some 21, 0), (none, 1)], [1]), (3, [(none, 4), (none, 4)], []), (21, [(some 13, 0), (some 20, (-97))], [42, 38]), (21, [(some 13, 0), (some 19, (-97))], [41, 37]), (21, [(some 13, 0), (some 18, (-48))], [40, 36]), (21, [(some 13, 0), (some 17, (-97))], [39, 35]), (1, [(none, 1), (none, 0)], []), (3, [(none, 120), (some 20, 0)], []), (3, [(some 20, 0), (none, 97)], []), (1, [(none, 1), (none, 0)], []), (3, [(none, 120), (some 19, 0)], []), (3, [(some 19, 0), (none, 97)], []), (1, [(none, 1), (none, 0)], []), (3, [(none, 57), (some 18, 0)], []), (3, [(some 18, 0), (none, 49)], []), (1, [(none, 1), (none, 0)], []), (3, [(none, 104), (some 17, 0)], []), (3, [(some 17, 0), (none, 97)], []), (1, [(some 13, 0), (none, 10)], []), (73, [(some 20, 0), (some 14, 3)], [1, 2]), (73, [(some 19, 0), (some 14, 2)], [1, 2]), (73, [(some 18, 0), (some 14, 1)], [1, 2]), (73, [(some 17, 0), (some 14, 0)], [1, 2]), (1, [(none, 1), (none, 0)], []), (2, [(none, 0), (some 14, 0)], []), (3, [(some 14, 0), (some 16, 0)], []), (20, [(some 16, 0), (none, 1)], [1]), (75, [(some 14, 0), (some 13, 0), (some 15, 0)], [1, 2, 35, 36, 37, 38]), (78, [], [1])], (77, [(none, (-1)), (some 13, 1)], [1, 2, 39, 40, 41, 42]))
set_option maxRecDepth 20000 in
theorem v_rp1_1_28 {PT : PTy} (hp : HP2 PT) : vcOk PT w_rp1_1_28 := vc_iv [(13, 0, 9), (14, 1, 45), (15, 0, 10), (16, 0, 49), (17, 97, 104), (18, 49, 57), (19, 97, 120), (20, 97, 120), (21, 5, 49)] [1, 2, 35, 36, 37, 38, 39, 40, 41, 42] (by decide +kernel) (fun ρ α => by
  intro r13 g13 b13 r14 g14 b14 r15 g15 b15 r16 g16 b16 r17 g17 b17 r18 g18 b18 r19 g19 b19 r20 g20 b20 r21 g21 b21 a1 h1 a2 h2 a35 h35 a36 h36 a37 h37 a38 h38 a39 h39 a40 h40 a41 h41 a42 h42 f0 f1 f2 f3 f4 f5 f6 f7 f8 f9 f10 f11 f12 f13 f14 f15 f16 f17 f18 f19 f20 f21 f22 f23 f24 f25 f26 f27 f28 f29 f30 f31 tt
  clear f0 f1 f4 f9 f10 f11 f12 f13 f14 f15 f16 f17 f18 f19 f20 f21 f26 f27
  have e73 : PT 73 = P_by1 := pe73_2 hp
  have e75 : PT 75 = P_rvI := pe75_2 hp
  have e77 : PT 77 = P_rdV := pe77_2 hp
  have e78 : PT 78 = P_ly := pe78_2 hp
  simp only [hF0, hF3, hF20, hF21, hFp_73, hFp_75, hFp_77, hFp_78, e73, e75, e77, e78, P_by1, P_rvI, P_rdV, P_ly, den_s, den_c, Int.add_zero, List.map_cons, List.map_nil, g13.eq, g14.eq, g15.eq, g16.eq, g17.eq, g18.eq, g19.eq, g20.eq, g21.eq, h1, h2, h35, h36, h37, h38, h39, h40, h41, h42] at f2 f3 f5 f6 f7 f8 f22 f23 f24 f25 f28 f29 f30 f31 ⊢
  subst f3
  subst f5
  subst f6
  subst f7
  subst f8
  subst f29
  obtain ⟨i1, i2, i3, i4, i5⟩ := f30
  subst i1
  subst i5
  first
    | exact rdV_w ⟨allG_5 i3 (fun q => by unfold gV sh; omega) (fun q => by unfold gV sh; omega) (fun q => by unfold gV sh; omega) (fun q => by unfold gV sh; omega) (fun q => by unfold gV sh; omega) (by omega), by omega⟩ (by omega) (tkV_s i4 (by unfold sh; omega) (by unfold sh; omega) (by unfold sh; omega) (by unfold sh; omega))
    | exact rdV_w ⟨allG_5 i3 (fun q => by unfold gV sh; omega) (fun q => by unfold gV sh; omega) (fun q => by unfold gV sh; omega) (fun q => by unfold gV sh; omega) (fun q => by unfold gV sh; omega) (by omega), by omega⟩ (by omega) (fun j h1 h2 => by omega)
    | (exfalso; omega))
set_option maxRecDepth 1000000 in
theorem k_rp1 {PT : PTy} (hp : HP2 PT) : wfX c_rp1 = true ∧ xcOk PT c_rp1 := xctr (xl (k_byteAt1 hp) (xl0)) c_rp1 179 mX7_readsParts rfl h_rp1 (by decide +kernel) (by decide +kernel) (by decide) (vcs_by [w_rp1_0_0] (by decide +kernel) (vc (v_rp1_0_0 hp) vn)) (fmc (vcs_by [w_rp1_1_0, w_rp1_1_1, w_rp1_1_2, w_rp1_1_3, w_rp1_1_4, w_rp1_1_5, w_rp1_1_6, w_rp1_1_7, w_rp1_1_8, w_rp1_1_9, w_rp1_1_10, w_rp1_1_11, w_rp1_1_12, w_rp1_1_13, w_rp1_1_14, w_rp1_1_15, w_rp1_1_16, w_rp1_1_17, w_rp1_1_18, w_rp1_1_19, w_rp1_1_20, w_rp1_1_21, w_rp1_1_22, w_rp1_1_23, w_rp1_1_24, w_rp1_1_25, w_rp1_1_26, w_rp1_1_27, w_rp1_1_28] (by decide +kernel) (vc (v_rp1_1_0 hp) (vc (v_rp1_1_1 hp) (vc (v_rp1_1_2 hp) (vc (v_rp1_1_3 hp) (vc (v_rp1_1_4 hp) (vc (v_rp1_1_5 hp) (vc (v_rp1_1_6 hp) (vc (v_rp1_1_7 hp) (vc (v_rp1_1_8 hp) (vc (v_rp1_1_9 hp) (vc (v_rp1_1_10 hp) (vc (v_rp1_1_11 hp) (vc (v_rp1_1_12 hp) (vc (v_rp1_1_13 hp) (vc (v_rp1_1_14 hp) (vc (v_rp1_1_15 hp) (vc (v_rp1_1_16 hp) (vc (v_rp1_1_17 hp) (vc (v_rp1_1_18 hp) (vc (v_rp1_1_19 hp) (vc (v_rp1_1_20 hp) (vc (v_rp1_1_21 hp) (vc (v_rp1_1_22 hp) (vc (v_rp1_1_23 hp) (vc (v_rp1_1_24 hp) (vc (v_rp1_1_25 hp) (vc (v_rp1_1_26 hp) (vc (v_rp1_1_27 hp) (vc (v_rp1_1_28 hp) vn)))))))))))))))))))))))))))))) fmn)
def c_faultOf : XC := (118, 3, (bY ++ [((-2147483648), 2147483647)]), [.inr (.inl 0), .inl (some 13, 0)], gY2, [(78, [], [1])], [((bY ++ [((-2147483648), 2147483647), ((-1), 54), (0, 8), (0, 10)]), some (.inl (some 14, 0)), (hst gY2 [(0, .inr (.inr (.inr (7, [.inr (.inl 1), .inr (.inl 2), .inl (some 15, 0), .inr (.inl 3), .inr (.inl 4), .inl (some 16, 0), .inr (.inl 5), .inr (.inl 6), .inr (.inl 7), .inr (.inl 8), .inl (some 4, 0), .inr (.inl 9), .inr (.inl 10), .inl (some 5, 0), .inr (.inl 11), .inr (.inl 12), .inr (.inl 13), .inl (some 6, 0), .inr (.inl 14), .inr (.inl 15), .inr (.inl 16), .inl (some 8, 0), .inl (some 9, 0), .inr (.inl 17), .inr (.inl 18), .inl (some 10, 0), .inl (some 11, 0), .inr (.inl 19), .inr (.inl 20), .inr (.inl 21), .inr (.inl 22), .inr (.inl 23), .inr (.inl 24), .inr (.inl 25), .inl (some 7, 0), .inr (.inl 26), .inr (.inl 27), .inr (.inl 28), .inr (.inl 29), .inr (.inl 30), .inr (.inl 31), .inr (.inl 32), .inr (.inl 33), .inr (.inl 34), .inl (some 12, 0)]))))]), (ansT 35 [(3, 35), (4, 36), (5, 37), (6, 38), (7, 39), (8, 40)]), 41, [(79, [(some 14, 0), (some 13, 0), (some 15, 0), (some 16, 0)], [1, 2, 35, 36, 37, 38, 39, 40])])])
def h_faultOf : List XH := []
def w_faultOf_0_0 : VC := ((bY ++ [((-2147483648), 2147483647), ((-1), 26), (0, 8), ((-1), 54), (0, 10)]), [(1, [(some 13, 0), (none, 0)], []), (77, [(some 16, 0), (some 17, 0)], [1, 2, 37, 38, 39, 40]), (76, [(some 14, 0), (some 15, 0)], [1, 2, 35, 36]), (78, [], [1])], (79, [(some 16, 0), (some 13, 0), (some 15, 0), (some 17, 0)], [1, 2, 35, 36, 37, 38, 39, 40]))
theorem pe79_2 {PT : PTy} (hp : HP2 PT) : PT 79 = P_fo := hp.2.2.2.2.2.2.2.2.1
set_option maxRecDepth 20000 in
theorem v_faultOf_0_0 {PT : PTy} (hp : HP2 PT) : vcOk PT w_faultOf_0_0 := vc_in [(13, (-2147483648), 2147483647), (14, (-1), 26), (15, 0, 8), (16, (-1), 54), (17, 0, 10)] (by decide +kernel) (fun ρ α => by
  intro b13 b14 b15 b16 b17 f0 f1 f2 f3 tt
  have e76 : PT 76 = P_rdP := pe76_2 hp
  have e77 : PT 77 = P_rdV := pe77_2 hp
  have e78 : PT 78 = P_ly := pe78_2 hp
  have e79 : PT 79 = P_fo := pe79_2 hp
  simp only [hF1, hFp_76, hFp_77, hFp_78, hFp_79, e76, e77, e78, e79, P_rdP, P_rdV, P_ly, P_fo, den_s, den_c, Int.add_zero, List.map_cons, List.map_nil] at f0 f1 f2 f3 ⊢
  refine ⟨_, _, f2, f1, ?_⟩
  repeat' split
  all_goals first | rfl | omega)
def w_faultOf_0_1 : VC := ((bY ++ [(0, 0), ((-1), 26), (0, 8), ((-1), 54), (0, 10)]), [(0, [(some 13, 0), (none, 0)], []), (77, [(some 16, 0), (some 17, 0)], [1, 2, 37, 38, 39, 40]), (76, [(some 14, 0), (some 15, 0)], [1, 2, 35, 36]), (78, [], [1])], (79, [(some 14, 0), (some 13, 0), (some 15, 0), (some 17, 0)], [1, 2, 35, 36, 37, 38, 39, 40]))
set_option maxRecDepth 20000 in
theorem v_faultOf_0_1 {PT : PTy} (hp : HP2 PT) : vcOk PT w_faultOf_0_1 := vc_in [(13, 0, 0), (14, (-1), 26), (15, 0, 8), (16, (-1), 54), (17, 0, 10)] (by decide +kernel) (fun ρ α => by
  intro b13 b14 b15 b16 b17 f0 f1 f2 f3 tt
  have e76 : PT 76 = P_rdP := pe76_2 hp
  have e77 : PT 77 = P_rdV := pe77_2 hp
  have e78 : PT 78 = P_ly := pe78_2 hp
  have e79 : PT 79 = P_fo := pe79_2 hp
  simp only [hF0, hFp_76, hFp_77, hFp_78, hFp_79, e76, e77, e78, e79, P_rdP, P_rdV, P_ly, P_fo, den_s, den_c, Int.add_zero, List.map_cons, List.map_nil] at f0 f1 f2 f3 ⊢
  refine ⟨_, _, f2, f1, ?_⟩
  repeat' split
  all_goals first | rfl | omega)
set_option maxRecDepth 1000000 in
theorem k_faultOf {PT : PTy} (hp : HP2 PT) : wfX c_faultOf = true ∧ xcOk PT c_faultOf := xctr (xl (k_rp0 hp) (xl (k_rp1 hp) (xl0))) c_faultOf 33 mX7_faultOf rfl h_faultOf (by decide +kernel) (by decide +kernel) (by decide) (vcs_by [w_faultOf_0_0, w_faultOf_0_1] (by decide +kernel) (vc (v_faultOf_0_0 hp) (vc (v_faultOf_0_1 hp) vn))) fmn
