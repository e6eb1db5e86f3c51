/-! ===== pure pictures: loops, texts ===== -/
def foldI {σ : Type} (f : Int → σ → σ) (s : σ) : Nat → σ
  | 0 => s
  | n + 1 => f (n : Int) (foldI f s n)
theorem foldI_s {σ : Type} {f : Int → σ → σ} {s : σ} {x : Int} (h : 0 ≤ x) : foldI f s (x + 1).toNat = f x (foldI f s x.toNat) := by
  obtain ⟨n, rfl⟩ := Int.eq_ofNat_of_zero_le h
  rfl
theorem foldI_cg {σ : Type} {f g : Int → σ → σ} {s : σ} : ∀ (n : Nat), (∀ i : Int, 0 ≤ i → i < n → ∀ t, f i t = g i t) → foldI f s n = foldI g s n
  | 0, _ => rfl
  | n + 1, h => by
    show f n (foldI f s n) = g n (foldI g s n)
    rw [foldI_cg n (fun i h1 h2 t => h i h1 (by omega) t), h n (by omega) (by omega)]
def ansT (n : Nat) (l : List (Nat × Nat)) : List Nat := (List.range n).map (fun k => (l.lookup k).getD k)
/-- may a byte stand at a place of the people's text, of the promises' -/
def gP (i b : Int) : Prop := (i % 3 = 0 ∧ (b = 109 ∨ b = 115 ∨ b = 97)) ∨ (i % 3 = 1 ∧ 48 ≤ b ∧ b ≤ 57) ∨ (i % 3 = 2 ∧ b = 59)
def gV (i b : Int) : Prop := (i % 5 = 0 ∧ 97 ≤ b ∧ b ≤ 104) ∨ (i % 5 = 1 ∧ 49 ≤ b ∧ b ≤ 57) ∨ ((i % 5 = 2 ∨ i % 5 = 3) ∧ 97 ≤ b ∧ b ≤ 120) ∨ (i % 5 = 4 ∧ b = 59)
def allG (g : Int → Int → Prop) (A : Int → Int) (n : Int) : Prop := ∀ i, 0 ≤ i → i < n → g i (A i)
theorem allG_z {g : Int → Int → Prop} {A : Int → Int} : allG g A 0 := fun i h1 h2 => by omega
theorem allG_s {g : Int → Int → Prop} {A : Int → Int} {n : Int} (h : allG g A n) (hn : g n (A n)) : allG g A (n + 1) := fun i h1 h2 => by
  by_cases e : i = n
  · rw [e]; exact hn
  · exact h i h1 (by omega)
def wellP (L : Int) (A : Int → Int) : Prop := allG gP A L ∧ (L = 0 ∨ L % 3 = 2)
def wellV (L : Int) (A : Int → Int) : Prop := allG gV A L ∧ (L = 0 ∨ L % 5 = 4)
def ffP (r L : Int) (A : Int → Int) : Prop := (r = -1 ∧ wellP L A) ∨ (0 ≤ r ∧ r < L ∧ allG gP A r ∧ ¬ gP r (A r)) ∨ (r = L ∧ allG gP A L ∧ ¬ (L = 0 ∨ L % 3 = 2))
def ffV (r L : Int) (A : Int → Int) : Prop := (r = -1 ∧ wellV L A) ∨ (0 ≤ r ∧ r < L ∧ allG gV A r ∧ ¬ gV r (A r)) ∨ (r = L ∧ allG gV A L ∧ ¬ (L = 0 ∨ L % 5 = 4))
theorem ffP_no {r L : Int} {A : Int → Int} (h : ffP r L A) (hr : ¬ r = -1) (hL : 0 ≤ L) : ¬ wellP L A := by
  intro w
  rcases h with ⟨q, -⟩ | ⟨q1, q2, -, q3⟩ | ⟨-, -, q⟩
  · exact hr q
  · exact q3 (w.1 r q1 q2)
  · exact q w.2
theorem ffP_yes {r L : Int} {A : Int → Int} (h : ffP r L A) (hr : r = -1) (hL : 0 ≤ L) : wellP L A := by
  rcases h with ⟨-, q⟩ | ⟨q1, q2, -, q3⟩ | ⟨q, -, -⟩
  · exact q
  · omega
  · omega
theorem ffV_no {r L : Int} {A : Int → Int} (h : ffV r L A) (hr : ¬ r = -1) (hL : 0 ≤ L) : ¬ wellV L A := by
  intro w
  rcases h with ⟨q, -⟩ | ⟨q1, q2, -, q3⟩ | ⟨-, -, q⟩
  · exact hr q
  · exact q3 (w.1 r q1 q2)
  · exact q w.2
theorem ffV_yes {r L : Int} {A : Int → Int} (h : ffV r L A) (hr : r = -1) (hL : 0 ≤ L) : wellV L A := by
  rcases h with ⟨-, q⟩ | ⟨q1, q2, -, q3⟩ | ⟨q, -, -⟩
  · exact q
  · omega
  · omega
/-- how many people, promises -/
def nP (n L : Int) (A : Int → Int) : Prop := (wellP L A → n = (L + 1) / 3) ∧ (¬ wellP L A → n = 0)
def nV (m L : Int) (A : Int → Int) : Prop := (wellV L A → m = (L + 1) / 5) ∧ (¬ wellV L A → m = 0)
def soP (b : Int) : Int := if b = 115 then 1 else if b = 97 then 2 else 0
def tkP (n : Int) (A so sz : Int → Int) : Prop := ∀ i, 0 ≤ i → i < n → so i = soP (A (3 * i)) ∧ sz i = A (3 * i + 1) - 48
def tkV (n : Int) (A wh gr md du : Int → Int) : Prop := ∀ i, 0 ≤ i → i < n → wh i = A (5 * i) - 97 ∧ gr i = A (5 * i + 1) - 48 ∧ md i = A (5 * i + 2) - 97 ∧ du i = A (5 * i + 3) - 97
theorem tkP_z {A so sz : Int → Int} : tkP 0 A so sz := fun i h1 h2 => by omega
theorem tkV_z {A wh gr md du : Int → Int} : tkV 0 A wh gr md du := fun i h1 h2 => by omega
theorem tkP_s {n : Int} {A so sz : Int → Int} (h : tkP n A so sz) {x y : Int} (hx : x = soP (A (3 * n))) (hy : y = A (3 * n + 1) - 48) : tkP (n + 1) A (updI so n x) (updI sz n y) := fun i h1 h2 => by
  by_cases e : i = n
  · subst e
    rw [updI_at, updI_at]
    exact ⟨hx, hy⟩
  · rw [updI_ne e, updI_ne e]
    exact h i h1 (by omega)
theorem tkV_s {n : Int} {A wh gr md du : Int → Int} (h : tkV n A wh gr md du) {x y z w : Int} (hx : x = A (5 * n) - 97) (hy : y = A (5 * n + 1) - 48) (hz : z = A (5 * n + 2) - 97) (hw : w = A (5 * n + 3) - 97) : tkV (n + 1) A (updI wh n x) (updI gr n y) (updI md n z) (updI du n w) := fun i h1 h2 => by
  by_cases e : i = n
  · subst e
    rw [updI_at, updI_at, updI_at, updI_at]
    exact ⟨hx, hy, hz, hw⟩
  · rw [updI_ne e, updI_ne e, updI_ne e, updI_ne e]
    exact h i h1 (by omega)
/-- the bytes of a person, of a promise, where the text is well -/
theorem wellP_at {L n i : Int} {A : Int → Int} (h : nP n L A) (hL : 0 ≤ L) (h1 : 0 ≤ i) (h2 : i < n) : (A (3 * i) = 109 ∨ A (3 * i) = 115 ∨ A (3 * i) = 97) ∧ 48 ≤ A (3 * i + 1) ∧ A (3 * i + 1) ≤ 57 := by
  by_cases w : wellP L A
  · have e := h.1 w
    have w2 := w.2
    have g1 := w.1 (3 * i) (by omega) (by omega)
    have g2 := w.1 (3 * i + 1) (by omega) (by omega)
    unfold gP at g1 g2
    omega
  · have := h.2 w
    omega
theorem wellV_at {L n i : Int} {A : Int → Int} (h : nV n L A) (hL : 0 ≤ L) (h1 : 0 ≤ i) (h2 : i < n) : (97 ≤ A (5 * i) ∧ A (5 * i) ≤ 104) ∧ (49 ≤ A (5 * i + 1) ∧ A (5 * i + 1) ≤ 57) ∧ (97 ≤ A (5 * i + 2) ∧ A (5 * i + 2) ≤ 120) ∧ (97 ≤ A (5 * i + 3) ∧ A (5 * i + 3) ≤ 120) := by
  by_cases w : wellV L A
  · have e := h.1 w
    have w2 := w.2
    have g1 := w.1 (5 * i) (by omega) (by omega)
    have g2 := w.1 (5 * i + 1) (by omega) (by omega)
    have g3 := w.1 (5 * i + 2) (by omega) (by omega)
    have g4 := w.1 (5 * i + 3) (by omega) (by omega)
    unfold gV at g1 g2 g3 g4
    omega
  · have := h.2 w
    omega
/-! ===== reading a text to its end, or to its fault ===== -/
def sh (T : Int → Int) : Int → Int := fun i => T (i + 49)
theorem allG_3 {g : Int → Int → Prop} {A : Int → Int} {n m : Int} (h : allG g A n) (h0 : n < m → g n (A n)) (h1 : n + 1 < m → g (n + 1) (A (n + 1))) (h2 : n + 2 < m → g (n + 2) (A (n + 2))) (hm : m ≤ n + 3) : allG g A m := fun j j1 j2 => by
  by_cases q : j < n
  · exact h j j1 q
  · rcases (show j = n ∨ j = n + 1 ∨ j = n + 2 by omega) with e | e | e
    · subst e; exact h0 j2
    · subst e; exact h1 j2
    · subst e; exact h2 j2
theorem allG_5 {g : Int → Int → Prop} {A : Int → Int} {n m : Int} (h : allG g A n) (h0 : n < m → g n (A n)) (h1 : n + 1 < m → g (n + 1) (A (n + 1))) (h2 : n + 2 < m → g (n + 2) (A (n + 2))) (h3 : n + 3 < m → g (n + 3) (A (n + 3))) (h4 : n + 4 < m → g (n + 4) (A (n + 4))) (hm : m ≤ n + 5) : allG g A m := fun j j1 j2 => by
  by_cases q : j < n
  · exact h j j1 q
  · rcases (show j = n ∨ j = n + 1 ∨ j = n + 2 ∨ j = n + 3 ∨ j = n + 4 by omega) with e | e | e | e | e
    · subst e; exact h0 j2
    · subst e; exact h1 j2
    · subst e; exact h2 j2
    · subst e; exact h3 j2
    · subst e; exact h4 j2
def rdP (r n L : Int) (T so me : Int → Int) : Prop := ffP r L T ∧ nP n L T ∧ tkP n T so me
def rdV (r n L : Int) (T wh gr md du : Int → Int) : Prop := ffV r L T ∧ nV n L T ∧ tkV n T wh gr md du
theorem rdP_f {r L : Int} {T so me : Int → Int} (h : ffP r L T) (hr : ¬ r = -1) (hL : 0 ≤ L) : rdP r 0 L T so me := ⟨h, ⟨fun w => absurd w (ffP_no h hr hL), fun _ => rfl⟩, tkP_z⟩
theorem rdP_w {n L : Int} {T so me : Int → Int} (w : wellP L T) (hn : n = (L + 1) / 3) (ht : tkP n T so me) : rdP (-1) n L T so me := ⟨Or.inl ⟨rfl, w⟩, ⟨fun _ => hn, fun q => absurd w q⟩, ht⟩
theorem rdV_f {r L : Int} {T wh gr md du : Int → Int} (h : ffV r L T) (hr : ¬ r = -1) (hL : 0 ≤ L) : rdV r 0 L T wh gr md du := ⟨h, ⟨fun w => absurd w (ffV_no h hr hL), fun _ => rfl⟩, tkV_z⟩
theorem rdV_w {n L : Int} {T wh gr md du : Int → Int} (w : wellV L T) (hn : n = (L + 1) / 5) (ht : tkV n T wh gr md du) : rdV (-1) n L T wh gr md du := ⟨Or.inl ⟨rfl, w⟩, ⟨fun _ => hn, fun q => absurd w q⟩, ht⟩
def rpI (at_ n pp L : Int) (T so me : Int → Int) : Prop := at_ = 3 * n ∧ at_ ≤ L ∧ allG gP T at_ ∧ tkP n T so me ∧ pp = 0
def rvI (at_ n pp L : Int) (T wh gr md du : Int → Int) : Prop := at_ = 5 * n ∧ at_ ≤ L ∧ allG gV T at_ ∧ tkV n T wh gr md du ∧ pp = 0
