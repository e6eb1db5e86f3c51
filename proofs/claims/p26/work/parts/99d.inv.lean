/-! ===== what both objects share: the texts ===== -/
def txR (p q : Int) (A V L T : Int → Int) : Prop := p = L 0 ∧ q = L 1 ∧ (∀ i, 0 ≤ i → i < L 0 → A i = T i) ∧ (∀ i, 0 ≤ i → i < L 1 → V i = sh T i)
def RT (ρ : Nat → Int) (α β : Nat → Int → Int) : Prop := P_ly [] [β 1] ∧ P_XN [ρ 2, ρ 3, ρ 0, ρ 1] [α 2, α 4] ∧ txR (ρ 0) (ρ 1) (α 2) (α 4) (β 1) (β 2)
section RTX
variable {ρ ρ' : Nat → Int} {α α' β β' : Nat → Int → Int} {T1 T2 : Prop}
theorem rlT (R : RT ρ α β) (x : ρ' 0 = ρ 0 ∧ ρ' 1 = ρ 1 ∧ ρ' 2 = ρ 2 ∧ ρ' 3 = ρ 3 ∧ α' 2 = α 2 ∧ α' 4 = α 4 ∧ T1) (y : β' 1 = β 1 ∧ β' 2 = β 2 ∧ T2) : RT ρ' α' β' := by
  unfold RT
  rw [x.1, x.2.1, x.2.2.1, x.2.2.2.1, x.2.2.2.2.1, x.2.2.2.2.2.1, y.1, y.2.1]
  exact R
theorem tx_type {z r t b p q P Q : Int} {A V A2 V2 L T L2 T2 : Int → Int} (hl : P_ly [] [L]) (R : txR p q A V L T) (x : P_tyX [z, t, b, p, q, P, Q] [A, V, A2, V2]) (y : P_tyY [r, t, b] [L, T, L2, T2]) : z = r ∧ P_ly [] [L2] ∧ txR P Q A2 V2 L2 T2 := by
  simp only [P_ly] at hl ⊢
  simp only [P_tyX] at x
  simp only [P_tyY] at y
  obtain ⟨x1, x2, x3, x4, x5⟩ := x
  obtain ⟨y1, y2, y3⟩ := y
  obtain ⟨e1, e2, e3, e4⟩ := R
  by_cases ok : 0 ≤ t ∧ t ≤ 1 ∧ 0 ≤ b ∧ b ≤ 255
  · rcases (show t = 0 ∨ t = 1 by omega) with w | w <;> subst w
    · by_cases full : L 0 = 23
      · obtain ⟨u1, u2, u3, u4, u5⟩ := x3 ok rfl (by omega)
        obtain ⟨v1, v2, v3⟩ := y3 ok (Or.inl ⟨rfl, full⟩)
        subst u2 u3 u4 u5 v2 v3
        exact ⟨by omega, hl, e1, e2, e3, e4⟩
      · obtain ⟨u1, u2, u3, u4, u5⟩ := x2 ok rfl (by omega)
        obtain ⟨v1, v2, v3⟩ := y2 ok (fun _ => full) (fun h => absurd rfl h)
        subst u2 u3 u4 u5 v2 v3
        have l0 : updI L 0 (L 0 + 1) 0 = L 0 + 1 := updI_at _ _ _
        have l1 : updI L 0 (L 0 + 1) 1 = L 1 := updI_ne (by omega)
        refine ⟨by omega, by rw [l0, l1]; omega, by rw [l0]; omega, by rw [l1]; exact e2, fun i h1 h2 => ?_, fun i h1 h2 => ?_⟩
        · rw [l0] at h2
          by_cases h : i = p
          · have h' : i = 49 * 0 + L 0 := by omega
            rw [h, updI_at, ← h, h', updI_at]
          · rw [updI_ne h, updI_ne (by omega)]
            exact e3 i h1 (by omega)
        · rw [l1] at h2
          rw [e4 i h1 h2]
          show T (i + 49) = updI T (49 * 0 + L 0) b (i + 49)
          rw [updI_ne (by omega)]
    · by_cases full : L 1 = 49
      · obtain ⟨u1, u2, u3, u4, u5⟩ := x5 ok rfl (by omega)
        obtain ⟨v1, v2, v3⟩ := y3 ok (Or.inr ⟨rfl, full⟩)
        subst u2 u3 u4 u5 v2 v3
        exact ⟨by omega, hl, e1, e2, e3, e4⟩
      · obtain ⟨u1, u2, u3, u4, u5⟩ := x4 ok rfl (by omega)
        obtain ⟨v1, v2, v3⟩ := y2 ok (fun h => by omega) (fun _ => full)
        subst u2 u3 u4 u5 v2 v3
        have l0 : updI L 1 (L 1 + 1) 0 = L 0 := updI_ne (by omega)
        have l1 : updI L 1 (L 1 + 1) 1 = L 1 + 1 := updI_at _ _ _
        refine ⟨by omega, by rw [l0, l1]; omega, by rw [l0]; exact e1, by rw [l1]; omega, fun i h1 h2 => ?_, fun i h1 h2 => ?_⟩
        · rw [l0] at h2
          rw [updI_ne (by omega)]
          exact e3 i h1 h2
        · rw [l1] at h2
          show updI V q b i = updI T (49 * 1 + L 1) b (i + 49)
          by_cases h : i = q
          · have h' : i + 49 = 49 * 1 + L 1 := by omega
            rw [h', updI_at, h, updI_at]
          · rw [updI_ne h, updI_ne (by omega)]
            exact e4 i h1 (by omega)
  · obtain ⟨u1, u2, u3, u4, u5⟩ := x1 ok
    obtain ⟨v1, v2, v3⟩ := y1 ok
    subst u2 u3 u4 u5 v2 v3
    exact ⟨by omega, hl, e1, e2, e3, e4⟩
theorem tx_wipe {z r t p q P Q : Int} {A V L T L2 : Int → Int} (hl : P_ly [] [L]) (R : txR p q A V L T) (x : P_wiX [z, t, p, q, P, Q] []) (y : P_wiY [r, t] [L, L2]) : z = r ∧ P_ly [] [L2] ∧ txR P Q A V L2 T := by
  simp only [P_ly] at hl ⊢
  simp only [P_wiX] at x
  simp only [P_wiY] at y
  obtain ⟨x1, x2, x3⟩ := x
  obtain ⟨y1, y2⟩ := y
  obtain ⟨e1, e2, e3, e4⟩ := R
  by_cases ok : 0 ≤ t ∧ t ≤ 1
  · obtain ⟨v1, v2⟩ := y1 ok
    rcases (show t = 0 ∨ t = 1 by omega) with w | w <;> subst w
    · obtain ⟨u1, u2, u3⟩ := x1 rfl
      subst u2 u3 v2
      have l0 : updI L 0 0 0 = 0 := updI_at _ _ _
      have l1 : updI L 0 0 1 = L 1 := updI_ne (by omega)
      refine ⟨by omega, by rw [l0, l1]; omega, by rw [l0], by rw [l1]; exact e2, fun i h1 h2 => by rw [l0] at h2; omega, fun i h1 h2 => by rw [l1] at h2; exact e4 i h1 h2⟩
    · obtain ⟨u1, u2, u3⟩ := x2 rfl
      subst u2 u3 v2
      have l0 : updI L 1 0 0 = L 0 := updI_ne (by omega)
      have l1 : updI L 1 0 1 = 0 := updI_at _ _ _
      refine ⟨by omega, by rw [l0, l1]; omega, by rw [l0]; exact e1, by rw [l1], fun i h1 h2 => by rw [l0] at h2; exact e3 i h1 h2, fun i h1 h2 => by rw [l1] at h2; omega⟩
  · obtain ⟨u1, u2, u3⟩ := x3 (by omega) (by omega)
    obtain ⟨v1, v2⟩ := y2 ok
    subst u2 u3 v2
    exact ⟨by omega, hl, e1, e2, e3, e4⟩
theorem tx_undo {z r t p q P Q : Int} {A V L T L2 : Int → Int} (hl : P_ly [] [L]) (R : txR p q A V L T) (x : P_unX [z, t, p, q, P, Q] []) (y : P_unY [r, t] [L, L2]) : z = r ∧ P_ly [] [L2] ∧ txR P Q A V L2 T := by
  simp only [P_ly] at hl ⊢
  simp only [P_unX] at x
  simp only [P_unY] at y
  obtain ⟨x1, x2, x3, x4, x5⟩ := x
  obtain ⟨y1, y2, y3⟩ := y
  obtain ⟨e1, e2, e3, e4⟩ := R
  by_cases ok : 0 ≤ t ∧ t ≤ 1
  · rcases (show t = 0 ∨ t = 1 by omega) with w | w <;> subst w
    · by_cases e : L 0 = 0
      · obtain ⟨u1, u2, u3⟩ := x2 rfl (by omega)
        obtain ⟨v1, v2⟩ := y2 ok e
        subst u2 u3 v2
        exact ⟨by omega, hl, e1, e2, e3, e4⟩
      · obtain ⟨u1, u2, u3⟩ := x1 rfl (by omega)
        obtain ⟨v1, v2⟩ := y1 ok e
        subst u2 u3 v2
        have l0 : updI L 0 (L 0 - 1) 0 = L 0 - 1 := updI_at _ _ _
        have l1 : updI L 0 (L 0 - 1) 1 = L 1 := updI_ne (by omega)
        refine ⟨by omega, by rw [l0, l1]; omega, by rw [l0]; omega, by rw [l1]; exact e2, fun i h1 h2 => by rw [l0] at h2; exact e3 i h1 (by omega), fun i h1 h2 => by rw [l1] at h2; exact e4 i h1 h2⟩
    · by_cases e : L 1 = 0
      · obtain ⟨u1, u2, u3⟩ := x4 rfl (by omega)
        obtain ⟨v1, v2⟩ := y2 ok e
        subst u2 u3 v2
        exact ⟨by omega, hl, e1, e2, e3, e4⟩
      · obtain ⟨u1, u2, u3⟩ := x3 rfl (by omega)
        obtain ⟨v1, v2⟩ := y1 ok e
        subst u2 u3 v2
        have l0 : updI L 1 (L 1 - 1) 0 = L 0 := updI_ne (by omega)
        have l1 : updI L 1 (L 1 - 1) 1 = L 1 - 1 := updI_at _ _ _
        refine ⟨by omega, by rw [l0, l1]; omega, by rw [l0]; exact e1, by rw [l1]; omega, fun i h1 h2 => by rw [l0] at h2; exact e3 i h1 h2, fun i h1 h2 => by rw [l1] at h2; exact e4 i h1 (by omega)⟩
  · obtain ⟨u1, u2, u3⟩ := x5 (by omega) (by omega)
    obtain ⟨v1, v2⟩ := y3 ok
    subst u2 u3 v2
    exact ⟨by omega, hl, e1, e2, e3, e4⟩
theorem allG_cg {g : Int → Int → Prop} {A T : Int → Int} {n m : Int} (c : ∀ i, 0 ≤ i → i < m → A i = T i) (h : n ≤ m) (a : allG g A n) : allG g T n := fun i h1 h2 => by
  rw [← c i h1 (by omega)]
  exact a i h1 h2
def ffG (g : Int → Int → Prop) (E : Prop) (r L : Int) (A : Int → Int) : Prop := (r = -1 ∧ allG g A L ∧ E) ∨ (0 ≤ r ∧ r < L ∧ allG g A r ∧ ¬ g r (A r)) ∨ (r = L ∧ allG g A L ∧ ¬ E)
theorem ffG_eq {g : Int → Int → Prop} {E : Prop} {r r' L : Int} {A T : Int → Int} (c : ∀ i, 0 ≤ i → i < L → A i = T i) (x : ffG g E r L A) (y : ffG g E r' L T) : r = r' := by
  rcases x with ⟨x1, x2, x3⟩ | ⟨x0, x1, x2, x3⟩ | ⟨x1, x2, x3⟩ <;> rcases y with ⟨y1, y2, y3⟩ | ⟨y0, y1, y2, y3⟩ | ⟨y1, y2, y3⟩
  · omega
  · exact absurd (by rw [← c r' y0 y1]; exact x2 r' y0 y1) y3
  · exact absurd x3 y3
  · exact absurd (by rw [c r x0 x1]; exact y2 r x0 x1) x3
  · rcases Int.lt_trichotomy r r' with h | h | h
    · exact absurd (by rw [c r x0 x1]; exact y2 r x0 h) x3
    · exact h
    · exact absurd (by rw [← c r' y0 y1]; exact x2 r' y0 h) y3
  · exact absurd (by rw [c r x0 x1]; exact y2 r x0 x1) x3
  · exact absurd y3 x3
  · exact absurd (by rw [← c r' y0 y1]; exact x2 r' y0 y1) y3
  · omega
theorem tx_fault {z r t p q : Int} {A V L T : Int → Int} (R : txR p q A V L T) (x : P_faX [z, t, p, q] [A, V]) (y : P_faY [r, t] [L, T]) : z = r := by
  simp only [P_faX] at x
  simp only [P_faY] at y
  obtain ⟨x1, x2, x3⟩ := x
  obtain ⟨y1, y2, y3⟩ := y
  obtain ⟨e1, e2, e3, e4⟩ := R
  by_cases t0 : t = 0
  · have h := x1 t0
    have k := y1 t0
    rw [e1] at h
    exact ffG_eq (g := gP) (E := L 0 = 0 ∨ L 0 % 3 = 2) e3 h k
  · by_cases t1 : t = 1
    · have h := x2 t1
      have k := y2 t1
      rw [e2] at h
      exact ffG_eq (g := gV) (E := L 1 = 0 ∨ L 1 % 5 = 4) e4 h k
    · rw [x3 t0 t1, y3 t0 t1]
end RTX
/-! ===== what both objects share: the texts; and the class's rows are those of its texts ===== -/
def RX (ρ : Nat → Int) (α β : Nat → Int → Int) : Prop := P_ly [] [β 1] ∧ P_XT [ρ 2, ρ 3, ρ 0, ρ 1] [α 2, α 4, α 7, α 8, α 10, α 11, α 12, α 13] ∧ txR (ρ 0) (ρ 1) (α 2) (α 4) (β 1) (β 2)
section RXX
variable {ρ ρ' : Nat → Int} {α α' β β' : Nat → Int → Int} {T1 T2 : Prop}
theorem rlX (R : RX ρ α β) (x : ρ' 0 = ρ 0 ∧ ρ' 1 = ρ 1 ∧ ρ' 2 = ρ 2 ∧ ρ' 3 = ρ 3 ∧ α' 2 = α 2 ∧ α' 4 = α 4 ∧ α' 7 = α 7 ∧ α' 8 = α 8 ∧ α' 10 = α 10 ∧ α' 11 = α 11 ∧ α' 12 = α 12 ∧ α' 13 = α 13 ∧ T1) (y : β' 1 = β 1 ∧ β' 2 = β 2 ∧ T2) : RX ρ' α' β' := by
  obtain ⟨x1, x2, x3, x4, x5, x6, x7, x8, x9, x10, x11, x12, -⟩ := x
  unfold RX
  rw [x1, x2, x3, x4, x5, x6, x7, x8, x9, x10, x11, x12, y.1, y.2.1]
  exact R
theorem rx_due (R : RX ρ α β) (x : ρ' 0 = ρ 0 ∧ ρ' 1 = ρ 1 ∧ ρ' 2 = ρ 2 ∧ ρ' 3 = ρ 3 ∧ α' 2 = α 2 ∧ α' 4 = α 4 ∧ α' 7 = α 7 ∧ α' 8 = α 8 ∧ α' 10 = α 10 ∧ α' 11 = α 11 ∧ α' 12 = α 12 ∧ α' 13 = α 13 ∧ T1) (y : β' 1 = β 1 ∧ β' 2 = β 2 ∧ T2) : RX ρ' α' β' := rlX R x y
theorem rx_was (R : RX ρ α β) (x : ρ' 0 = ρ 0 ∧ ρ' 1 = ρ 1 ∧ ρ' 2 = ρ 2 ∧ ρ' 3 = ρ 3 ∧ α' 2 = α 2 ∧ α' 4 = α 4 ∧ α' 10 = α 10 ∧ α' 11 = α 11 ∧ α' 12 = α 12 ∧ α' 13 = α 13 ∧ α' 7 = α 7 ∧ α' 8 = α 8 ∧ T1) (y : β' 1 = β 1 ∧ β' 2 = β 2 ∧ T2) : RX ρ' α' β' := by
  obtain ⟨x1, x2, x3, x4, x5, x6, x9, x10, x11, x12, x7, x8, xt⟩ := x
  exact rlX R ⟨x1, x2, x3, x4, x5, x6, x7, x8, x9, x10, x11, x12, xt⟩ y
theorem rx_ask (R : RX ρ α β) (x : ρ' 0 = ρ 0 ∧ ρ' 1 = ρ 1 ∧ ρ' 2 = ρ 2 ∧ ρ' 3 = ρ 3 ∧ α' 2 = α 2 ∧ α' 4 = α 4 ∧ α' 7 = α 7 ∧ α' 10 = α 10 ∧ α' 11 = α 11 ∧ α' 12 = α 12 ∧ α' 13 = α 13 ∧ α' 8 = α 8 ∧ T1) (y : β' 1 = β 1 ∧ β' 2 = β 2 ∧ T2) : RX ρ' α' β' := by
  obtain ⟨x1, x2, x3, x4, x5, x6, x7, x9, x10, x11, x12, x8, xt⟩ := x
  exact rlX R ⟨x1, x2, x3, x4, x5, x6, x7, x8, x9, x10, x11, x12, xt⟩ y
theorem tkV_al {m : Int} {V a b c d a' b' c' d' : Int → Int} (h : tkV m V a b c d) (h1 : P_al [m] [a', a]) (h2 : P_al [m] [b', b]) (h3 : P_al [m] [c', c]) (h4 : P_al [m] [d', d]) : tkV m V a' b' c' d' := fun i i1 i2 => by
  simp only [P_al] at h1 h2 h3 h4
  rw [h1 i i1 i2, h2 i i1 i2, h3 i i1 i2, h4 i i1 i2]
  exact h i i1 i2
theorem rx_swear (R : RX ρ α β) (x : ρ' 0 = ρ 0 ∧ ρ' 1 = ρ 1 ∧ ρ' 2 = ρ 2 ∧ ρ' 3 = ρ 3 ∧ α' 2 = α 2 ∧ α' 4 = α 4 ∧ α' 7 = α 7 ∧ α' 8 = α 8 ∧ P_al [ρ 3] [α' 10, α 10] ∧ P_al [ρ 3] [α' 11, α 11] ∧ P_al [ρ 3] [α' 12, α 12] ∧ P_al [ρ 3] [α' 13, α 13] ∧ T1) (y : β' 1 = β 1 ∧ β' 2 = β 2 ∧ T2) : RX ρ' α' β' := by
  obtain ⟨x1, x2, x3, x4, x5, x6, x7, x8, x9, x10, x11, x12, -⟩ := x
  obtain ⟨r1, r2, r3⟩ := R
  simp only [P_XT] at r2
  refine ⟨by rw [y.1]; exact r1, ?_, by rw [x1, x2, x5, x6, y.1, y.2.1]; exact r3⟩
  simp only [P_XT]
  rw [x1, x2, x3, x4, x5, x6, x7, x8]
  exact ⟨r2.1, r2.2.1, r2.2.2.1, tkV_al r2.2.2.2 x9 x10 x11 x12⟩
theorem rx_digest (R : RX ρ α β) (x : ρ' 0 = ρ 0 ∧ ρ' 1 = ρ 1 ∧ ρ' 2 = ρ 2 ∧ ρ' 3 = ρ 3 ∧ α' 2 = α 2 ∧ α' 4 = α 4 ∧ α' 7 = α 7 ∧ α' 8 = α 8 ∧ P_al [ρ 3] [α' 10, α 10] ∧ P_al [ρ 3] [α' 11, α 11] ∧ P_al [ρ 3] [α' 12, α 12] ∧ P_al [ρ 3] [α' 13, α 13] ∧ T1) (y : β' 1 = β 1 ∧ β' 2 = β 2 ∧ T2) : RX ρ' α' β' := rx_swear R x y
theorem nP_bnd {n L : Int} {A : Int → Int} (h : nP n L A) {i : Int} (h1 : 0 ≤ i) (h2 : i < n) : 3 * i + 1 < L := by
  by_cases w : wellP L A
  · have := h.1 w
    omega
  · have := h.2 w
    omega
theorem nV_bnd {n L : Int} {A : Int → Int} (h : nV n L A) {i : Int} (h1 : 0 ≤ i) (h2 : i < n) : 5 * i + 3 < L := by
  by_cases w : wellV L A
  · have := h.1 w
    omega
  · have := h.2 w
    omega
theorem nP_eq {n m p : Int} {A L T : Int → Int} (x : nP n p A) (y : nP m (L 0) T) (e : p = L 0) (c : ∀ i, 0 ≤ i → i < L 0 → A i = T i) : n = m := by
  subst e
  by_cases w : wellP (L 0) A
  · have w' : wellP (L 0) T := ⟨allG_cg c (Int.le_refl _) w.1, w.2⟩
    rw [x.1 w, y.1 w']
  · have w' : ¬ wellP (L 0) T := fun h => w ⟨allG_cg (fun i h1 h2 => (c i h1 h2).symm) (Int.le_refl _) h.1, h.2⟩
    rw [x.2 w, y.2 w']
theorem nV_eq {n m q : Int} {V L T : Int → Int} (x : nV n q V) (y : nV m (L 1) T) (e : q = L 1) (c : ∀ i, 0 ≤ i → i < L 1 → V i = T i) : n = m := by
  subst e
  by_cases w : wellV (L 1) V
  · have w' : wellV (L 1) T := ⟨allG_cg c (Int.le_refl _) w.1, w.2⟩
    rw [x.1 w, y.1 w']
  · have w' : ¬ wellV (L 1) T := fun h => w ⟨allG_cg (fun i h1 h2 => (c i h1 h2).symm) (Int.le_refl _) h.1, h.2⟩
    rw [x.2 w, y.2 w']
theorem tx_person {z r k w n : Int} {so sz : Int → Int} (R : RX ρ α β) (x : P_peX [z, k, w, ρ 2] [α 7, α 8]) (y : P_peY [r, k, w, n] [β 1, β 2, so, sz]) : z = r := by
  obtain ⟨-, hn, e1, e2, e3, e4⟩ := R
  simp only [P_XT] at hn
  simp only [P_peX] at x
  simp only [P_peY] at y
  obtain ⟨n1, n2, -, -⟩ := hn
  obtain ⟨y0, yt, y1, y2, y3⟩ := y
  obtain ⟨x1, x2, x3⟩ := x
  have en : ρ 2 = n := nP_eq (L := β 1) n1 y0 e1 e3
  subst en
  by_cases ok : 0 ≤ k ∧ k < ρ 2 ∧ 0 ≤ w ∧ w ≤ 1
  · have hb := nP_bnd y0 ok.1 ok.2.1
    have a := n2 k ok.1 ok.2.1
    have b := yt k ok.1 ok.2.1
    rw [e3 (3 * k) (by omega) (by omega), e3 (3 * k + 1) (by omega) hb] at a
    rcases (show w = 0 ∨ w = 1 by omega) with q | q
    · rw [x1 ok.1 ok.2.1 q, y1 ok.1 ok.2.1 q, a.1, b.1]
    · rw [x2 ok.1 ok.2.1 q, y2 ok.1 ok.2.1 q, a.2, b.2]
  · rw [x3 ok, y3 ok]
theorem tx_promise {z r k w n : Int} {wh gr md du : Int → Int} (R : RX ρ α β) (x : P_prX [z, k, w, ρ 3] [α 10, α 11, α 12, α 13]) (y : P_prY [r, k, w, n] [β 1, β 2, wh, gr, md, du]) : z = r := by
  obtain ⟨-, hn, e1, e2, e3, e4⟩ := R
  simp only [P_XT] at hn
  simp only [P_prX] at x
  simp only [P_prY] at y
  obtain ⟨-, -, n1, n2⟩ := hn
  obtain ⟨y0, yt, y1, y2, y3, y4, y5⟩ := y
  obtain ⟨x1, x2, x3, x4, x5⟩ := x
  have en : ρ 3 = n := nV_eq (L := β 1) n1 y0 e2 e4
  subst en
  by_cases ok : 0 ≤ k ∧ k < ρ 3 ∧ 0 ≤ w ∧ w ≤ 3
  · have hb := nV_bnd y0 ok.1 ok.2.1
    have a := n2 k ok.1 ok.2.1
    have b := yt k ok.1 ok.2.1
    rw [e4 (5 * k) (by omega) (by omega), e4 (5 * k + 1) (by omega) (by omega), e4 (5 * k + 2) (by omega) (by omega), e4 (5 * k + 3) (by omega) (by omega)] at a
    rcases (show w = 0 ∨ w = 1 ∨ w = 2 ∨ w = 3 by omega) with q | q | q | q
    · rw [x1 ok.1 ok.2.1 q, y1 ok.1 ok.2.1 q, a.1, b.1]
    · rw [x2 ok.1 ok.2.1 q, y2 ok.1 ok.2.1 q, a.2.1, b.2.1]
    · rw [x3 ok.1 ok.2.1 q, y3 ok.1 ok.2.1 q, a.2.2.1, b.2.2.1]
    · rw [x4 ok.1 ok.2.1 q, y4 ok.1 ok.2.1 q, a.2.2.2, b.2.2.2]
  · rw [x5 ok, y5 ok]
end RXX
/-! ===== what both objects share: the sheets' forms and lengths ===== -/
def shR (L M I F N : Int → Int) : Prop := ∀ s, 0 ≤ s → s ≤ 3 → (M s = -1 ↔ I s = 0) ∧ (¬ M s = -1 → M s = F s ∧ L s = N s)
def RS (α β : Nat → Int → Int) : Prop := P_ly [] [β 1] ∧ shR (α 45) (α 46) (β 30) (β 31) (β 32)
section RSH
variable {α α' β β' : Nat → Int → Int} {T1 T2 : Prop}
theorem rlS (R : RS α β) (x : α' 45 = α 45 ∧ α' 46 = α 46 ∧ T1) (y : β' 1 = β 1 ∧ β' 30 = β 30 ∧ β' 31 = β 31 ∧ β' 32 = β 32 ∧ T2) : RS α' β' := by
  unfold RS
  rw [x.1, x.2.1, y.1, y.2.1, y.2.2.1, y.2.2.2.1]
  exact R
theorem rt (R : RS α β) (x : α' 45 = α 45 ∧ α' 46 = α 46 ∧ T1) (y : β' 30 = β 30 ∧ β' 31 = β 31 ∧ β' 32 = β 32 ∧ T2) (h : P_ly [] [β' 1]) : RS α' β' := by
  unfold RS
  rw [x.1, x.2.1, y.1, y.2.1, y.2.2.1]
  exact ⟨h, R.2⟩
theorem ly_ty {r t b : Int} {L T L2 T2 : Int → Int} (h : P_ly [] [L]) (f : P_tyY [r, t, b] [L, T, L2, T2]) : P_ly [] [L2] := by
  simp only [P_ly] at h ⊢
  simp only [P_tyY] at f
  obtain ⟨f1, f2, f3⟩ := f
  by_cases ok : 0 ≤ t ∧ t ≤ 1 ∧ 0 ≤ b ∧ b ≤ 255
  · rcases (show t = 0 ∨ t = 1 by omega) with q | q <;> subst q
    · by_cases full : L 0 = 23
      · rw [(f3 ok (Or.inl ⟨rfl, full⟩)).2.1]
        exact h
      · rw [(f2 ok (fun _ => full) (fun q => absurd rfl q)).2.1]
        simp only [updI, if_true]
        rw [if_neg (by omega)]
        omega
    · by_cases full : L 1 = 49
      · rw [(f3 ok (Or.inr ⟨rfl, full⟩)).2.1]
        exact h
      · rw [(f2 ok (fun q => by omega) (fun _ => full)).2.1]
        simp only [updI, if_true]
        rw [if_neg (by omega)]
        omega
  · rw [(f1 ok).2.1]
    exact h
theorem ly_wi {r t : Int} {L L2 : Int → Int} (h : P_ly [] [L]) (f : P_wiY [r, t] [L, L2]) : P_ly [] [L2] := by
  simp only [P_ly] at h ⊢
  simp only [P_wiY] at f
  obtain ⟨f1, f2⟩ := f
  by_cases ok : 0 ≤ t ∧ t ≤ 1
  · rw [(f1 ok).2]
    simp only [updI]
    rcases (show t = 0 ∨ t = 1 by omega) with q | q <;> subst q <;> simp <;> omega
  · rw [(f2 ok).2]
    exact h
theorem ly_un {r t : Int} {L L2 : Int → Int} (h : P_ly [] [L]) (f : P_unY [r, t] [L, L2]) : P_ly [] [L2] := by
  simp only [P_ly] at h ⊢
  simp only [P_unY] at f
  obtain ⟨f1, f2, f3⟩ := f
  by_cases ok : 0 ≤ t ∧ t ≤ 1
  · by_cases e : L t = 0
    · rw [(f2 ok e).2]
      exact h
    · rw [(f1 ok e).2]
      simp only [updI]
      rcases (show t = 0 ∨ t = 1 by omega) with q | q <;> subst q <;> simp <;> omega
  · rw [(f3 ok).2]
    exact h
theorem sh_lose {r r' s g G g' G' : Int} {L M M2 I F N I2 : Int → Int} (R : shR L M I F N) (x : P_loX [r, s, g, G] [L, M, M2]) (y : P_loY [r', s, g', G'] [I, N, I2]) : r = r' ∧ shR L M2 I2 F N := by
  simp only [P_loX] at x
  simp only [P_loY] at y
  obtain ⟨x1, x2, x3⟩ := x
  obtain ⟨y1, y2, y3⟩ := y
  by_cases ok : 0 ≤ s ∧ s ≤ 3
  · have h := R s ok.1 ok.2
    by_cases m : M s = -1
    · obtain ⟨e1, -, e2⟩ := x2 ok m
      obtain ⟨d1, -, d2⟩ := y2 ok (h.1.mp m)
      subst e2 d2
      exact ⟨by omega, R⟩
    · have n : ¬ I s = 0 := fun q => m (h.1.mpr q)
      obtain ⟨e1, -, e2⟩ := x3 ok m
      obtain ⟨d1, -, d2⟩ := y3 ok n
      have h2 := h.2 m
      refine ⟨by omega, fun k k1 k2 => ?_⟩
      rw [e2, d2]
      by_cases q : k = s
      · subst q
        rw [updI_at, updI_at]
        exact ⟨⟨fun _ => rfl, fun _ => rfl⟩, fun q => absurd rfl q⟩
      · rw [updI_ne q, updI_ne q]
        exact R k k1 k2
  · obtain ⟨e1, -, e2⟩ := x1 ok
    obtain ⟨d1, -, d2⟩ := y1 ok
    subst e2 d2
    exact ⟨by omega, R⟩
theorem sh_sheet {r r' s f n g G g' G' : Int} {L M r0 r1 r2 r3 L2 M2 q0 q1 q2 q3 I F N T I2 F2 N2 T2 : Int → Int} (R : shR L M I F N) (x : P_shX [r, s, f, n, g, G] [L, M, r0, r1, r2, r3, L2, M2, q0, q1, q2, q3]) (y : P_shY [r', s, f, n, g', G'] [I, F, N, T, I2, F2, N2, T2]) : r = r' ∧ shR L2 M2 I2 F2 N2 := by
  simp only [P_shX] at x
  simp only [P_shY] at y
  obtain ⟨x1, x2, x3⟩ := x
  obtain ⟨y1, y2, y3⟩ := y
  by_cases ok : (0 ≤ s ∧ s ≤ 3 ∧ 0 ≤ f ∧ f ≤ 2) ∧ n ≤ 60
  · have ok2 : 0 ≤ s ∧ s ≤ 3 ∧ 0 ≤ f ∧ f ≤ 2 ∧ n ≤ 60 := by omega
    by_cases m : n < 0
    · obtain ⟨e1, -, e2, e3, -⟩ := x2 ok2 m
      obtain ⟨d1, -, d2, d3, d4, -⟩ := y2 ok2 m
      subst e2 e3 d2 d3 d4
      exact ⟨by omega, R⟩
    · obtain ⟨e1, -, e2, e3, -⟩ := x3 ok2 (by omega)
      obtain ⟨d1, -, d2, d3, d4, -⟩ := y3 ok2 (by omega)
      refine ⟨by omega, fun k k1 k2 => ?_⟩
      rw [e2, e3, d2, d3, d4]
      by_cases q : k = s
      · subst q
        rw [updI_at, updI_at, updI_at, updI_at, updI_at]
        exact ⟨⟨fun q => by omega, fun q => by omega⟩, fun _ => ⟨rfl, rfl⟩⟩
      · rw [updI_ne q, updI_ne q, updI_ne q, updI_ne q, updI_ne q]
        exact R k k1 k2
  · have no : ¬ (0 ≤ s ∧ s ≤ 3 ∧ 0 ≤ f ∧ f ≤ 2 ∧ n ≤ 60) := by omega
    obtain ⟨e1, -, e2, e3, -⟩ := x1 no
    obtain ⟨d1, -, d2, d3, d4, -⟩ := y1 no
    subst e2 e3 d2 d3 d4
    exact ⟨by omega, R⟩
theorem sh_put {r r' s f i v g G g' G' : Int} {L M r0 r1 r2 r3 q0 q1 q2 q3 I F N T T2 : Int → Int} (R : shR L M I F N) (x : P_puX [r, s, f, i, v, g, G] [L, M, r0, r1, r2, r3, q0, q1, q2, q3]) (y : P_puY [r', s, f, i, v, g', G'] [I, F, N, T, T2]) : r = r' := by
  simp only [P_puX] at x
  simp only [P_puY] at y
  obtain ⟨x1, x2, x3, x4, x5⟩ := x
  obtain ⟨y1, y2, y3, y4, y5⟩ := y
  by_cases ok : 0 ≤ s ∧ s ≤ 3 ∧ 0 ≤ f ∧ f ≤ 2
  · have h := R s ok.1 ok.2.1
    by_cases m : M s = -1
    · have e := (x2 ok m).1
      have d := (y2 ok (h.1.mp m)).1
      omega
    · have n : ¬ I s = 0 := fun q => m (h.1.mpr q)
      have h2 := h.2 m
      by_cases p : M s = f
      · have p2 : F s = f := h2.1.symm.trans p
        by_cases c : 0 ≤ i ∧ i < L s
        · have e := (x5 ok m p c).1
          have d := (y5 ok n p2 (by omega)).1
          omega
        · have e := (x4 ok m p c).1
          have d := (y4 ok n p2 (by omega)).1
          omega
      · have e := (x3 ok m p).1
        have d := (y3 ok n (fun q => p (h2.1.trans q))).1
        omega
  · have e := (x1 ok).1
    have d := (y1 ok).1
    omega
theorem sh_copy {r r' s i t j n g G g' G' : Int} {L M r0 r1 r2 r3 q0 q1 q2 q3 I F N T T2 : Int → Int} (R : shR L M I F N) (x : P_cpX [r, s, i, t, j, n, g, G] [L, M, r0, r1, r2, r3, q0, q1, q2, q3]) (y : P_cpY [r', s, i, t, j, n, g', G'] [I, F, N, T, T2]) : r = r' := by
  simp only [P_cpX] at x
  simp only [P_cpY] at y
  obtain ⟨x1, x2, x3, x4, x5⟩ := x
  obtain ⟨y1, y2, y3, y4, y5⟩ := y
  by_cases ok : 0 ≤ s ∧ s ≤ 3 ∧ 0 ≤ t ∧ t ≤ 3
  · have h := R s ok.1 ok.2.1
    have k := R t ok.2.2.1 ok.2.2.2
    by_cases m : M s = -1 ∨ M t = -1
    · have e := (x2 ok m).1
      have d := (y2 ok (m.imp h.1.mp k.1.mp)).1
      omega
    · have m1 : ¬ M s = -1 := fun q => m (Or.inl q)
      have m2 : ¬ M t = -1 := fun q => m (Or.inr q)
      have n1 : ¬ I s = 0 := fun q => m1 (h.1.mpr q)
      have n2 : ¬ I t = 0 := fun q => m2 (k.1.mpr q)
      have h2 := h.2 m1
      have k2 := k.2 m2
      by_cases p : M s = M t
      · have p2 : F s = F t := h2.1.symm.trans (p.trans k2.1)
        by_cases c : 0 ≤ i ∧ 0 ≤ j ∧ 0 ≤ n ∧ i + n ≤ L s ∧ j + n ≤ L t
        · have e := (x5 ok m1 m2 p c).1
          have d := (y5 ok n1 n2 p2 (by omega)).1
          omega
        · have e := (x4 ok m1 m2 p c).1
          have d := (y4 ok n1 n2 p2 (by omega)).1
          omega
      · have e := (x3 ok m1 m2 p).1
        have d := (y3 ok n1 n2 (fun q => p (by omega))).1
        omega
  · have e := (x1 ok).1
    have d := (y1 ok).1
    omega
end RSH
/-! ===== both years, behind a day ===== -/
section XY
variable {n m nk nl nt u h : Int} {so sz wh gr md du so' sz' wh' gr' md' du' kd ko kd' ko' ld lw lm ld' lw' lm' td tw tm td' tw' tm' C T S CA TA SA C' U' S' : Int → Int}
theorem xy (hE : agE n m so sz wh gr md du so' sz' wh' gr' md' du') (hK : agK nk kd ko kd' ko') (hL : agT nl ld lw lm ld' lw' lm') (hT : agT nt td tw tm td' tw' tm') (hn : 0 ≤ n ∧ n ≤ 8) (hm : 0 ≤ m ∧ m ≤ 11) {d : Int} (hd : 0 ≤ d ∧ d ≤ 23) (hx : yX (5 * (d + 1)) n m nk nl nt u h so sz wh gr md du kd ko ld lw lm td tw tm C T S) (hy : yY n m nk nl nt u h so' sz' wh' gr' md' du' kd' ko' ld' lw' lm' td' tw' tm' CA TA SA C' U' S') :
    (∀ k, 0 ≤ k → k < n → CA (8 * d + k) = C k ∧ TA (8 * d + k) = T k ∧ 0 ≤ C k) ∧ (∀ p, 0 ≤ p → p < m → SA (12 * d + p) = S p) ∧ (d = 23 → (∀ k, 0 ≤ k → k < n → C' k = C k ∧ U' k = T k) ∧ ∀ p, 0 ≤ p → p < m → S' p = S p) := by
  obtain ⟨c, t, s, hb, hc⟩ := hx
  obtain ⟨c', t', s', he, hr⟩ := hy
  have hR : RLk n m wh (c, t, s) (inS n m sz' c' t' s') := by
    refine ⟨fun k h1 h2 => ?_, fun p h1 h2 => ?_⟩
    · obtain ⟨e1, e2, e3, e4, e5, e6⟩ := hE.1 k h1 h2
      obtain ⟨b1, b2⟩ := hb.1 k h1 (by omega)
      have q1 : (inS n m sz' c' t' s').1 k = sz' k := by
        show upF c' 0 sz' n.toNat k = sz' k
        rw [upF_at, if_pos (by omega), Int.sub_zero]
      have q2 : (inS n m sz' c' t' s').2.1 k = 0 := by
        show upF t' 0 (fun _ => 0) n.toNat k = 0
        rw [upF_at, if_pos (by omega)]
      exact ⟨by rw [q1]; show c k = _; omega, by rw [q2]; exact b2, by show 0 ≤ c k; omega, by show c k ≤ 99; omega⟩
    · have q3 : (inS n m sz' c' t' s').2.2 p = 0 := by
        show upF s' 0 (fun _ => 0) m.toNat p = 0
        rw [upF_at, if_pos (by omega)]
      have b3 := hb.2 p h1 (by omega)
      exact ⟨by rw [q3]; exact b3, fun q => by rw [show ((c, t, s) : ST3).2.2 p = s p from rfl] at q; omega⟩
  have Y := year_rel (nK := u) (nL := h) hE hK hL hT hR (d + 1).toNat
  rw [show (((d + 1).toNat : Nat) : Int) = d + 1 by omega, ← hc] at Y
  refine ⟨fun k h1 h2 => ?_, fun p h1 h2 => ?_, fun hd23 => ⟨fun k h1 h2 => ?_, fun p h1 h2 => ?_⟩⟩
  · obtain ⟨a1, a2⟩ := hr.1 d k hd.1 (by omega) h1 h2
    obtain ⟨y1, y2, y3, y4⟩ := Y.1 k h1 h2
    exact ⟨by rw [a1]; exact y1.symm, by rw [a2]; exact y2.symm, y3⟩
  · have a1 := hr.2 d p hd.1 (by omega) h1 h2
    rw [a1]
    exact (Y.2 p h1 h2).1.symm
  · obtain ⟨y1, y2, y3, y4⟩ := Y.1 k h1 h2
    rw [show (d + 1).toNat = (24 : Int).toNat by omega, ← he] at y1 y2
    exact ⟨y1.symm, y2.symm⟩
  · have y1 := (Y.2 p h1 h2).1
    rw [show (d + 1).toNat = (24 : Int).toNat by omega, ← he] at y1
    exact y1.symm
/-- the rows that both have read out of the same texts -/
theorem ag_of {p q n' m' : Int} {A V L X : Int → Int} (hp : 0 ≤ p) (hq : 0 ≤ q) (e1 : p = L 0) (e2 : q = L 1) (e3 : ∀ i, 0 ≤ i → i < L 0 → A i = X i) (e4 : ∀ i, 0 ≤ i → i < L 1 → V i = sh X i) (x1 : nP n p A) (x2 : tkP n A so sz) (x3 : nV m q V) (x4 : tkV m V wh gr md du) {a b : Int} (y1 : rdP a n' (L 0) X so' sz') (y2 : rdV b m' (L 1) (sh X) wh' gr' md' du') : n = n' ∧ m = m' ∧ agE n m so sz wh gr md du so' sz' wh' gr' md' du' := by
  have en : n = n' := nP_eq (L := L) x1 y1.2.1 e1 e3
  have em : m = m' := nV_eq (L := L) x3 y2.2.1 e2 e4
  refine ⟨en, em, fun k h1 h2 => ?_, fun i h1 h2 => ?_⟩
  · have w := wellP_at x1 hp h1 h2
    have hb := nP_bnd x1 h1 h2
    have a1 := x2 k h1 h2
    have b1 := y1.2.2 k h1 (by omega)
    rw [← e3 (3 * k) (by omega) (by omega), ← e3 (3 * k + 1) (by omega) (by omega)] at b1
    have hs : 0 ≤ soP (A (3 * k)) ∧ soP (A (3 * k)) ≤ 2 := by
      unfold soP
      split
      · omega
      · split <;> omega
    exact ⟨by rw [b1.1, a1.1], by rw [b1.2, a1.2], by rw [a1.1]; exact hs.1, by rw [a1.1]; exact hs.2, by omega, by omega⟩
  · have w := wellV_at x3 hq h1 h2
    have hb := nV_bnd x3 h1 h2
    have a1 := x4 i h1 h2
    have b1 := y2.2.2 i h1 (by omega)
    rw [← e4 (5 * i) (by omega) (by omega), ← e4 (5 * i + 1) (by omega) (by omega), ← e4 (5 * i + 2) (by omega) (by omega), ← e4 (5 * i + 3) (by omega) (by omega)] at b1
    exact ⟨by omega, by omega, by omega, by omega, by omega, by omega, by omega, by omega, by omega⟩
end XY
/-! ===== what both objects share: all that was told ===== -/
def kR (n n' : Int) (A B A' B' : Int → Int) : Prop := n = n' ∧ ∀ i, 0 ≤ i → i < n → A' i = A i ∧ B' i = B i ∧ 0 ≤ A i ∧ A i ≤ 23 ∧ 0 ≤ B i ∧ B i ≤ 9
def tR (hi n n' : Int) (A B C A' B' C' : Int → Int) : Prop := n = n' ∧ ∀ i, 0 ≤ i → i < n → A' i = A i ∧ B' i = B i ∧ C' i = C i ∧ 0 ≤ A i ∧ A i ≤ 23 ∧ 0 ≤ B i ∧ B i ≤ 7 ∧ 0 ≤ C i ∧ C i ≤ hi
def conR (r0 r1 r2 r3 T : Int → Int) : Prop := ∀ s i, 0 ≤ s → s ≤ 3 → 0 ≤ i → i < 60 → rowX s r0 r1 r2 r3 i = T (60 * s + i)
def lenR (L : Int → Int) : Prop := ∀ s, 0 ≤ s → s ≤ 3 → 0 ≤ L s ∧ L s ≤ 60
def RA (ρ σ : Nat → Int) (α β : Nat → Int → Int) : Prop := RX ρ α β ∧ shR (α 45) (α 46) (β 30) (β 31) (β 32) ∧ lenR (α 45) ∧ conR (α 41) (α 42) (α 43) (α 44) (β 33) ∧ kR (ρ 4) (σ 4) (α 15) (α 16) (β 9) (β 10) ∧ tR 9 (ρ 5) (σ 5) (α 19) (α 20) (α 21) (β 11) (β 12) (β 13) ∧ tR 9 (ρ 6) (σ 6) (α 23) (α 24) (α 25) (β 14) (β 15) (β 16) ∧ tR 99 (ρ 7) (σ 7) (α 32) (α 33) (α 34) (β 26) (β 27) (β 28) ∧ ρ 13 = σ 12
section RALL
theorem kR_add {z r d k n N n' N' : Int} {D O D2 O2 D' O' D2' O2' : Int → Int} (R : kR n n' D O D' O') (x : P_kgA [z, d, k, n, N] [D, O, D2, O2]) (y : P_kgA [r, d, k, n', N'] [D', O', D2', O2']) : z = r ∧ kR N N' D2 O2 D2' O2' := by
  simp only [P_kgA] at x y
  obtain ⟨x1, x2, x3⟩ := x
  obtain ⟨y1, y2, y3⟩ := y
  obtain ⟨e, R⟩ := R
  subst e
  by_cases ok : 0 ≤ d ∧ d ≤ 23 ∧ 0 ≤ k ∧ k ≤ 9
  · by_cases f : n < 8
    · obtain ⟨u1, u2, u3, u4⟩ := x2 ok f
      obtain ⟨v1, v2, v3, v4⟩ := y2 ok f
      subst u1 u2 u3 u4 v1 v2 v3 v4
      refine ⟨rfl, rfl, fun i h1 h2 => ?_⟩
      by_cases q : i = n
      · subst q
        simp only [updI_at, true_and]
        omega
      · simp only [updI_ne q]
        exact R i h1 (by omega)
    · obtain ⟨u1, u2, u3, u4⟩ := x3 ok (by omega)
      obtain ⟨v1, v2, v3, v4⟩ := y3 ok (by omega)
      subst u1 u2 u3 u4 v1 v2 v3 v4
      exact ⟨rfl, rfl, R⟩
  · obtain ⟨u1, u2, u3, u4⟩ := x1 ok
    obtain ⟨v1, v2, v3, v4⟩ := y1 ok
    subst u1 u2 u3 u4 v1 v2 v3 v4
    exact ⟨rfl, rfl, R⟩
theorem tR_add {z r d k u n N n' N' : Int} {D O U D2 O2 U2 D' O' U' D2' O2' U2' : Int → Int} (R : tR 9 n n' D O U D' O' U') (x : P_tlA [z, d, k, u, n, N] [D, O, U, D2, O2, U2]) (y : P_tlA [r, d, k, u, n', N'] [D', O', U', D2', O2', U2']) : z = r ∧ tR 9 N N' D2 O2 U2 D2' O2' U2' := by
  simp only [P_tlA] at x y
  obtain ⟨x1, x2, x3⟩ := x
  obtain ⟨y1, y2, y3⟩ := y
  obtain ⟨e, R⟩ := R
  subst e
  by_cases ok : 0 ≤ d ∧ d ≤ 23 ∧ 0 ≤ k ∧ k ≤ 7 ∧ 1 ≤ u ∧ u ≤ 9
  · by_cases f : n < 6
    · obtain ⟨u1, u2, u3, u4, u5⟩ := x2 ok f
      obtain ⟨v1, v2, v3, v4, v5⟩ := y2 ok f
      subst u1 u2 u3 u4 u5 v1 v2 v3 v4 v5
      refine ⟨rfl, rfl, fun i h1 h2 => ?_⟩
      by_cases q : i = n
      · subst q
        simp only [updI_at, true_and]
        omega
      · simp only [updI_ne q]
        exact R i h1 (by omega)
    · obtain ⟨u1, u2, u3, u4, u5⟩ := x3 ok (by omega)
      obtain ⟨v1, v2, v3, v4, v5⟩ := y3 ok (by omega)
      subst u1 u2 u3 u4 u5 v1 v2 v3 v4 v5
      exact ⟨rfl, rfl, R⟩
  · obtain ⟨u1, u2, u3, u4, u5⟩ := x1 ok
    obtain ⟨v1, v2, v3, v4, v5⟩ := y1 ok
    subst u1 u2 u3 u4 u5 v1 v2 v3 v4 v5
    exact ⟨rfl, rfl, R⟩
theorem tR_see {z r d k u n N n' N' : Int} {D O U D2 O2 U2 D' O' U' D2' O2' U2' : Int → Int} (R : tR 99 n n' D O U D' O' U') (x : P_seA [z, d, k, u, n, N] [D, O, U, D2, O2, U2]) (y : P_seA [r, d, k, u, n', N'] [D', O', U', D2', O2', U2']) : z = r ∧ tR 99 N N' D2 O2 U2 D2' O2' U2' := by
  simp only [P_seA] at x y
  obtain ⟨x1, x2, x3⟩ := x
  obtain ⟨y1, y2, y3⟩ := y
  obtain ⟨e, R⟩ := R
  subst e
  by_cases ok : 0 ≤ d ∧ d ≤ 23 ∧ 0 ≤ k ∧ k ≤ 7 ∧ 0 ≤ u ∧ u ≤ 99
  · by_cases f : n < 8
    · obtain ⟨u1, u2, u3, u4, u5⟩ := x2 ok f
      obtain ⟨v1, v2, v3, v4, v5⟩ := y2 ok f
      subst u1 u2 u3 u4 u5 v1 v2 v3 v4 v5
      refine ⟨rfl, rfl, fun i h1 h2 => ?_⟩
      by_cases q : i = n
      · subst q
        simp only [updI_at, true_and]
        omega
      · simp only [updI_ne q]
        exact R i h1 (by omega)
    · obtain ⟨u1, u2, u3, u4, u5⟩ := x3 ok (by omega)
      obtain ⟨v1, v2, v3, v4, v5⟩ := y3 ok (by omega)
      subst u1 u2 u3 u4 u5 v1 v2 v3 v4 v5
      exact ⟨rfl, rfl, R⟩
  · obtain ⟨u1, u2, u3, u4, u5⟩ := x1 ok
    obtain ⟨v1, v2, v3, v4, v5⟩ := y1 ok
    subst u1 u2 u3 u4 u5 v1 v2 v3 v4 v5
    exact ⟨rfl, rfl, R⟩
theorem kR_dn {n n' N N' : Int} {A B A' B' : Int → Int} (R : kR n n' A B A' B') (h : N ≤ n) (e : N = N') : kR N N' A B A' B' := ⟨e, fun i h1 h2 => R.2 i h1 (by omega)⟩
theorem tR_dn {hi n n' N N' : Int} {A B C A' B' C' : Int → Int} (R : tR hi n n' A B C A' B' C') (h : N ≤ n) (e : N = N') : tR hi N N' A B C A' B' C' := ⟨e, fun i h1 h2 => R.2 i h1 (by omega)⟩
theorem ra_back {z r w a b c A B C a' b' c' A' B' C' : Int} (e1 : a = a') (e2 : b = b') (e3 : c = c') (x : P_baA [z, w, a, b, c, A, B, C] []) (y : P_baA [r, w, a', b', c', A', B', C'] []) (ha : 0 ≤ a) (hb : 0 ≤ b) (hc : 0 ≤ c) : z = r ∧ A = A' ∧ B = B' ∧ C = C' ∧ A ≤ a ∧ B ≤ b ∧ C ≤ c := by
  simp only [P_baA] at x y
  subst e1 e2 e3
  obtain ⟨x1, x2, x3, x4, x5, x6, x7⟩ := x
  obtain ⟨y1, y2, y3, y4, y5, y6, y7⟩ := y
  by_cases w0 : w = 0
  · by_cases q : a = 0
    · have u := x4 w0 q
      have v := y4 w0 q
      omega
    · have u := x1 w0 (by omega)
      have v := y1 w0 (by omega)
      omega
  · by_cases w1 : w = 1
    · by_cases q : b = 0
      · have u := x5 w1 q
        have v := y5 w1 q
        omega
      · have u := x2 w1 (by omega)
        have v := y2 w1 (by omega)
        omega
    · by_cases w2 : w = 2
      · by_cases q : c = 0
        · have u := x6 w2 q
          have v := y6 w2 q
          omega
        · have u := x3 w2 (by omega)
          have v := y3 w2 (by omega)
          omega
      · have u := x7 w0 w1 w2
        have v := y7 w0 w1 w2
        omega
theorem ra_forget {z r n N n' N' : Int} (e : n = n') (x : P_foA [z, n, N] []) (y : P_foA [r, n', N'] []) (h : 0 ≤ n) : z = r ∧ N = N' ∧ N ≤ n := by
  simp only [P_foA] at x y
  omega
theorem kR_al {n n' : Int} {A B A1 B1 A' B' : Int → Int} (R : kR n n' A B A' B') (h1 : P_al [n] [A1, A]) (h2 : P_al [n] [B1, B]) : kR n n' A1 B1 A' B' := by
  simp only [P_al] at h1 h2
  refine ⟨R.1, fun i i1 i2 => ?_⟩
  rw [h1 i i1 i2, h2 i i1 i2]
  exact R.2 i i1 i2
theorem XT_al {n m p q : Int} {A V so sz a b c d a' b' c' d' : Int → Int} (h : P_XT [n, m, p, q] [A, V, so, sz, a, b, c, d]) (h1 : P_al [m] [a', a]) (h2 : P_al [m] [b', b]) (h3 : P_al [m] [c', c]) (h4 : P_al [m] [d', d]) : P_XT [n, m, p, q] [A, V, so, sz, a', b', c', d'] := by
  simp only [P_XT] at h ⊢
  exact ⟨h.1, h.2.1, h.2.2.1, tkV_al h.2.2.2 h1 h2 h3 h4⟩
/-! sheets, with what lies on them -/
theorem con_sheet {z r s f n g G g' G' : Int} {L M r0 r1 r2 r3 L2 M2 q0 q1 q2 q3 I F N T I2 F2 N2 T2 : Int → Int} (hl : lenR L) (hc : conR r0 r1 r2 r3 T) (e : g = g') (x : P_shX [z, s, f, n, g, G] [L, M, r0, r1, r2, r3, L2, M2, q0, q1, q2, q3]) (y : P_shY [r, s, f, n, g', G'] [I, F, N, T, I2, F2, N2, T2]) : lenR L2 ∧ conR q0 q1 q2 q3 T2 ∧ G = G' := by
  simp only [P_shX] at x
  simp only [P_shY] at y
  obtain ⟨x1, x2, x3⟩ := x
  obtain ⟨y1, y2, y3⟩ := y
  by_cases ok : (0 ≤ s ∧ s ≤ 3 ∧ 0 ≤ f ∧ f ≤ 2) ∧ n ≤ 60
  · have ok2 : 0 ≤ s ∧ s ≤ 3 ∧ 0 ≤ f ∧ f ≤ 2 ∧ n ≤ 60 := by omega
    by_cases m : n < 0
    · obtain ⟨-, e1, e2, -, e4, e5, e6, e7⟩ := x2 ok2 m
      obtain ⟨-, d1, -, -, -, d5⟩ := y2 ok2 m
      subst e2 e4 e5 e6 e7 d5
      exact ⟨hl, hc, by omega⟩
    · obtain ⟨-, e1, e2, -, e4, e5, e6, e7⟩ := x3 ok2 (by omega)
      obtain ⟨-, d1, -, -, -, d5⟩ := y3 ok2 (by omega)
      refine ⟨fun t t1 t2 => ?_, fun t i t1 t2 i1 i2 => ?_, by omega⟩
      · rw [e2]
        by_cases q : t = s
        · subst q
          rw [updI_at]
          omega
        · rw [updI_ne q]
          exact hl t t1 t2
      · rw [d5, upF_at]
        have hh := hc t i t1 t2 i1 i2
        rcases (show s = 0 ∨ s = 1 ∨ s = 2 ∨ s = 3 by omega) with z0 | z0 | z0 | z0
        · obtain ⟨u1, u2, u3, u4⟩ := e4 z0
          subst z0
          rcases (show t = 0 ∨ t = 1 ∨ t = 2 ∨ t = 3 by omega) with w | w | w | w <;> subst w <;> simp only [rowX_0, rowX_1, rowX_2, rowX_3] at hh ⊢
          · rw [if_pos (by omega)]; exact u1 i i1 i2
          · rw [if_neg (by omega), u2]; exact hh
          · rw [if_neg (by omega), u3]; exact hh
          · rw [if_neg (by omega), u4]; exact hh
        · obtain ⟨u1, u2, u3, u4⟩ := e5 z0
          subst z0
          rcases (show t = 0 ∨ t = 1 ∨ t = 2 ∨ t = 3 by omega) with w | w | w | w <;> subst w <;> simp only [rowX_0, rowX_1, rowX_2, rowX_3] at hh ⊢
          · rw [if_neg (by omega), u2]; exact hh
          · rw [if_pos (by omega)]; exact u1 i i1 i2
          · rw [if_neg (by omega), u3]; exact hh
          · rw [if_neg (by omega), u4]; exact hh
        · obtain ⟨u1, u2, u3, u4⟩ := e6 z0
          subst z0
          rcases (show t = 0 ∨ t = 1 ∨ t = 2 ∨ t = 3 by omega) with w | w | w | w <;> subst w <;> simp only [rowX_0, rowX_1, rowX_2, rowX_3] at hh ⊢
          · rw [if_neg (by omega), u2]; exact hh
          · rw [if_neg (by omega), u3]; exact hh
          · rw [if_pos (by omega)]; exact u1 i i1 i2
          · rw [if_neg (by omega), u4]; exact hh
        · obtain ⟨u1, u2, u3, u4⟩ := e7 z0
          subst z0
          rcases (show t = 0 ∨ t = 1 ∨ t = 2 ∨ t = 3 by omega) with w | w | w | w <;> subst w <;> simp only [rowX_0, rowX_1, rowX_2, rowX_3] at hh ⊢
          · rw [if_neg (by omega), u2]; exact hh
          · rw [if_neg (by omega), u3]; exact hh
          · rw [if_neg (by omega), u4]; exact hh
          · rw [if_pos (by omega)]; exact u1 i i1 i2
  · have no : ¬ (0 ≤ s ∧ s ≤ 3 ∧ 0 ≤ f ∧ f ≤ 2 ∧ n ≤ 60) := by omega
    obtain ⟨-, e1, e2, -, e4, e5, e6, e7⟩ := x1 no
    obtain ⟨-, d1, -, -, -, d5⟩ := y1 no
    subst e2 e4 e5 e6 e7 d5
    exact ⟨hl, hc, by omega⟩
theorem lo_fin {z r s g G g' G' : Int} {L M M2 I F N I2 : Int → Int} (R : shR L M I F N) (e : g = g') (x : P_loX [z, s, g, G] [L, M, M2]) (y : P_loY [r, s, g', G'] [I, N, I2]) : G = G' := by
  simp only [P_loX] at x
  simp only [P_loY] at y
  obtain ⟨x1, x2, x3⟩ := x
  obtain ⟨y1, y2, y3⟩ := y
  by_cases ok : 0 ≤ s ∧ s ≤ 3
  · have h := R s ok.1 ok.2
    by_cases m : M s = -1
    · have u := (x2 ok m).2.1
      have v := (y2 ok (h.1.mp m)).2.1
      omega
    · have n : ¬ I s = 0 := fun q => m (h.1.mpr q)
      have u := (x3 ok m).2.1
      have v := (y3 ok n).2.1
      omega
  · have u := (x1 ok).2.1
    have v := (y1 ok).2.1
    omega
theorem con_put {z r s f i v g G g' G' : Int} {L M r0 r1 r2 r3 q0 q1 q2 q3 I F N T T2 : Int → Int} (R : shR L M I F N) (hl : lenR L) (hc : conR r0 r1 r2 r3 T) (e : g = g') (x : P_puX [z, s, f, i, v, g, G] [L, M, r0, r1, r2, r3, q0, q1, q2, q3]) (y : P_puY [r, s, f, i, v, g', G'] [I, F, N, T, T2]) : conR q0 q1 q2 q3 T2 ∧ G = G' := by
  simp only [P_puX] at x
  simp only [P_puY] at y
  obtain ⟨x1, x2, x3, x4, x5⟩ := x
  obtain ⟨y1, y2, y3, y4, y5⟩ := y
  by_cases ok : 0 ≤ s ∧ s ≤ 3 ∧ 0 ≤ f ∧ f ≤ 2
  · have h := R s ok.1 ok.2.1
    have hL := hl s ok.1 ok.2.1
    by_cases m : M s = -1
    · obtain ⟨-, e1, a0, a1, a2, a3⟩ := x2 ok m
      obtain ⟨-, d1, d2⟩ := y2 ok (h.1.mp m)
      subst a0 a1 a2 a3 d2
      exact ⟨hc, by omega⟩
    · have n : ¬ I s = 0 := fun q => m (h.1.mpr q)
      have h2 := h.2 m
      by_cases p : M s = f
      · have p2 : F s = f := h2.1.symm.trans p
        by_cases c : 0 ≤ i ∧ i < L s
        · obtain ⟨-, e1, a0, a1, a2, a3⟩ := x5 ok m p c
          obtain ⟨-, d1, d2⟩ := y5 ok n p2 (by omega)
          refine ⟨fun t j t1 t2 j1 j2 => ?_, by omega⟩
          have hh := hc t j t1 t2 j1 j2
          rw [d2, ← h2.1]
          rcases (show s = 0 ∨ s = 1 ∨ s = 2 ∨ s = 3 by omega) with z0 | z0 | z0 | z0
          · obtain ⟨u1, u2, u3, u4⟩ := a0 z0
            subst z0 u1 u2 u3 u4
            rcases (show t = 0 ∨ t = 1 ∨ t = 2 ∨ t = 3 by omega) with w | w | w | w <;> subst w <;> simp only [rowX_0, rowX_1, rowX_2, rowX_3] at hh ⊢
            · by_cases q : j = i
              · subst q; rw [updI_at, updI_at]
              · rw [updI_ne q, updI_ne (by omega)]; exact hh
            all_goals (rw [updI_ne (by omega)]; exact hh)
          · obtain ⟨u1, u2, u3, u4⟩ := a1 z0
            subst z0 u1 u2 u3 u4
            rcases (show t = 1 ∨ t = 0 ∨ t = 2 ∨ t = 3 by omega) with w | w | w | w <;> subst w <;> simp only [rowX_0, rowX_1, rowX_2, rowX_3] at hh ⊢
            · by_cases q : j = i
              · subst q; rw [updI_at, updI_at]
              · rw [updI_ne q, updI_ne (by omega)]; exact hh
            all_goals (rw [updI_ne (by omega)]; exact hh)
          · obtain ⟨u1, u2, u3, u4⟩ := a2 z0
            subst z0 u1 u2 u3 u4
            rcases (show t = 2 ∨ t = 0 ∨ t = 1 ∨ t = 3 by omega) with w | w | w | w <;> subst w <;> simp only [rowX_0, rowX_1, rowX_2, rowX_3] at hh ⊢
            · by_cases q : j = i
              · subst q; rw [updI_at, updI_at]
              · rw [updI_ne q, updI_ne (by omega)]; exact hh
            all_goals (rw [updI_ne (by omega)]; exact hh)
          · obtain ⟨u1, u2, u3, u4⟩ := a3 z0
            subst z0 u1 u2 u3 u4
            rcases (show t = 3 ∨ t = 0 ∨ t = 1 ∨ t = 2 by omega) with w | w | w | w <;> subst w <;> simp only [rowX_0, rowX_1, rowX_2, rowX_3] at hh ⊢
            · by_cases q : j = i
              · subst q; rw [updI_at, updI_at]
              · rw [updI_ne q, updI_ne (by omega)]; exact hh
            all_goals (rw [updI_ne (by omega)]; exact hh)
        · obtain ⟨-, e1, a0, a1, a2, a3⟩ := x4 ok m p c
          obtain ⟨-, d1, d2⟩ := y4 ok n p2 (by omega)
          subst a0 a1 a2 a3 d2
          exact ⟨hc, by omega⟩
      · obtain ⟨-, e1, a0, a1, a2, a3⟩ := x3 ok m p
        obtain ⟨-, d1, d2⟩ := y3 ok n (fun q => p (h2.1.trans q))
        subst a0 a1 a2 a3 d2
        exact ⟨hc, by omega⟩
  · obtain ⟨-, e1, a0, a1, a2, a3⟩ := x1 ok
    obtain ⟨-, d1, d2⟩ := y1 ok
    subst a0 a1 a2 a3 d2
    exact ⟨hc, by omega⟩
theorem ra_get {z r s f i g G g' G' : Int} {L M r0 r1 r2 r3 I F N T : Int → Int} (R : shR L M I F N) (hl : lenR L) (hc : conR r0 r1 r2 r3 T) (e : g = g') (x : P_geX [z, s, f, i, g, G] [L, M, r0, r1, r2, r3]) (y : P_geY [r, s, f, i, g', G'] [I, F, N, T]) : z = r ∧ G = G' := by
  simp only [P_geX] at x
  simp only [P_geY] at y
  obtain ⟨x1, x2, x3, x4, x5⟩ := x
  obtain ⟨y1, y2, y3, y4, y5⟩ := y
  by_cases ok : 0 ≤ s ∧ s ≤ 3 ∧ 0 ≤ f ∧ f ≤ 2
  · have h := R s ok.1 ok.2.1
    have hL := hl s ok.1 ok.2.1
    by_cases m : M s = -1
    · have u := x2 ok m
      have v := y2 ok (h.1.mp m)
      omega
    · have n : ¬ I s = 0 := fun q => m (h.1.mpr q)
      have h2 := h.2 m
      by_cases p : M s = f
      · have p2 : F s = f := h2.1.symm.trans p
        by_cases c : 0 ≤ i ∧ i < L s
        · obtain ⟨e1, a0, a1, a2, a3⟩ := x5 ok m p c
          obtain ⟨d1, d2⟩ := y5 ok n p2 (by omega)
          have hh := hc s i ok.1 ok.2.1 c.1 (by omega)
          refine ⟨?_, by omega⟩
          rcases (show s = 0 ∨ s = 1 ∨ s = 2 ∨ s = 3 by omega) with z0 | z0 | z0 | z0
          · rw [a0 z0, d2, ← hh, z0, rowX_0]
          · rw [a1 z0, d2, ← hh, z0, rowX_1]
          · rw [a2 z0, d2, ← hh, z0, rowX_2]
          · rw [a3 z0, d2, ← hh, z0, rowX_3]
        · have u := x4 ok m p c
          have v := y4 ok n p2 (by omega)
          omega
      · have u := x3 ok m p
        have v := y3 ok n (fun q => p (h2.1.trans q))
        omega
  · have u := x1 ok
    have v := y1 ok
    omega
theorem con_copy {z r s i t j n g G g' G' : Int} {L M r0 r1 r2 r3 q0 q1 q2 q3 I F N T T2 : Int → Int} (R : shR L M I F N) (hl : lenR L) (hc : conR r0 r1 r2 r3 T) (e : g = g') (x : P_cpX [z, s, i, t, j, n, g, G] [L, M, r0, r1, r2, r3, q0, q1, q2, q3]) (y : P_cpY [r, s, i, t, j, n, g', G'] [I, F, N, T, T2]) : conR q0 q1 q2 q3 T2 ∧ G = G' := by
  simp only [P_cpX] at x
  simp only [P_cpY] at y
  obtain ⟨x1, x2, x3, x4, x5⟩ := x
  obtain ⟨y1, y2, y3, y4, y5⟩ := y
  by_cases ok : 0 ≤ s ∧ s ≤ 3 ∧ 0 ≤ t ∧ t ≤ 3
  · have h := R s ok.1 ok.2.1
    have k := R t ok.2.2.1 ok.2.2.2
    have hL := hl s ok.1 ok.2.1
    have hL2 := hl t ok.2.2.1 ok.2.2.2
    by_cases m : M s = -1 ∨ M t = -1
    · obtain ⟨-, e1, a0, a1, a2, a3⟩ := x2 ok m
      obtain ⟨-, d1, d2⟩ := y2 ok (m.imp h.1.mp k.1.mp)
      subst a0 a1 a2 a3 d2
      exact ⟨hc, by omega⟩
    · have m1 : ¬ M s = -1 := fun q => m (Or.inl q)
      have m2 : ¬ M t = -1 := fun q => m (Or.inr q)
      have n1 : ¬ I s = 0 := fun q => m1 (h.1.mpr q)
      have n2 : ¬ I t = 0 := fun q => m2 (k.1.mpr q)
      have h2 := h.2 m1
      have k2 := k.2 m2
      by_cases p : M s = M t
      · have p2 : F s = F t := h2.1.symm.trans (p.trans k2.1)
        by_cases c : 0 ≤ i ∧ 0 ≤ j ∧ 0 ≤ n ∧ i + n ≤ L s ∧ j + n ≤ L t
        · have u := x5 ok m1 m2 p c
          obtain ⟨-, d1, d2⟩ := y5 ok n1 n2 p2 (by omega)
          refine ⟨?_, by have := u.2.1; omega⟩
          have ex : rowX t q0 q1 q2 q3 = cpyF (rowX s r0 r1 r2 r3) i (rowX t r0 r1 r2 r3) j n ∧ ∀ w, 0 ≤ w → w ≤ 3 → ¬ w = t → rowX w q0 q1 q2 q3 = rowX w r0 r1 r2 r3 := by
            obtain ⟨-, -, c1, c2, c3, c4, c5, c6, c7, c8, c9, c10, c11, c12, c13, c14, c15, c16⟩ := u
            rcases (show s = 0 ∨ s = 1 ∨ s = 2 ∨ s = 3 by omega) with z0 | z0 | z0 | z0 <;> rcases (show t = 0 ∨ t = 1 ∨ t = 2 ∨ t = 3 by omega) with w0 | w0 | w0 | w0
            · obtain ⟨b1, b2, b3, b4⟩ := c1 z0 w0
              subst z0 w0
              simp only [rowX_0, rowX_1, rowX_2, rowX_3]
              exact ⟨b1, fun w g1 g2 g3 => by rcases (show w = 0 ∨ w = 1 ∨ w = 2 ∨ w = 3 by omega) with v | v | v | v <;> subst v <;> simp only [rowX_0, rowX_1, rowX_2, rowX_3] <;> first | assumption | exact absurd rfl g3⟩
            · obtain ⟨b1, b2, b3, b4⟩ := c2 z0 w0
              subst z0 w0
              simp only [rowX_0, rowX_1, rowX_2, rowX_3]
              exact ⟨b1, fun w g1 g2 g3 => by rcases (show w = 0 ∨ w = 1 ∨ w = 2 ∨ w = 3 by omega) with v | v | v | v <;> subst v <;> simp only [rowX_0, rowX_1, rowX_2, rowX_3] <;> first | assumption | exact absurd rfl g3⟩
            · obtain ⟨b1, b2, b3, b4⟩ := c3 z0 w0
              subst z0 w0
              simp only [rowX_0, rowX_1, rowX_2, rowX_3]
              exact ⟨b1, fun w g1 g2 g3 => by rcases (show w = 0 ∨ w = 1 ∨ w = 2 ∨ w = 3 by omega) with v | v | v | v <;> subst v <;> simp only [rowX_0, rowX_1, rowX_2, rowX_3] <;> first | assumption | exact absurd rfl g3⟩
            · obtain ⟨b1, b2, b3, b4⟩ := c4 z0 w0
              subst z0 w0
              simp only [rowX_0, rowX_1, rowX_2, rowX_3]
              exact ⟨b1, fun w g1 g2 g3 => by rcases (show w = 0 ∨ w = 1 ∨ w = 2 ∨ w = 3 by omega) with v | v | v | v <;> subst v <;> simp only [rowX_0, rowX_1, rowX_2, rowX_3] <;> first | assumption | exact absurd rfl g3⟩
            · obtain ⟨b1, b2, b3, b4⟩ := c5 z0 w0
              subst z0 w0
              simp only [rowX_0, rowX_1, rowX_2, rowX_3]
              exact ⟨b1, fun w g1 g2 g3 => by rcases (show w = 0 ∨ w = 1 ∨ w = 2 ∨ w = 3 by omega) with v | v | v | v <;> subst v <;> simp only [rowX_0, rowX_1, rowX_2, rowX_3] <;> first | assumption | exact absurd rfl g3⟩
            · obtain ⟨b1, b2, b3, b4⟩ := c6 z0 w0
              subst z0 w0
              simp only [rowX_0, rowX_1, rowX_2, rowX_3]
              exact ⟨b1, fun w g1 g2 g3 => by rcases (show w = 0 ∨ w = 1 ∨ w = 2 ∨ w = 3 by omega) with v | v | v | v <;> subst v <;> simp only [rowX_0, rowX_1, rowX_2, rowX_3] <;> first | assumption | exact absurd rfl g3⟩
            · obtain ⟨b1, b2, b3, b4⟩ := c7 z0 w0
              subst z0 w0
              simp only [rowX_0, rowX_1, rowX_2, rowX_3]
              exact ⟨b1, fun w g1 g2 g3 => by rcases (show w = 0 ∨ w = 1 ∨ w = 2 ∨ w = 3 by omega) with v | v | v | v <;> subst v <;> simp only [rowX_0, rowX_1, rowX_2, rowX_3] <;> first | assumption | exact absurd rfl g3⟩
            · obtain ⟨b1, b2, b3, b4⟩ := c8 z0 w0
              subst z0 w0
              simp only [rowX_0, rowX_1, rowX_2, rowX_3]
              exact ⟨b1, fun w g1 g2 g3 => by rcases (show w = 0 ∨ w = 1 ∨ w = 2 ∨ w = 3 by omega) with v | v | v | v <;> subst v <;> simp only [rowX_0, rowX_1, rowX_2, rowX_3] <;> first | assumption | exact absurd rfl g3⟩
            · obtain ⟨b1, b2, b3, b4⟩ := c9 z0 w0
              subst z0 w0
              simp only [rowX_0, rowX_1, rowX_2, rowX_3]
              exact ⟨b1, fun w g1 g2 g3 => by rcases (show w = 0 ∨ w = 1 ∨ w = 2 ∨ w = 3 by omega) with v | v | v | v <;> subst v <;> simp only [rowX_0, rowX_1, rowX_2, rowX_3] <;> first | assumption | exact absurd rfl g3⟩
            · obtain ⟨b1, b2, b3, b4⟩ := c10 z0 w0
              subst z0 w0
              simp only [rowX_0, rowX_1, rowX_2, rowX_3]
              exact ⟨b1, fun w g1 g2 g3 => by rcases (show w = 0 ∨ w = 1 ∨ w = 2 ∨ w = 3 by omega) with v | v | v | v <;> subst v <;> simp only [rowX_0, rowX_1, rowX_2, rowX_3] <;> first | assumption | exact absurd rfl g3⟩
            · obtain ⟨b1, b2, b3, b4⟩ := c11 z0 w0
              subst z0 w0
              simp only [rowX_0, rowX_1, rowX_2, rowX_3]
              exact ⟨b1, fun w g1 g2 g3 => by rcases (show w = 0 ∨ w = 1 ∨ w = 2 ∨ w = 3 by omega) with v | v | v | v <;> subst v <;> simp only [rowX_0, rowX_1, rowX_2, rowX_3] <;> first | assumption | exact absurd rfl g3⟩
            · obtain ⟨b1, b2, b3, b4⟩ := c12 z0 w0
              subst z0 w0
              simp only [rowX_0, rowX_1, rowX_2, rowX_3]
              exact ⟨b1, fun w g1 g2 g3 => by rcases (show w = 0 ∨ w = 1 ∨ w = 2 ∨ w = 3 by omega) with v | v | v | v <;> subst v <;> simp only [rowX_0, rowX_1, rowX_2, rowX_3] <;> first | assumption | exact absurd rfl g3⟩
            · obtain ⟨b1, b2, b3, b4⟩ := c13 z0 w0
              subst z0 w0
              simp only [rowX_0, rowX_1, rowX_2, rowX_3]
              exact ⟨b1, fun w g1 g2 g3 => by rcases (show w = 0 ∨ w = 1 ∨ w = 2 ∨ w = 3 by omega) with v | v | v | v <;> subst v <;> simp only [rowX_0, rowX_1, rowX_2, rowX_3] <;> first | assumption | exact absurd rfl g3⟩
            · obtain ⟨b1, b2, b3, b4⟩ := c14 z0 w0
              subst z0 w0
              simp only [rowX_0, rowX_1, rowX_2, rowX_3]
              exact ⟨b1, fun w g1 g2 g3 => by rcases (show w = 0 ∨ w = 1 ∨ w = 2 ∨ w = 3 by omega) with v | v | v | v <;> subst v <;> simp only [rowX_0, rowX_1, rowX_2, rowX_3] <;> first | assumption | exact absurd rfl g3⟩
            · obtain ⟨b1, b2, b3, b4⟩ := c15 z0 w0
              subst z0 w0
              simp only [rowX_0, rowX_1, rowX_2, rowX_3]
              exact ⟨b1, fun w g1 g2 g3 => by rcases (show w = 0 ∨ w = 1 ∨ w = 2 ∨ w = 3 by omega) with v | v | v | v <;> subst v <;> simp only [rowX_0, rowX_1, rowX_2, rowX_3] <;> first | assumption | exact absurd rfl g3⟩
            · obtain ⟨b1, b2, b3, b4⟩ := c16 z0 w0
              subst z0 w0
              simp only [rowX_0, rowX_1, rowX_2, rowX_3]
              exact ⟨b1, fun w g1 g2 g3 => by rcases (show w = 0 ∨ w = 1 ∨ w = 2 ∨ w = 3 by omega) with v | v | v | v <;> subst v <;> simp only [rowX_0, rowX_1, rowX_2, rowX_3] <;> first | assumption | exact absurd rfl g3⟩
          intro w e0 w1 w2 v1 v2
          rw [d2, upF_at]
          by_cases q : w = t
          · subst q
            rw [ex.1]
            unfold cpyF
            by_cases c2 : j ≤ e0 ∧ e0 < j + n
            · rw [if_pos c2, if_pos (by omega), hc s (i + (e0 - j)) ok.1 ok.2.1 (by omega) (by omega)]
              show T (60 * s + (i + (e0 - j))) = T (60 * s + i + (60 * w + e0 - (60 * w + j)))
              congr 1
              omega
            · rw [if_neg c2, if_neg (by omega)]
              exact hc w e0 w1 w2 v1 v2
          · rw [ex.2 w w1 w2 q, if_neg (by omega)]
            exact hc w e0 w1 w2 v1 v2
        · obtain ⟨-, e1, a0, a1, a2, a3⟩ := x4 ok m1 m2 p c
          obtain ⟨-, d1, d2⟩ := y4 ok n1 n2 p2 (by omega)
          subst a0 a1 a2 a3 d2
          exact ⟨hc, by omega⟩
      · obtain ⟨-, e1, a0, a1, a2, a3⟩ := x3 ok m1 m2 p
        obtain ⟨-, d1, d2⟩ := y3 ok n1 n2 (fun q => p (by omega))
        subst a0 a1 a2 a3 d2
        exact ⟨hc, by omega⟩
  · obtain ⟨-, e1, a0, a1, a2, a3⟩ := x1 ok
    obtain ⟨-, d1, d2⟩ := y1 ok
    subst a0 a1 a2 a3 d2
    exact ⟨hc, by omega⟩
theorem ra_read {z r s i0 n N n' N' g G g' G' : Int} {L M r0 r1 r2 r3 D O D2 O2 I F Nn T D' O' D2' O2' : Int → Int} (R : shR L M I F Nn) (hl : lenR L) (hc : conR r0 r1 r2 r3 T) (K : kR n n' D O D' O') (e : g = g') (x : P_rdX [z, s, i0, n, N, g, G] [L, M, r0, r1, r2, r3, D, O, D2, O2]) (y : P_rdY [r, s, n', N', g', G'] [I, Nn, T, D', O', D2', O2']) : z = r ∧ kR N N' D2 O2 D2' O2' ∧ G = G' := by
  simp only [P_rdX] at x
  simp only [P_rdY] at y
  obtain ⟨x1, x2, x3⟩ := x
  obtain ⟨y1, y2, y3⟩ := y
  by_cases ok : 0 ≤ s ∧ s ≤ 3
  · have h := R s ok.1 ok.2
    have hL := hl s ok.1 ok.2
    by_cases m : M s = -1
    · obtain ⟨a1, a2, a3, a4, a5⟩ := x2 ok m
      obtain ⟨b1, b2, b3, b4, b5⟩ := y2 ok (h.1.mp m)
      subst a3 a4 a5 b3 b4 b5
      exact ⟨by omega, K, by omega⟩
    · have ni : ¬ I s = 0 := fun q => m (h.1.mpr q)
      have h2 := h.2 m
      obtain ⟨a1, a2⟩ := x3 ok m
      obtain ⟨b1, b2⟩ := y3 ok ni
      obtain ⟨en, K⟩ := K
      subst en
      rw [← h2.2] at b2
      have hR : ∀ i, 0 ≤ i → i < L s → rowX s r0 r1 r2 r3 i = (fun i => T (60 * s + i)) i := fun i i1 i2 => hc s i ok.1 ok.2 i1 (by omega)
      have ez := reE_eq a2 b2 hR
      subst ez
      obtain ⟨⟨c1, c2, c3, c4, c5⟩, -⟩ := a2
      obtain ⟨⟨d1, d2, d3, d4, d5⟩, -⟩ := b2
      refine ⟨rfl, ⟨by omega, fun i i1 i2 => ?_⟩, by omega⟩
      rw [c4, c5, d4, d5, upF_at, upF_at, upF_at, upF_at]
      by_cases q : n ≤ i ∧ i < n + (z.toNat : Int)
      · rw [if_pos q, if_pos q, if_pos q, if_pos q]
        obtain ⟨k1, k2, -⟩ := c3 (i - n) (by omega) (by omega)
        have u1 := hR (2 * (i - n)) (by omega) (by omega)
        have u2 := hR (2 * (i - n) + 1) (by omega) (by omega)
        unfold okK at k2
        exact ⟨u1.symm, u2.symm, k2.1, k2.2.1, k2.2.2.1, k2.2.2.2⟩
      · rw [if_neg q, if_neg q, if_neg q, if_neg q]
        exact K i i1 (by omega)
  · obtain ⟨a1, a2, a3, a4, a5⟩ := x1 ok
    obtain ⟨b1, b2, b3, b4, b5⟩ := y1 ok
    subst a3 a4 a5 b3 b4 b5
    exact ⟨by omega, K, by omega⟩
end RALL
/-! ===== the year of both, out of what they share ===== -/
section RAY
variable {ρ σ : Nat → Int} {α β : Nat → Int → Int}
theorem ra_ag (R : RA ρ σ α β) {n' m' : Int} {so' sz' wh' gr' md' du' KD KO : Int → Int} (h : toY n' m' (σ 4) (β 1) (β 2) so' sz' wh' gr' md' du' KD KO (β 9) (β 10)) : ρ 2 = n' ∧ ρ 3 = m' ∧ agE (ρ 2) (ρ 3) (α 7) (α 8) (α 10) (α 11) (α 12) (α 13) so' sz' wh' gr' md' du' ∧ agK (ρ 4) (α 15) (α 16) KD KO ∧ agT (ρ 5) (α 19) (α 20) (α 21) (β 11) (β 12) (β 13) ∧ agT (ρ 6) (α 23) (α 24) (α 25) (β 14) (β 15) (β 16) ∧ (0 ≤ ρ 2 ∧ ρ 2 ≤ 8) ∧ (0 ≤ ρ 3 ∧ ρ 3 ≤ 10) := by
  obtain ⟨⟨r1, r2, e1, e2, e3, e4⟩, -, -, -, hk, hl, ht, -, -⟩ := R
  simp only [P_ly] at r1
  simp only [P_XT] at r2
  obtain ⟨x1, x2, x3, x4⟩ := r2
  obtain ⟨⟨a, b, y1, y2⟩, hj⟩ := h
  obtain ⟨en, em, hE⟩ := ag_of (L := β 1) (by omega) (by omega) e1 e2 e3 e4 x1 x2 x3 x4 y1 y2
  refine ⟨en, em, hE, fun i h1 h2 => ?_, fun i h1 h2 => ?_, fun i h1 h2 => ?_, ?_, ?_⟩
  · have k := hk.2 i h1 h2
    have j := hj i h1 (by have := hk.1; omega)
    exact ⟨by rw [j.1]; exact k.1, by rw [j.2]; exact k.2.1, k.2.2.1, k.2.2.2.2.1⟩
  · obtain ⟨a1, a2, a3, a4, a5, a6, a7, a8, a9⟩ := hl.2 i h1 h2
    exact ⟨a1, a2, a3, a4, a6, a8, a9⟩
  · obtain ⟨a1, a2, a3, a4, a5, a6, a7, a8, a9⟩ := ht.2 i h1 h2
    exact ⟨a1, a2, a3, a4, a6, a8, a9⟩
  · by_cases w : wellP (ρ 0) (α 2)
    · have := x1.1 w
      omega
    · have := x1.2 w
      omega
  · by_cases w : wellV (ρ 1) (α 4)
    · have := x3.1 w
      omega
    · have := x3.2 w
      omega
theorem ra_year (R : RA ρ σ α β) {n' m' u h d : Int} {so' sz' wh' gr' md' du' KD KO C T S CA TA SA C' U' S' : Int → Int} (hd : 0 ≤ d ∧ d ≤ 23) (hx : yX (5 * (d + 1)) (ρ 2) (ρ 3) (ρ 4) (ρ 5) (ρ 6) u h (α 7) (α 8) (α 10) (α 11) (α 12) (α 13) (α 15) (α 16) (α 19) (α 20) (α 21) (α 23) (α 24) (α 25) C T S) (ht : toY n' m' (σ 4) (β 1) (β 2) so' sz' wh' gr' md' du' KD KO (β 9) (β 10)) (hy : yY n' m' (σ 4) (σ 5) (σ 6) u h so' sz' wh' gr' md' du' KD KO (β 11) (β 12) (β 13) (β 14) (β 15) (β 16) CA TA SA C' U' S') :
    n' = ρ 2 ∧ m' = ρ 3 ∧ (∀ k, 0 ≤ k → k < ρ 2 → sz' k = α 8 k) ∧ (∀ k, 0 ≤ k → k < ρ 2 → CA (8 * d + k) = C k ∧ TA (8 * d + k) = T k ∧ 0 ≤ C k) ∧ (∀ p, 0 ≤ p → p < ρ 3 → SA (12 * d + p) = S p) ∧ (d = 23 → (∀ k, 0 ≤ k → k < ρ 2 → C' k = C k ∧ U' k = T k) ∧ ∀ p, 0 ≤ p → p < ρ 3 → S' p = S p) := by
  obtain ⟨en, em, hE, hK, hL, hT, hn, hm⟩ := ra_ag R ht
  have e4 : ρ 4 = σ 4 := R.2.2.2.2.1.1
  have e5 : ρ 5 = σ 5 := R.2.2.2.2.2.1.1
  have e6 : ρ 6 = σ 6 := R.2.2.2.2.2.2.1.1
  rw [← en, ← em, ← e4, ← e5, ← e6] at hy
  exact ⟨en.symm, em.symm, fun k h1 h2 => (hE.1 k h1 h2).2.1, xy hE hK hL hT hn (by omega) hd hx hy⟩
end RAY
/-! ===== answers alike ===== -/
section RAQ
variable {ρ σ : Nat → Int} {α β : Nat → Int → Int} {z r n' m' : Int} {so' sz' wh' gr' md' du' KD KO C T S CA TA SA C' U' S' : Int → Int}
theorem ra_n (R : RA ρ σ α β) {n0 : Int} (h : nP n0 (β 1 0) (β 2)) : ρ 2 = n0 := by
  obtain ⟨⟨-, r2, e1, -, e3, -⟩, -⟩ := R
  simp only [P_XT] at r2
  exact nP_eq (L := β 1) r2.1 h e1 e3
theorem ra_m (R : RA ρ σ α β) {n0 : Int} (h : nV n0 (β 1 1) (sh (β 2))) : ρ 3 = n0 := by
  obtain ⟨⟨-, r2, -, e2, -, e4⟩, -⟩ := R
  simp only [P_XT] at r2
  exact nV_eq (L := β 1) r2.2.2.1 h e2 e4
theorem eq_coat {d k w : Int} (R : RA ρ σ α β) (x : P_ocX [z, d, k, w, ρ 2, ρ 3, ρ 4, ρ 5, ρ 6, 0, 0] [α 7, α 8, α 10, α 11, α 12, α 13, α 15, α 16, α 19, α 20, α 21, α 23, α 24, α 25, C, T, S]) (y : P_ocY [r, d, k, w, n', m', σ 4, σ 5, σ 6] [β 1, β 2, so', sz', wh', gr', md', du', KD, KO, β 9, β 10, β 11, β 12, β 13, β 14, β 15, β 16, CA, TA, SA, C', U', S']) : z = r := by
  simp only [P_ocX] at x
  simp only [P_ocY] at y
  obtain ⟨x1, x2⟩ := x
  obtain ⟨n0, hn, y1, y2⟩ := y
  have en := ra_n R hn
  subst en
  by_cases ok : 0 ≤ d ∧ d ≤ 23 ∧ 0 ≤ k ∧ k < ρ 2 ∧ 0 ≤ w ∧ w ≤ 2
  · obtain ⟨hx, c0, c1, c2, c3⟩ := x2 ok
    obtain ⟨-, ⟨ht, hy⟩, d0, d1, d2, d3⟩ := y2 ok
    obtain ⟨-, -, hs, hA, -, -⟩ := ra_year R ⟨ok.1, ok.2.1⟩ hx ht hy
    obtain ⟨a1, a2, -⟩ := hA k ok.2.2.1 ok.2.2.2.1
    have hz := hs k ok.2.2.1 ok.2.2.2.1
    rcases (show w = 0 ∨ w = 1 ∨ w = 2 by omega) with q | q | q
    · rw [c0 q, d0 q, a1]
    · unfold fitP at c1 c2
      rw [a1, hz] at d1 d2
      by_cases f : C k - α 8 k = 0 ∨ C k - α 8 k = 1
      · rw [c1 q f, d1 q f]
      · rw [c2 q f, d2 q f]
    · rw [c3 q, d3 q, a2]
  · rw [x1 ok, y1 ok]
theorem eq_stands {d k : Int} (R : RA ρ σ α β) (x : P_osX [z, d, k, ρ 2, ρ 3, ρ 4, ρ 5, ρ 6, 0, 0] [α 7, α 8, α 10, α 11, α 12, α 13, α 15, α 16, α 19, α 20, α 21, α 23, α 24, α 25, C, T, S]) (y : P_osY [r, d, k, n', m', σ 4, σ 5, σ 6] [β 1, β 2, so', sz', wh', gr', md', du', KD, KO, β 9, β 10, β 11, β 12, β 13, β 14, β 15, β 16, CA, TA, SA, C', U', S']) : z = r := by
  simp only [P_osX] at x
  simp only [P_osY] at y
  obtain ⟨x1, x2⟩ := x
  obtain ⟨n0, hn, y1, y2⟩ := y
  have en := ra_m R hn
  subst en
  by_cases ok : 0 ≤ d ∧ d ≤ 23 ∧ 0 ≤ k ∧ k < ρ 3
  · obtain ⟨hx, c0⟩ := x2 ok
    obtain ⟨-, ⟨ht, hy⟩, d0⟩ := y2 ok
    obtain ⟨-, -, -, -, hS, -⟩ := ra_year R ⟨ok.1, ok.2.1⟩ hx ht hy
    rw [c0, d0, hS k ok.2.2.1 ok.2.2.2]
  · rw [x1 ok, y1 ok]
theorem eq_neat {d : Int} (R : RA ρ σ α β) (x : P_onX [z, d, ρ 2, ρ 3, ρ 4, ρ 5, ρ 6, 0, 0] [α 7, α 8, α 10, α 11, α 12, α 13, α 15, α 16, α 19, α 20, α 21, α 23, α 24, α 25, C, T, S]) (y : P_onY [r, d, n', m', σ 4, σ 5, σ 6] [β 1, β 2, so', sz', wh', gr', md', du', KD, KO, β 9, β 10, β 11, β 12, β 13, β 14, β 15, β 16, CA, TA, SA, C', U', S']) : z = r := by
  simp only [P_onX] at x
  simp only [P_onY] at y
  by_cases ok : 0 ≤ d ∧ d ≤ 23
  · obtain ⟨hx, c0⟩ := x.2 ok
    obtain ⟨⟨ht, hy⟩, d0⟩ := y.2 ok
    obtain ⟨e, -, hs, hA, -, -⟩ := ra_year R ok hx ht hy
    rw [c0, d0, e]
    exact (bits_cg (fun k h1 h2 => ⟨(hA k h1 h2).1.symm, (hs k h1 h2).symm⟩)).1
  · rw [x.1 ok, y.1 ok]
theorem eq_naked {d : Int} (R : RA ρ σ α β) (x : P_okX [z, d, ρ 2, ρ 3, ρ 4, ρ 5, ρ 6, 0, 0] [α 7, α 8, α 10, α 11, α 12, α 13, α 15, α 16, α 19, α 20, α 21, α 23, α 24, α 25, C, T, S]) (y : P_okY [r, d, n', m', σ 4, σ 5, σ 6] [β 1, β 2, so', sz', wh', gr', md', du', KD, KO, β 9, β 10, β 11, β 12, β 13, β 14, β 15, β 16, CA, TA, SA, C', U', S']) : z = r := by
  simp only [P_okX] at x
  simp only [P_okY] at y
  by_cases ok : 0 ≤ d ∧ d ≤ 23
  · obtain ⟨hx, c0⟩ := x.2 ok
    obtain ⟨⟨ht, hy⟩, d0⟩ := y.2 ok
    obtain ⟨e, -, hs, hA, -, -⟩ := ra_year R ok hx ht hy
    rw [c0, d0, e]
    exact nkd_cg (fun k h1 h2 => (hA k h1 h2).1.symm)
  · rw [x.1 ok, y.1 ok]
theorem eq_longest {d : Int} (R : RA ρ σ α β) (x : P_olX [z, d, ρ 2, ρ 3, ρ 4, ρ 5, ρ 6, 0, 0] [α 7, α 8, α 10, α 11, α 12, α 13, α 15, α 16, α 19, α 20, α 21, α 23, α 24, α 25, C, T, S]) (y : P_olY [r, d, n', m', σ 4, σ 5, σ 6] [β 1, β 2, so', sz', wh', gr', md', du', KD, KO, β 9, β 10, β 11, β 12, β 13, β 14, β 15, β 16, CA, TA, SA, C', U', S']) : z = r := by
  simp only [P_olX] at x
  simp only [P_olY] at y
  by_cases ok : 0 ≤ d ∧ d ≤ 23
  · obtain ⟨hx, v, c0⟩ := x.2 ok
    obtain ⟨⟨ht, hy⟩, d0⟩ := y.2 ok
    obtain ⟨e, -, hs, hA, -, -⟩ := ra_year R ok hx ht hy
    obtain ⟨-, -, -, -, -, -, hn, -⟩ := ra_ag R ht
    rw [e] at d0
    exact lg_amx c0 d0 hn.1 (fun k h1 h2 => (hA k h1 h2).1.symm)
  · rw [x.1 ok, y.1 ok]
theorem eq_splits (R : RA ρ σ α β) (x : P_opX [z, ρ 2, ρ 3, ρ 4, ρ 5, ρ 6, 0, 0] [α 7, α 8, α 10, α 11, α 12, α 13, α 15, α 16, α 19, α 20, α 21, α 23, α 24, α 25, C, T, S]) (y : P_opY [r, n', m', σ 4, σ 5, σ 6] [β 1, β 2, so', sz', wh', gr', md', du', KD, KO, β 9, β 10, β 11, β 12, β 13, β 14, β 15, β 16, CA, TA, SA, C', U', S']) : z = r := by
  simp only [P_opX] at x
  simp only [P_opY] at y
  obtain ⟨hx, c0⟩ := x
  obtain ⟨⟨ht, hy⟩, d0⟩ := y
  obtain ⟨e, -, hs, -, -, hA⟩ := ra_year R (d := 23) (by omega) hx ht hy
  rw [c0, d0, e]
  exact rps_cg (fun k h1 h2 => (((hA rfl).1) k h1 h2).2.symm)
theorem eq_best (R : RA ρ σ α β) (x : P_obX [z, ρ 2, ρ 3, ρ 4, ρ 5, ρ 6, 0, 0] [α 7, α 8, α 10, α 11, α 12, α 13, α 15, α 16, α 19, α 20, α 21, α 23, α 24, α 25]) (y : P_obY [r, n', m', σ 4, σ 5, σ 6] [β 1, β 2, so', sz', wh', gr', md', du', KD, KO, β 9, β 10, β 11, β 12, β 13, β 14, β 15, β 16, CA, TA, SA, C', U', S']) : z = r := by
  simp only [P_obX] at x
  simp only [P_obY] at y
  obtain ⟨x1, x2⟩ := x
  obtain ⟨⟨ht, hy⟩, y1, y2⟩ := y
  obtain ⟨e, -, -, -, -, -, hn, -⟩ := ra_ag R ht
  by_cases q : ρ 2 = 0
  · rw [x1 q, y1 (by omega)]
  · obtain ⟨v, G, g1, g2⟩ := x2 (by omega)
    refine lg_amx g2 (y2 (by omega)) (by omega) (fun d h1 h2 => ?_)
    obtain ⟨C, T, S, hx, hv⟩ := g1 d h1 h2
    obtain ⟨-, -, hs, hA, -, -⟩ := ra_year R (d := d) (by omega) hx ht hy
    rw [hv, bc_bit hn.2, ← e]
    exact (bits_cg (fun k k1 k2 => ⟨(hA k k1 k2).1.symm, (hs k k1 k2).symm⟩)).2
theorem ra_write {k s g G g' G' : Int} {q0 q1 q2 q3 V2 : Int → Int} (R : RA ρ σ α β) (e : g = g') (x : P_owX [z, k, s, g, G, ρ 2, ρ 3, ρ 4, ρ 5, ρ 6, 0, 0] [α 7, α 8, α 10, α 11, α 12, α 13, α 15, α 16, α 19, α 20, α 21, α 23, α 24, α 25, α 45, α 46, α 41, α 42, α 43, α 44, q0, q1, q2, q3]) (y : P_owY [r, k, s, g', G', n', m', σ 4, σ 5, σ 6] [β 1, β 2, so', sz', wh', gr', md', du', KD, KO, β 9, β 10, β 11, β 12, β 13, β 14, β 15, β 16, CA, TA, SA, C', U', S', β 30, β 31, β 32, β 33, V2]) : z = r ∧ conR q0 q1 q2 q3 V2 ∧ G = G' := by
  have hc : conR (α 41) (α 42) (α 43) (α 44) (β 33) := R.2.2.2.1
  have hl : lenR (α 45) := R.2.2.1
  have hR : shR (α 45) (α 46) (β 30) (β 31) (β 32) := R.2.1
  simp only [P_owX] at x
  simp only [P_owY] at y
  obtain ⟨x1, x2, x3⟩ := x
  obtain ⟨n0, hn, y1, y2, y3⟩ := y
  have en := ra_n R hn
  subst en
  by_cases ok : 0 ≤ k ∧ k < ρ 2 ∧ 0 ≤ s ∧ s ≤ 3
  · have h := hR s ok.2.2.1 ok.2.2.2
    have hL := hl s ok.2.2.1 ok.2.2.2
    by_cases m : α 46 s = -1
    · obtain ⟨a1, a2, b0, b1, b2, b3⟩ := x2 ok m
      obtain ⟨c1, c2, c3⟩ := y2 ok (h.1.mp m)
      subst b0 b1 b2 b3 c3
      exact ⟨by omega, hc, by omega⟩
    · have ni : ¬ β 30 s = 0 := fun q => m (h.1.mpr q)
      have h2 := h.2 m
      obtain ⟨a1, a2, a3, w1, w2, w3⟩ := x3 ok m
      obtain ⟨-, ⟨ht, hy⟩, c1, c2, c3, c4⟩ := y3 ok ni
      have ez : z = r ∧ 0 ≤ z ∧ z ≤ 24 := by
        by_cases q : α 45 s ≤ 24
        · have u := a1 q
          have v := c1 (by omega)
          omega
        · have u := a2 (by omega)
          have v := c2 (by omega)
          omega
      obtain ⟨ez, ez1, ez2⟩ := ez
      subst ez
      refine ⟨rfl, fun t i t1 t2 i1 i2 => ?_, by omega⟩
      rw [c4, upF_at]
      by_cases q : t = s
      · subst q
        by_cases c : 0 ≤ i ∧ i < z
        · obtain ⟨C, T, S, hx, hv⟩ := w1 i c.1 c.2
          obtain ⟨-, -, -, hA, -, -⟩ := ra_year R (d := i) (by omega) hx ht hy
          rw [if_pos (by omega), hv, show 60 * t + i - 60 * t = i by omega, (hA k ok.1 ok.2.1).1, h2.1]
        · rw [if_neg (by omega), w2 i c]
          exact hc t i t1 t2 i1 i2
      · rw [if_neg (by omega), w3 t t1 t2 q]
        exact hc t i t1 t2 i1 i2
  · obtain ⟨a1, a2, b0, b1, b2, b3⟩ := x1 ok
    obtain ⟨c1, c2, c3⟩ := y1 ok
    subst b0 b1 b2 b3 c3
    exact ⟨by omega, hc, by omega⟩
theorem eq_count {w : Int} (R : RA ρ σ α β) (x : P_coX [z, w, ρ 2, ρ 3, ρ 0, ρ 1, ρ 4, ρ 5, ρ 6, ρ 7, ρ 13] []) (y : P_coY [r, w, σ 4, σ 5, σ 6, σ 7, σ 12] [β 1, β 2]) : z = r := by
  simp only [P_coX] at x
  simp only [P_coY] at y
  obtain ⟨x0, x1, x2, x3, x4, x5, x6, x7, x8, x9⟩ := x
  obtain ⟨y0, y1, y2, y3, y4, y5, y6, y7, y8, y9⟩ := y
  have e4 : ρ 4 = σ 4 := R.2.2.2.2.1.1
  have e5 : ρ 5 = σ 5 := R.2.2.2.2.2.1.1
  have e6 : ρ 6 = σ 6 := R.2.2.2.2.2.2.1.1
  have e7 : ρ 7 = σ 7 := R.2.2.2.2.2.2.2.1.1
  have e8 : ρ 13 = σ 12 := R.2.2.2.2.2.2.2.2
  have e0 : ρ 0 = β 1 0 := R.1.2.2.1
  have e1 : ρ 1 = β 1 1 := R.1.2.2.2.1
  by_cases ok : 0 ≤ w ∧ w ≤ 8
  · rcases (show w = 0 ∨ w = 1 ∨ w = 2 ∨ w = 3 ∨ w = 4 ∨ w = 5 ∨ w = 6 ∨ w = 7 ∨ w = 8 by omega) with q | q | q | q | q | q | q | q | q
    · rw [x0 q]; exact ra_n R (y0 q)
    · rw [x1 q]; exact ra_m R (y1 q)
    · rw [x2 q, y2 q, e0]
    · rw [x3 q, y3 q, e1]
    · rw [x4 q, y4 q, e4]
    · rw [x5 q, y5 q, e5]
    · rw [x6 q, y6 q, e6]
    · rw [x7 q, y7 q, e7]
    · rw [x8 q, y8 q, e8]
  · rw [x9 ok, y9 ok]
end RAQ
/-! ===== plans: answers alike ===== -/
section RAP
variable {ρ σ : Nat → Int} {α β : Nat → Int → Int} {z r n' m' : Int} {so' sz' wh' gr' md' du' KD KO : Int → Int}
theorem ra_rd (R : RA ρ σ α β) (h : ∃ a b, rdP a n' (β 1 0) (β 2) so' sz' ∧ rdV b m' (β 1 1) (sh (β 2)) wh' gr' md' du') : ρ 2 = n' ∧ ρ 3 = m' ∧ agE (ρ 2) (ρ 3) (α 7) (α 8) (α 10) (α 11) (α 12) (α 13) so' sz' wh' gr' md' du' ∧ agK (ρ 4) (α 15) (α 16) (β 9) (β 10) ∧ agT (ρ 5) (α 19) (α 20) (α 21) (β 11) (β 12) (β 13) ∧ agT (ρ 6) (α 23) (α 24) (α 25) (β 14) (β 15) (β 16) ∧ (0 ≤ ρ 2 ∧ ρ 2 ≤ 8) ∧ (0 ≤ ρ 3 ∧ ρ 3 ≤ 10) := ra_ag R (KD := β 9) (KO := β 10) ⟨h, fun j _ _ => ⟨rfl, rfl⟩⟩
/-- what was seen comes out alike -/
theorem sh_eq {n m nk nl nt u h ns v v' : Int} {so sz wh gr md du so2 sz2 wh2 gr2 md2 du2 kd ko kd2 ko2 ld lw lm ld2 lw2 lm2 td tw tm td2 tw2 tm2 sd sw sm sd2 sw2 sm2 : Int → Int} (hE : agE n m so sz wh gr md du so2 sz2 wh2 gr2 md2 du2) (hK : agK nk kd ko kd2 ko2) (hL : agT nl ld lw lm ld2 lw2 lm2) (hT : agT nt td tw tm td2 tw2 tm2) (hn : 0 ≤ n ∧ n ≤ 8) (hm : 0 ≤ m ∧ m ≤ 11) (hs : ∀ i, 0 ≤ i → i < ns → sd2 i = sd i ∧ sw2 i = sw i ∧ sm2 i = sm i ∧ 0 ≤ sd i ∧ sd i ≤ 23 ∧ 0 ≤ sw i) (x : shQ ns n m nk nl nt u h so sz wh gr md du kd ko ld lw lm td tw tm sd sw sm v) (y : shYQ ns n m nk nl nt u h so2 sz2 wh2 gr2 md2 du2 kd2 ko2 ld2 lw2 lm2 td2 tw2 tm2 sd2 sw2 sm2 v') : v = v' := by
  obtain ⟨CA, TA, SA, C', U', S', hy, ys⟩ := y
  rcases x with ⟨xv, x⟩ | ⟨xv, j, j1, j2, j3, j4, C, T, S, hx, hj⟩
  · rcases ys with ⟨yv, ys⟩ | ⟨yv, j, j1, j2, hj⟩
    · omega
    · exfalso
      obtain ⟨s1, s2, s3, s4, s5, s6⟩ := hs j j1 j2
      obtain ⟨C, T, S, hx, o1, o2, o3⟩ := x j j1 j2 s4 s5
      obtain ⟨hA, -, -⟩ := xy hE hK hL hT hn hm (d := sd j) ⟨s4, s5⟩ hx hy
      refine hj ⟨by omega, ?_⟩
      rw [s1, s2, s3, (hA (sw j) o1 o2).1]
      exact o3
  · rcases ys with ⟨yv, ys⟩ | ⟨yv, -⟩
    · exfalso
      obtain ⟨s1, s2, s3, s4, s5, s6⟩ := hs j j1 j2
      obtain ⟨o1, o2⟩ := ys j j1 j2
      obtain ⟨hA, -, -⟩ := xy hE hK hL hT hn hm (d := sd j) ⟨s4, s5⟩ hx hy
      rw [s1, s2, s3, (hA (sw j) s6 (by omega)).1] at o2
      exact hj ⟨s6, by omega, o2⟩
    · omega
theorem eq_never (R : RA ρ σ α β) (x : P_onvX [z, ρ 7, ρ 2, ρ 3, ρ 4, ρ 5, ρ 6] [α 7, α 8, α 10, α 11, α 12, α 13, α 15, α 16, α 19, α 20, α 21, α 23, α 24, α 25, α 32, α 33, α 34]) (y : P_onvY [r, σ 7, n', m', σ 4, σ 5, σ 6] [β 1, β 2, so', sz', wh', gr', md', du', KD, KO, β 9, β 10, β 11, β 12, β 13, β 14, β 15, β 16, β 26, β 27, β 28]) : z = r := by
  simp only [P_onvX] at x
  simp only [P_onvY] at y
  obtain ⟨ht, y⟩ := y
  obtain ⟨en, em, hE, hK, hL, hT, hn, hm⟩ := ra_ag R ht
  have e4 : ρ 4 = σ 4 := R.2.2.2.2.1.1
  have e5 : ρ 5 = σ 5 := R.2.2.2.2.2.1.1
  have e6 : ρ 6 = σ 6 := R.2.2.2.2.2.2.1.1
  obtain ⟨e7, hs⟩ := R.2.2.2.2.2.2.2.1
  rw [← en, ← em, ← e4, ← e5, ← e6, ← e7] at y
  exact obB_eq x y (fun j p q h1 h2 hp hq => sh_eq hE hK hL hT hn (by omega) (fun i i1 i2 => by
    obtain ⟨a1, a2, a3, a4, a5, a6, a7, a8, a9⟩ := hs i i1 i2
    exact ⟨a1, a2, a3, a4, a5, a6⟩) hp hq)
theorem ag_sz {n m k v : Int} {so sz wh gr md du so2 sz2 wh2 gr2 md2 du2 a b : Int → Int} (hE : agE n m so sz wh gr md du so2 sz2 wh2 gr2 md2 du2) (a1 : ∀ q, ¬ q = k → a q = sz q) (a2 : a k = v) (b1 : ∀ q, ¬ q = k → b q = sz2 q) (b2 : b k = v) (hv : 0 ≤ v ∧ v ≤ 9) : agE n m so a wh gr md du so2 b wh2 gr2 md2 du2 := ⟨fun i i1 i2 => by
  obtain ⟨e1, e2, e3, e4, e5, e6⟩ := hE.1 i i1 i2
  by_cases c : i = k
  · subst c
    exact ⟨e1, by omega, e3, e4, by omega, by omega⟩
  · exact ⟨e1, by rw [a1 i c, b1 i c]; exact e2, e3, e4, by rw [a1 i c]; exact e5, by rw [a1 i c]; exact e6⟩, hE.2⟩
theorem ag_so {n m k v : Int} {so sz wh gr md du so2 sz2 wh2 gr2 md2 du2 a b : Int → Int} (hE : agE n m so sz wh gr md du so2 sz2 wh2 gr2 md2 du2) (a1 : ∀ q, ¬ q = k → a q = so q) (a2 : a k = v) (b1 : ∀ q, ¬ q = k → b q = so2 q) (b2 : b k = v) (hv : 0 ≤ v ∧ v ≤ 2) : agE n m a sz wh gr md du b sz2 wh2 gr2 md2 du2 := ⟨fun i i1 i2 => by
  obtain ⟨e1, e2, e3, e4, e5, e6⟩ := hE.1 i i1 i2
  by_cases c : i = k
  · subst c
    exact ⟨by omega, e2, by omega, by omega, e5, e6⟩
  · exact ⟨by rw [a1 i c, b1 i c]; exact e1, e2, by rw [a1 i c]; exact e3, by rw [a1 i c]; exact e4, e5, e6⟩, hE.2⟩
end RAP
/-! ===== both objects, side by side; at first; steps of the law ===== -/
def INV (hx hy : AH) : Prop := ∃ ρ α σ β, SD bT (gX 999) ρ α hx ∧ SD bY gY2 σ β hy ∧ RA ρ σ α β
def okNC (B : BD) (n : AN) : Bool := okNB B n
def rCb (B : BD) (ρ : Nat → Int) (a : ACa) (x : AC) : Bool := match a, x with
  | .inl (ty, n, lo, hi), .inl (ty', xs) => decide (ty = ty') && (decide (xs.length = n) && xs.all (fun y => decide (lo ≤ y.toInt) && decide (y.toInt ≤ hi)))
  | .inr (.inl (ty, ns)), .inl (ty', xs) => decide (ty = ty') && zipB (fun n y => okNB B n && decide (y.toInt = den ρ n)) ns xs
  | .inr (.inr (.inl rs)), .inr (.inl qs) => decide (qs = rs)
  | .inr (.inr (.inr (ci, fa))), .inr (.inr (cj, fs)) => decide (cj = ci) && zipB (fun a v => isAny a || (match a, v with
    | .inl n, .int y => okNB B n && decide (y.toInt = den ρ n)
    | .inr (.inl r), .ref q => decide (q = r)
    | _, _ => false)) fa fs
  | _, _ => false
theorem rCb_ok {B : BD} {ρ : Nat → Int} {a : ACa} {x : AC} (h : rCb B ρ a x = true) : rC B ρ a x := by
  match a, x, h with
  | .inl (ty, n, lo, hi), .inl (ty', xs), h =>
    simp only [rCb, Bool.and_eq_true, decide_eq_true_eq] at h
    refine ⟨h.1, h.2.1, fun y hy => ?_⟩
    have := List.all_eq_true.mp h.2.2 y hy
    simpa using this
  | .inr (.inl (ty, ns)), .inl (ty', xs), h =>
    simp only [rCb, Bool.and_eq_true, decide_eq_true_eq] at h
    refine ⟨h.1, zipB_len h.2, fun i n hi => ?_⟩
    obtain ⟨y, g1, g2⟩ := zipB_at i h.2 hi
    simp only [Bool.and_eq_true, decide_eq_true_eq] at g2
    exact ⟨y, g1, okNB_ok g2.1, g2.2⟩
  | .inr (.inr (.inl rs)), .inr (.inl qs), h =>
    have h : decide (qs = rs) = true := h
    exact (of_decide_eq_true h : qs = rs)
  | .inr (.inr (.inr (ci, fa))), .inr (.inr (cj, fs)), h =>
    simp only [rCb, Bool.and_eq_true, decide_eq_true_eq] at h
    refine ⟨h.1, zipB_len h.2, fun i b hi => ?_⟩
    obtain ⟨v, g1, g2⟩ := zipB_at i h.2 hi
    refine ⟨v, g1, ?_⟩
    rw [Bool.or_eq_true] at g2
    rcases g2 with g2 | g2
    · exact Or.inl g2
    · right
      match b, v, g2 with
      | .inl n, .int y, g2 =>
        simp only [Bool.and_eq_true, decide_eq_true_eq] at g2
        exact ⟨okNB_ok g2.1, g2.2⟩
      | .inr (.inl r), .ref q, g2 =>
        have g2 : decide (q = r) = true := g2
        exact (of_decide_eq_true g2 : q = r)
theorem rH_by {B : BD} {ρ : Nat → Int} {ha : AHa} {hp : AH} (h : zipB (rCb B ρ) ha hp = true) (hq : pair hp) : rH B ρ ha hp := ⟨zipB_len h, fun k a hk => by
  obtain ⟨x, g1, g2⟩ := zipB_at k h hk
  exact ⟨x, g1, rCb_ok g2⟩, hq⟩
theorem okB0 {B : BD} (h : B.all (fun b => decide (b.1 ≤ 0) && decide (0 ≤ b.2)) = true) : okB B (fun _ => 0) := fun j b hj => by
  have := List.all_eq_true.mp h b (List.mem_of_getElem? hj)
  simpa using this
set_option maxRecDepth 1000000 in
theorem inv0x : zipB (rCb bT (fun _ => 0)) (gX 999) hX0 = true := by decide +kernel
set_option maxRecDepth 1000000 in
theorem inv0y : zipB (rCb bY (fun _ => 0)) gY2 hY0 = true := by decide +kernel
set_option maxRecDepth 1000000 in
theorem inv0l : P_ly [] [arF hY0 1] := by
  simp only [P_ly]
  decide +kernel
set_option maxRecDepth 1000000 in
theorem inv0s : P_XT [0, 0, 0, 0] [arF hX0 2, arF hX0 4, arF hX0 7, arF hX0 8, arF hX0 10, arF hX0 11, arF hX0 12, arF hX0 13] ∧ txR 0 0 (arF hX0 2) (arF hX0 4) (arF hY0 1) (arF hY0 2) := by
  have l0 : arF hY0 1 0 = 0 := by decide +kernel
  have l1 : arF hY0 1 1 = 0 := by decide +kernel
  refine ⟨?_, l0.symm, l1.symm, fun i h1 h2 => by rw [l0] at h2; omega, fun i h1 h2 => by rw [l1] at h2; omega⟩
  simp only [P_XT]
  exact ⟨⟨fun _ => rfl, fun _ => rfl⟩, tkP_z, ⟨fun _ => rfl, fun _ => rfl⟩, tkV_z⟩
set_option maxRecDepth 1000000 in
theorem inv0t : shR (arF hX0 45) (arF hX0 46) (arF hY0 30) (arF hY0 31) (arF hY0 32) := by
  intro s h1 h2
  rcases (show s = 0 ∨ s = 1 ∨ s = 2 ∨ s = 3 by omega) with q | q | q | q <;> subst q <;> decide +kernel
theorem all0 {f : Int → Int} {n : Nat} (h : (List.range n).all (fun i => decide (f (i : Int) = 0)) = true) {i : Int} (h1 : 0 ≤ i) (h2 : i < n) : f i = 0 := by
  have := of_decide_eq_true (List.all_eq_true.mp h i.toNat (List.mem_range.mpr (by omega)))
  rw [Int.toNat_of_nonneg h1] at this
  exact this
set_option maxRecDepth 1000000 in
theorem inv0c : (List.range 60).all (fun i => decide (arF hX0 41 (i : Int) = 0)) = true ∧ (List.range 60).all (fun i => decide (arF hX0 42 (i : Int) = 0)) = true ∧ (List.range 60).all (fun i => decide (arF hX0 43 (i : Int) = 0)) = true ∧ (List.range 60).all (fun i => decide (arF hX0 44 (i : Int) = 0)) = true ∧ (List.range 240).all (fun i => decide (arF hY0 33 (i : Int) = 0)) = true ∧ (List.range 4).all (fun i => decide (arF hX0 45 (i : Int) = 0)) = true := by decide +kernel
theorem inv0u : lenR (arF hX0 45) ∧ conR (arF hX0 41) (arF hX0 42) (arF hX0 43) (arF hX0 44) (arF hY0 33) := by
  obtain ⟨c1, c2, c3, c4, c5, c6⟩ := inv0c
  refine ⟨fun s h1 h2 => ?_, fun s i h1 h2 i1 i2 => ?_⟩
  · rw [all0 c6 h1 (by omega)]
    omega
  · rw [all0 c5 (i := 60 * s + i) (by omega) (by omega)]
    rcases (show s = 0 ∨ s = 1 ∨ s = 2 ∨ s = 3 by omega) with q | q | q | q <;> subst q
    · rw [rowX_0]; exact all0 c1 i1 i2
    · rw [rowX_1]; exact all0 c2 i1 i2
    · rw [rowX_2]; exact all0 c3 i1 i2
    · rw [rowX_3]; exact all0 c4 i1 i2
theorem inv0 : INV hX0 hY0 := ⟨fun _ => 0, arF hX0, fun _ => 0, arF hY0, ⟨okB0 (by decide), rH_by inv0x trivial, by have h := arF_ok hX0; rw [evXl] at h; exact h⟩, ⟨okB0 (by decide), rH_by inv0y trivial, by have h := arF_ok hY0; rw [evYl] at h; exact h⟩, ⟨inv0l, inv0s.1, inv0s.2⟩, inv0t, inv0u.1, inv0u.2, ⟨rfl, fun i h1 h2 => absurd (show i < 0 from h2) (by omega)⟩, ⟨rfl, fun i h1 h2 => absurd (show i < 0 from h2) (by omega)⟩, ⟨rfl, fun i h1 h2 => absurd (show i < 0 from h2) (by omega)⟩, ⟨rfl, fun i h1 h2 => absurd (show i < 0 from h2) (by omega)⟩, rfl⟩
def kndV (lg : Bool) (w : Value) : Prop := (lg = false → ∃ z, w = .int z) ∧ (lg = true → ∃ z, w = .long z)
theorem knd_int (z : Int32) : kndV false (.int z) := ⟨fun _ => ⟨z, rfl⟩, fun q => by cases q⟩
theorem knd_long (z : Int64) : kndV true (.long z) := ⟨fun q => (by cases q), fun _ => ⟨z, rfl⟩⟩
theorem knd_num {lg : Bool} {w : Value} (h : kndV lg w) : numB w = true := by
  cases lg with
  | false => obtain ⟨z, rfl⟩ := h.1 rfl; rfl
  | true => obtain ⟨z, rfl⟩ := h.2 rfl; rfl
theorem knd_cat {lg : Bool} {w : Value} (_ : kndV lg w) : ([w].map (fun v => v.category)).sum ≤ 8 := by rcases lv_cat w with h | h <;> simp [h]
section LWP
variable {b L : Nat} {xs : Nat → Int32} {cs ss pc : Nat} {i : Int32} {st : List Value} {aX aY : Nat} {hx hy : AH}
theorem LW_pop {w : Value} (hd : decode code pc = .ok (.pop, 1)) (hw : kndV false w) (k : LW b L xs cs ss (pc + 1) i st aX aY hx hy) : LW b L xs cs ss pc i (w :: st) aX aY hx hy := by
  intro p l e s m below meth c D cA adX adY H locs ls C0 hK hN lX lY eX eY pX pY dX dY dd hS hl
  obtain ⟨z, rfl⟩ := hw.1 rfl
  exact lv_pop C0.1 C0.2.1 hd rfl (k p l e s m below meth c D cA adX adY H locs ls C0 hK hN lX lY eX eY pX pY dX dY dd hS hl)
theorem LW_pop2 {w : Value} (hd : decode code pc = .ok (.pop2, 1)) (hw : kndV true w) (k : LW b L xs cs ss (pc + 1) i st aX aY hx hy) : LW b L xs cs ss pc i (w :: st) aX aY hx hy := by
  intro p l e s m below meth c D cA adX adY H locs ls C0 hK hN lX lY eX eY pX pY dX dY dd hS hl
  obtain ⟨z, rfl⟩ := hw.2 rfl
  exact lv_pop2_2 C0.1 C0.2.1 hd rfl (k p l e s m below meth c D cA adX adY H locs ls C0 hK hN lX lY eX eY pX pY dX dY dd hS hl)
theorem LW_goto {t : Nat} {off : Int} (hd : decode code pc = .ok (.goto off, 3)) (ht : ((pc : Nat) : Int) + off = (t : Int)) (k : LW b L xs cs ss t i st aX aY hx hy) : LW b L xs cs ss pc i st aX aY hx hy := by
  intro p l e s m below meth c D cA adX adY H locs ls C0 hK hN lX lY eX eY pX pY dX dY dd hS hl
  exact lv_goto C0.1 C0.2.1 hd ht (k p l e s m below meth c D cA adX adY H locs ls C0 hK hN lX lY eX eY pX pY dX dY dd hS hl)
end LWP
theorem arg_e (i n : Nat) : nI i + Int32.ofInt (n : Int) = nI (i + n) := by
  have e : Int32.ofInt (n : Int) = nI n := rfl
  rw [e, nI_add]
theorem arg_in {i n L : Nat} (h : i + n < L) (hL : L ≤ 3072) : vp_in (nI i + Int32.ofInt (n : Int)) L := by
  rw [arg_e]
  exact vp_in_iff.mpr (by rw [nI_toInt (by omega)]; omega)
theorem arg_q {i n L : Nat} (h : i + n < L) (hL : L ≤ 3072) : (nI i + Int32.ofInt (n : Int)).toNatClampNeg = i + n := by
  rw [arg_e, nI_clamp (by omega)]
