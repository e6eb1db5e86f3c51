/-! ===== what both objects share: the texts ===== -/
def txR (p q : Int) (A V L T : Int → Int) : Prop := p = L 0 ∧ q = L 1 ∧ (∀ i, 0 ≤ i → i < L 0 → A i = T i) ∧ (∀ i, 0 ≤ i → i < L 1 → V i = sh T i)
def RT (ρ : Nat → Int) (α β : Nat → Int → Int) : Prop := P_ly [] [β 1] ∧ P_XN [ρ 2, ρ 3, ρ 0, ρ 1] [α 2, α 4] ∧ txR (ρ 0) (ρ 1) (α 2) (α 4) (β 1) (β 2)
section RTX
variable {ρ ρ' : Nat → Int} {α α' β β' : Nat → Int → Int} {T1 T2 : Prop}
theorem rlT (R : RT ρ α β) (x : ρ' 0 = ρ 0 ∧ ρ' 1 = ρ 1 ∧ ρ' 2 = ρ 2 ∧ ρ' 3 = ρ 3 ∧ α' 2 = α 2 ∧ α' 4 = α 4 ∧ T1) (y : β' 1 = β 1 ∧ β' 2 = β 2 ∧ T2) : RT ρ' α' β' := by
  unfold RT
  rw [x.1, x.2.1, x.2.2.1, x.2.2.2.1, x.2.2.2.2.1, x.2.2.2.2.2.1, y.1, y.2.1]
  exact R
theorem tx_type {z r t b p q P Q : Int} {A V A2 V2 L T L2 T2 : Int → Int} (hl : P_ly [] [L]) (R : txR p q A V L T) (x : P_tyX [z, t, b, p, q, P, Q] [A, V, A2, V2]) (y : P_tyY [r, t, b] [L, T, L2, T2]) : z = r ∧ P_ly [] [L2] ∧ txR P Q A2 V2 L2 T2 := by
  simp only [P_ly] at hl ⊢
  simp only [P_tyX] at x
  simp only [P_tyY] at y
  obtain ⟨x1, x2, x3, x4, x5⟩ := x
  obtain ⟨y1, y2, y3⟩ := y
  obtain ⟨e1, e2, e3, e4⟩ := R
  by_cases ok : 0 ≤ t ∧ t ≤ 1 ∧ 0 ≤ b ∧ b ≤ 255
  · rcases (show t = 0 ∨ t = 1 by omega) with w | w <;> subst w
    · by_cases full : L 0 = 23
      · obtain ⟨u1, u2, u3, u4, u5⟩ := x3 ok rfl (by omega)
        obtain ⟨v1, v2, v3⟩ := y3 ok (Or.inl ⟨rfl, full⟩)
        subst u2 u3 u4 u5 v2 v3
        exact ⟨by omega, hl, e1, e2, e3, e4⟩
      · obtain ⟨u1, u2, u3, u4, u5⟩ := x2 ok rfl (by omega)
        obtain ⟨v1, v2, v3⟩ := y2 ok (fun _ => full) (fun h => absurd rfl h)
        subst u2 u3 u4 u5 v2 v3
        have l0 : updI L 0 (L 0 + 1) 0 = L 0 + 1 := updI_at _ _ _
        have l1 : updI L 0 (L 0 + 1) 1 = L 1 := updI_ne (by omega)
        refine ⟨by omega, by rw [l0, l1]; omega, by rw [l0]; omega, by rw [l1]; exact e2, fun i h1 h2 => ?_, fun i h1 h2 => ?_⟩
        · rw [l0] at h2
          by_cases h : i = p
          · have h' : i = 49 * 0 + L 0 := by omega
            rw [h, updI_at, ← h, h', updI_at]
          · rw [updI_ne h, updI_ne (by omega)]
            exact e3 i h1 (by omega)
        · rw [l1] at h2
          rw [e4 i h1 h2]
          show T (i + 49) = updI T (49 * 0 + L 0) b (i + 49)
          rw [updI_ne (by omega)]
    · by_cases full : L 1 = 49
      · obtain ⟨u1, u2, u3, u4, u5⟩ := x5 ok rfl (by omega)
        obtain ⟨v1, v2, v3⟩ := y3 ok (Or.inr ⟨rfl, full⟩)
        subst u2 u3 u4 u5 v2 v3
        exact ⟨by omega, hl, e1, e2, e3, e4⟩
      · obtain ⟨u1, u2, u3, u4, u5⟩ := x4 ok rfl (by omega)
        obtain ⟨v1, v2, v3⟩ := y2 ok (fun h => by omega) (fun _ => full)
        subst u2 u3 u4 u5 v2 v3
        have l0 : updI L 1 (L 1 + 1) 0 = L 0 := updI_ne (by omega)
        have l1 : updI L 1 (L 1 + 1) 1 = L 1 + 1 := updI_at _ _ _
        refine ⟨by omega, by rw [l0, l1]; omega, by rw [l0]; exact e1, by rw [l1]; omega, fun i h1 h2 => ?_, fun i h1 h2 => ?_⟩
        · rw [l0] at h2
          rw [updI_ne (by omega)]
          exact e3 i h1 h2
        · rw [l1] at h2
          show updI V q b i = updI T (49 * 1 + L 1) b (i + 49)
          by_cases h : i = q
          · have h' : i + 49 = 49 * 1 + L 1 := by omega
            rw [h', updI_at, h, updI_at]
          · rw [updI_ne h, updI_ne (by omega)]
            exact e4 i h1 (by omega)
  · obtain ⟨u1, u2, u3, u4, u5⟩ := x1 ok
    obtain ⟨v1, v2, v3⟩ := y1 ok
    subst u2 u3 u4 u5 v2 v3
    exact ⟨by omega, hl, e1, e2, e3, e4⟩
theorem tx_wipe {z r t p q P Q : Int} {A V L T L2 : Int → Int} (hl : P_ly [] [L]) (R : txR p q A V L T) (x : P_wiX [z, t, p, q, P, Q] []) (y : P_wiY [r, t] [L, L2]) : z = r ∧ P_ly [] [L2] ∧ txR P Q A V L2 T := by
  simp only [P_ly] at hl ⊢
  simp only [P_wiX] at x
  simp only [P_wiY] at y
  obtain ⟨x1, x2, x3⟩ := x
  obtain ⟨y1, y2⟩ := y
  obtain ⟨e1, e2, e3, e4⟩ := R
  by_cases ok : 0 ≤ t ∧ t ≤ 1
  · obtain ⟨v1, v2⟩ := y1 ok
    rcases (show t = 0 ∨ t = 1 by omega) with w | w <;> subst w
    · obtain ⟨u1, u2, u3⟩ := x1 rfl
      subst u2 u3 v2
      have l0 : updI L 0 0 0 = 0 := updI_at _ _ _
      have l1 : updI L 0 0 1 = L 1 := updI_ne (by omega)
      refine ⟨by omega, by rw [l0, l1]; omega, by rw [l0], by rw [l1]; exact e2, fun i h1 h2 => by rw [l0] at h2; omega, fun i h1 h2 => by rw [l1] at h2; exact e4 i h1 h2⟩
    · obtain ⟨u1, u2, u3⟩ := x2 rfl
      subst u2 u3 v2
      have l0 : updI L 1 0 0 = L 0 := updI_ne (by omega)
      have l1 : updI L 1 0 1 = 0 := updI_at _ _ _
      refine ⟨by omega, by rw [l0, l1]; omega, by rw [l0]; exact e1, by rw [l1], fun i h1 h2 => by rw [l0] at h2; exact e3 i h1 h2, fun i h1 h2 => by rw [l1] at h2; omega⟩
  · obtain ⟨u1, u2, u3⟩ := x3 (by omega) (by omega)
    obtain ⟨v1, v2⟩ := y2 ok
    subst u2 u3 v2
    exact ⟨by omega, hl, e1, e2, e3, e4⟩
theorem tx_undo {z r t p q P Q : Int} {A V L T L2 : Int → Int} (hl : P_ly [] [L]) (R : txR p q A V L T) (x : P_unX [z, t, p, q, P, Q] []) (y : P_unY [r, t] [L, L2]) : z = r ∧ P_ly [] [L2] ∧ txR P Q A V L2 T := by
  simp only [P_ly] at hl ⊢
  simp only [P_unX] at x
  simp only [P_unY] at y
  obtain ⟨x1, x2, x3, x4, x5⟩ := x
  obtain ⟨y1, y2, y3⟩ := y
  obtain ⟨e1, e2, e3, e4⟩ := R
  by_cases ok : 0 ≤ t ∧ t ≤ 1
  · rcases (show t = 0 ∨ t = 1 by omega) with w | w <;> subst w
    · by_cases e : L 0 = 0
      · obtain ⟨u1, u2, u3⟩ := x2 rfl (by omega)
        obtain ⟨v1, v2⟩ := y2 ok e
        subst u2 u3 v2
        exact ⟨by omega, hl, e1, e2, e3, e4⟩
      · obtain ⟨u1, u2, u3⟩ := x1 rfl (by omega)
        obtain ⟨v1, v2⟩ := y1 ok e
        subst u2 u3 v2
        have l0 : updI L 0 (L 0 - 1) 0 = L 0 - 1 := updI_at _ _ _
        have l1 : updI L 0 (L 0 - 1) 1 = L 1 := updI_ne (by omega)
        refine ⟨by omega, by rw [l0, l1]; omega, by rw [l0]; omega, by rw [l1]; exact e2, fun i h1 h2 => by rw [l0] at h2; exact e3 i h1 (by omega), fun i h1 h2 => by rw [l1] at h2; exact e4 i h1 h2⟩
    · by_cases e : L 1 = 0
      · obtain ⟨u1, u2, u3⟩ := x4 rfl (by omega)
        obtain ⟨v1, v2⟩ := y2 ok e
        subst u2 u3 v2
        exact ⟨by omega, hl, e1, e2, e3, e4⟩
      · obtain ⟨u1, u2, u3⟩ := x3 rfl (by omega)
        obtain ⟨v1, v2⟩ := y1 ok e
        subst u2 u3 v2
        have l0 : updI L 1 (L 1 - 1) 0 = L 0 := updI_ne (by omega)
        have l1 : updI L 1 (L 1 - 1) 1 = L 1 - 1 := updI_at _ _ _
        refine ⟨by omega, by rw [l0, l1]; omega, by rw [l0]; exact e1, by rw [l1]; omega, fun i h1 h2 => by rw [l0] at h2; exact e3 i h1 h2, fun i h1 h2 => by rw [l1] at h2; exact e4 i h1 (by omega)⟩
  · obtain ⟨u1, u2, u3⟩ := x5 (by omega) (by omega)
    obtain ⟨v1, v2⟩ := y3 ok
    subst u2 u3 v2
    exact ⟨by omega, hl, e1, e2, e3, e4⟩
theorem allG_cg {g : Int → Int → Prop} {A T : Int → Int} {n m : Int} (c : ∀ i, 0 ≤ i → i < m → A i = T i) (h : n ≤ m) (a : allG g A n) : allG g T n := fun i h1 h2 => by
  rw [← c i h1 (by omega)]
  exact a i h1 h2
def ffG (g : Int → Int → Prop) (E : Prop) (r L : Int) (A : Int → Int) : Prop := (r = -1 ∧ allG g A L ∧ E) ∨ (0 ≤ r ∧ r < L ∧ allG g A r ∧ ¬ g r (A r)) ∨ (r = L ∧ allG g A L ∧ ¬ E)
theorem ffG_eq {g : Int → Int → Prop} {E : Prop} {r r' L : Int} {A T : Int → Int} (c : ∀ i, 0 ≤ i → i < L → A i = T i) (x : ffG g E r L A) (y : ffG g E r' L T) : r = r' := by
  rcases x with ⟨x1, x2, x3⟩ | ⟨x0, x1, x2, x3⟩ | ⟨x1, x2, x3⟩ <;> rcases y with ⟨y1, y2, y3⟩ | ⟨y0, y1, y2, y3⟩ | ⟨y1, y2, y3⟩
  · omega
  · exact absurd (by rw [← c r' y0 y1]; exact x2 r' y0 y1) y3
  · exact absurd x3 y3
  · exact absurd (by rw [c r x0 x1]; exact y2 r x0 x1) x3
  · rcases Int.lt_trichotomy r r' with h | h | h
    · exact absurd (by rw [c r x0 x1]; exact y2 r x0 h) x3
    · exact h
    · exact absurd (by rw [← c r' y0 y1]; exact x2 r' y0 h) y3
  · exact absurd (by rw [c r x0 x1]; exact y2 r x0 x1) x3
  · exact absurd y3 x3
  · exact absurd (by rw [← c r' y0 y1]; exact x2 r' y0 y1) y3
  · omega
theorem tx_fault {z r t p q : Int} {A V L T : Int → Int} (R : txR p q A V L T) (x : P_faX [z, t, p, q] [A, V]) (y : P_faY [r, t] [L, T]) : z = r := by
  simp only [P_faX] at x
  simp only [P_faY] at y
  obtain ⟨x1, x2, x3⟩ := x
  obtain ⟨y1, y2, y3⟩ := y
  obtain ⟨e1, e2, e3, e4⟩ := R
  by_cases t0 : t = 0
  · have h := x1 t0
    have k := y1 t0
    rw [e1] at h
    exact ffG_eq (g := gP) (E := L 0 = 0 ∨ L 0 % 3 = 2) e3 h k
  · by_cases t1 : t = 1
    · have h := x2 t1
      have k := y2 t1
      rw [e2] at h
      exact ffG_eq (g := gV) (E := L 1 = 0 ∨ L 1 % 5 = 4) e4 h k
    · rw [x3 t0 t1, y3 t0 t1]
end RTX
/-! ===== what both objects share: the sheets' forms and lengths ===== -/
def shR (L M I F N : Int → Int) : Prop := ∀ s, 0 ≤ s → s ≤ 3 → (M s = -1 ↔ I s = 0) ∧ (¬ M s = -1 → M s = F s ∧ L s = N s)
def RS (α β : Nat → Int → Int) : Prop := P_ly [] [β 1] ∧ shR (α 45) (α 46) (β 30) (β 31) (β 32)
section RSH
variable {α α' β β' : Nat → Int → Int} {T1 T2 : Prop}
theorem rlS (R : RS α β) (x : α' 45 = α 45 ∧ α' 46 = α 46 ∧ T1) (y : β' 1 = β 1 ∧ β' 30 = β 30 ∧ β' 31 = β 31 ∧ β' 32 = β 32 ∧ T2) : RS α' β' := by
  unfold RS
  rw [x.1, x.2.1, y.1, y.2.1, y.2.2.1, y.2.2.2.1]
  exact R
theorem rt (R : RS α β) (x : α' 45 = α 45 ∧ α' 46 = α 46 ∧ T1) (y : β' 30 = β 30 ∧ β' 31 = β 31 ∧ β' 32 = β 32 ∧ T2) (h : P_ly [] [β' 1]) : RS α' β' := by
  unfold RS
  rw [x.1, x.2.1, y.1, y.2.1, y.2.2.1]
  exact ⟨h, R.2⟩
theorem ly_ty {r t b : Int} {L T L2 T2 : Int → Int} (h : P_ly [] [L]) (f : P_tyY [r, t, b] [L, T, L2, T2]) : P_ly [] [L2] := by
  simp only [P_ly] at h ⊢
  simp only [P_tyY] at f
  obtain ⟨f1, f2, f3⟩ := f
  by_cases ok : 0 ≤ t ∧ t ≤ 1 ∧ 0 ≤ b ∧ b ≤ 255
  · rcases (show t = 0 ∨ t = 1 by omega) with q | q <;> subst q
    · by_cases full : L 0 = 23
      · rw [(f3 ok (Or.inl ⟨rfl, full⟩)).2.1]
        exact h
      · rw [(f2 ok (fun _ => full) (fun q => absurd rfl q)).2.1]
        simp only [updI, if_true]
        rw [if_neg (by omega)]
        omega
    · by_cases full : L 1 = 49
      · rw [(f3 ok (Or.inr ⟨rfl, full⟩)).2.1]
        exact h
      · rw [(f2 ok (fun q => by omega) (fun _ => full)).2.1]
        simp only [updI, if_true]
        rw [if_neg (by omega)]
        omega
  · rw [(f1 ok).2.1]
    exact h
theorem ly_wi {r t : Int} {L L2 : Int → Int} (h : P_ly [] [L]) (f : P_wiY [r, t] [L, L2]) : P_ly [] [L2] := by
  simp only [P_ly] at h ⊢
  simp only [P_wiY] at f
  obtain ⟨f1, f2⟩ := f
  by_cases ok : 0 ≤ t ∧ t ≤ 1
  · rw [(f1 ok).2]
    simp only [updI]
    rcases (show t = 0 ∨ t = 1 by omega) with q | q <;> subst q <;> simp <;> omega
  · rw [(f2 ok).2]
    exact h
theorem ly_un {r t : Int} {L L2 : Int → Int} (h : P_ly [] [L]) (f : P_unY [r, t] [L, L2]) : P_ly [] [L2] := by
  simp only [P_ly] at h ⊢
  simp only [P_unY] at f
  obtain ⟨f1, f2, f3⟩ := f
  by_cases ok : 0 ≤ t ∧ t ≤ 1
  · by_cases e : L t = 0
    · rw [(f2 ok e).2]
      exact h
    · rw [(f1 ok e).2]
      simp only [updI]
      rcases (show t = 0 ∨ t = 1 by omega) with q | q <;> subst q <;> simp <;> omega
  · rw [(f3 ok).2]
    exact h
theorem sh_lose {r r' s g G g' G' : Int} {L M M2 I F N I2 : Int → Int} (R : shR L M I F N) (x : P_loX [r, s, g, G] [L, M, M2]) (y : P_loY [r', s, g', G'] [I, N, I2]) : r = r' ∧ shR L M2 I2 F N := by
  simp only [P_loX] at x
  simp only [P_loY] at y
  obtain ⟨x1, x2, x3⟩ := x
  obtain ⟨y1, y2, y3⟩ := y
  by_cases ok : 0 ≤ s ∧ s ≤ 3
  · have h := R s ok.1 ok.2
    by_cases m : M s = -1
    · obtain ⟨e1, -, e2⟩ := x2 ok m
      obtain ⟨d1, -, d2⟩ := y2 ok (h.1.mp m)
      subst e2 d2
      exact ⟨by omega, R⟩
    · have n : ¬ I s = 0 := fun q => m (h.1.mpr q)
      obtain ⟨e1, -, e2⟩ := x3 ok m
      obtain ⟨d1, -, d2⟩ := y3 ok n
      have h2 := h.2 m
      refine ⟨by omega, fun k k1 k2 => ?_⟩
      rw [e2, d2]
      by_cases q : k = s
      · subst q
        rw [updI_at, updI_at]
        exact ⟨⟨fun _ => rfl, fun _ => rfl⟩, fun q => absurd rfl q⟩
      · rw [updI_ne q, updI_ne q]
        exact R k k1 k2
  · obtain ⟨e1, -, e2⟩ := x1 ok
    obtain ⟨d1, -, d2⟩ := y1 ok
    subst e2 d2
    exact ⟨by omega, R⟩
theorem sh_sheet {r r' s f n g G g' G' : Int} {L M r0 r1 r2 r3 L2 M2 q0 q1 q2 q3 I F N T I2 F2 N2 T2 : Int → Int} (R : shR L M I F N) (x : P_shX [r, s, f, n, g, G] [L, M, r0, r1, r2, r3, L2, M2, q0, q1, q2, q3]) (y : P_shY [r', s, f, n, g', G'] [I, F, N, T, I2, F2, N2, T2]) : r = r' ∧ shR L2 M2 I2 F2 N2 := by
  simp only [P_shX] at x
  simp only [P_shY] at y
  obtain ⟨x1, x2, x3⟩ := x
  obtain ⟨y1, y2, y3⟩ := y
  by_cases ok : (0 ≤ s ∧ s ≤ 3 ∧ 0 ≤ f ∧ f ≤ 2) ∧ n ≤ 60
  · have ok2 : 0 ≤ s ∧ s ≤ 3 ∧ 0 ≤ f ∧ f ≤ 2 ∧ n ≤ 60 := by omega
    by_cases m : n < 0
    · obtain ⟨e1, -, e2, e3, -⟩ := x2 ok2 m
      obtain ⟨d1, -, d2, d3, d4, -⟩ := y2 ok2 m
      subst e2 e3 d2 d3 d4
      exact ⟨by omega, R⟩
    · obtain ⟨e1, -, e2, e3, -⟩ := x3 ok2 (by omega)
      obtain ⟨d1, -, d2, d3, d4, -⟩ := y3 ok2 (by omega)
      refine ⟨by omega, fun k k1 k2 => ?_⟩
      rw [e2, e3, d2, d3, d4]
      by_cases q : k = s
      · subst q
        rw [updI_at, updI_at, updI_at, updI_at, updI_at]
        exact ⟨⟨fun q => by omega, fun q => by omega⟩, fun _ => ⟨rfl, rfl⟩⟩
      · rw [updI_ne q, updI_ne q, updI_ne q, updI_ne q, updI_ne q]
        exact R k k1 k2
  · have no : ¬ (0 ≤ s ∧ s ≤ 3 ∧ 0 ≤ f ∧ f ≤ 2 ∧ n ≤ 60) := by omega
    obtain ⟨e1, -, e2, e3, -⟩ := x1 no
    obtain ⟨d1, -, d2, d3, d4, -⟩ := y1 no
    subst e2 e3 d2 d3 d4
    exact ⟨by omega, R⟩
theorem sh_put {r r' s f i v g G g' G' : Int} {L M r0 r1 r2 r3 q0 q1 q2 q3 I F N T T2 : Int → Int} (R : shR L M I F N) (x : P_puX [r, s, f, i, v, g, G] [L, M, r0, r1, r2, r3, q0, q1, q2, q3]) (y : P_puY [r', s, f, i, v, g', G'] [I, F, N, T, T2]) : r = r' := by
  simp only [P_puX] at x
  simp only [P_puY] at y
  obtain ⟨x1, x2, x3, x4, x5⟩ := x
  obtain ⟨y1, y2, y3, y4, y5⟩ := y
  by_cases ok : 0 ≤ s ∧ s ≤ 3 ∧ 0 ≤ f ∧ f ≤ 2
  · have h := R s ok.1 ok.2.1
    by_cases m : M s = -1
    · have e := (x2 ok m).1
      have d := (y2 ok (h.1.mp m)).1
      omega
    · have n : ¬ I s = 0 := fun q => m (h.1.mpr q)
      have h2 := h.2 m
      by_cases p : M s = f
      · have p2 : F s = f := h2.1.symm.trans p
        by_cases c : 0 ≤ i ∧ i < L s
        · have e := (x5 ok m p c).1
          have d := (y5 ok n p2 (by omega)).1
          omega
        · have e := (x4 ok m p c).1
          have d := (y4 ok n p2 (by omega)).1
          omega
      · have e := (x3 ok m p).1
        have d := (y3 ok n (fun q => p (h2.1.trans q))).1
        omega
  · have e := (x1 ok).1
    have d := (y1 ok).1
    omega
theorem sh_copy {r r' s i t j n g G g' G' : Int} {L M r0 r1 r2 r3 q0 q1 q2 q3 I F N T T2 : Int → Int} (R : shR L M I F N) (x : P_cpX [r, s, i, t, j, n, g, G] [L, M, r0, r1, r2, r3, q0, q1, q2, q3]) (y : P_cpY [r', s, i, t, j, n, g', G'] [I, F, N, T, T2]) : r = r' := by
  simp only [P_cpX] at x
  simp only [P_cpY] at y
  obtain ⟨x1, x2, x3, x4, x5⟩ := x
  obtain ⟨y1, y2, y3, y4, y5⟩ := y
  by_cases ok : 0 ≤ s ∧ s ≤ 3 ∧ 0 ≤ t ∧ t ≤ 3
  · have h := R s ok.1 ok.2.1
    have k := R t ok.2.2.1 ok.2.2.2
    by_cases m : M s = -1 ∨ M t = -1
    · have e := (x2 ok m).1
      have d := (y2 ok (m.imp h.1.mp k.1.mp)).1
      omega
    · have m1 : ¬ M s = -1 := fun q => m (Or.inl q)
      have m2 : ¬ M t = -1 := fun q => m (Or.inr q)
      have n1 : ¬ I s = 0 := fun q => m1 (h.1.mpr q)
      have n2 : ¬ I t = 0 := fun q => m2 (k.1.mpr q)
      have h2 := h.2 m1
      have k2 := k.2 m2
      by_cases p : M s = M t
      · have p2 : F s = F t := h2.1.symm.trans (p.trans k2.1)
        by_cases c : 0 ≤ i ∧ 0 ≤ j ∧ 0 ≤ n ∧ i + n ≤ L s ∧ j + n ≤ L t
        · have e := (x5 ok m1 m2 p c).1
          have d := (y5 ok n1 n2 p2 (by omega)).1
          omega
        · have e := (x4 ok m1 m2 p c).1
          have d := (y4 ok n1 n2 p2 (by omega)).1
          omega
      · have e := (x3 ok m1 m2 p).1
        have d := (y3 ok n1 n2 (fun q => p (by omega))).1
        omega
  · have e := (x1 ok).1
    have d := (y1 ok).1
    omega
end RSH
/-! ===== what both objects share: the texts, and the sheets' forms and lengths ===== -/
def RB (ρ : Nat → Int) (α β : Nat → Int → Int) : Prop := RT ρ α β ∧ shR (α 45) (α 46) (β 30) (β 31) (β 32)
theorem nP_eq {n m p : Int} {A L T : Int → Int} (x : nP n p A) (y : nP m (L 0) T) (e : p = L 0) (c : ∀ i, 0 ≤ i → i < L 0 → A i = T i) : n = m := by
  subst e
  by_cases w : wellP (L 0) A
  · have w' : wellP (L 0) T := ⟨allG_cg c (Int.le_refl _) w.1, w.2⟩
    rw [x.1 w, y.1 w']
  · have w' : ¬ wellP (L 0) T := fun h => w ⟨allG_cg (fun i h1 h2 => (c i h1 h2).symm) (Int.le_refl _) h.1, h.2⟩
    rw [x.2 w, y.2 w']
theorem tx_write {ρ : Nat → Int} {α β : Nat → Int → Int} {z r k s : Int} (R : RT ρ α β) (S : shR (α 45) (α 46) (β 30) (β 31) (β 32)) (x : P_wrX [z, k, s, ρ 2] [α 45, α 46]) (y : P_wrY [r, k, s] [β 1, β 2, β 30, β 32]) : z = r := by
  obtain ⟨-, hn, e1, -, e3, -⟩ := R
  simp only [P_XN] at hn
  simp only [P_wrX] at x
  simp only [P_wrY] at y
  obtain ⟨n, y0, y1, y2, y3, y4⟩ := y
  obtain ⟨x1, x2, x3, x4⟩ := x
  have en : ρ 2 = n := nP_eq (L := β 1) hn.1 y0 e1 e3
  subst en
  by_cases ok : 0 ≤ k ∧ k < ρ 2 ∧ 0 ≤ s ∧ s ≤ 3
  · have h := S s ok.2.2.1 ok.2.2.2
    by_cases m : α 46 s = -1
    · rw [x2 ok m, y2 ok (h.1.mp m)]
    · have ni : ¬ β 30 s = 0 := fun q => m (h.1.mpr q)
      have h2 := (h.2 m).2
      by_cases c : α 45 s ≤ 24
      · rw [x3 ok m c, y3 ok ni (by omega)]
        exact h2
      · rw [x4 ok m (by omega), y4 ok ni (by omega)]
  · rw [x1 ok, y1 ok]
