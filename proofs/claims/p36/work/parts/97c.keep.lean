/-! ===== arrays that are alike below, or but at one place ===== -/
theorem al_up {n k v : Int} {A B : Int → Int} (hk : n ≤ k) (h : ∀ i, 0 ≤ i → i < n → A i = B i) : ∀ i, 0 ≤ i → i < n → updI A k v i = B i := fun i h1 h2 => by
  rw [updI_ne (by omega)]
  exact h i h1 h2
theorem al_tr {n : Int} {A B C : Int → Int} (h : ∀ i, 0 ≤ i → i < n → A i = B i) (k : ∀ i, 0 ≤ i → i < n → B i = C i) : ∀ i, 0 ≤ i → i < n → A i = C i := fun i h1 h2 => (h i h1 h2).trans (k i h1 h2)
theorem upd_bk {k : Int} {A B : Int → Int} (h : ∀ i, ¬ i = k → A i = B i) : updI A k (B k) = B := by
  funext i
  by_cases q : i = k
  · rw [q, updI_at]
  · rw [updI_ne q]
    exact h i q
theorem bu_up {k v : Int} {A B : Int → Int} (h : ∀ i, ¬ i = k → A i = B i) : ∀ i, ¬ i = k → updI A k v i = B i := fun i q => by
  rw [updI_ne q]
  exact h i q
