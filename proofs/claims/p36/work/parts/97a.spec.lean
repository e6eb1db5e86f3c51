/-! ===== copies, keepings out of a sheet ===== -/
theorem cmpI_pos {a b : Int} : (0 < cmpI a b) = (b < a) := by
  unfold cmpI
  apply propext
  split
  · constructor <;> intro <;> omega
  · split <;> constructor <;> intro <;> omega
theorem cmpI_npos {a b : Int} : (cmpI a b ≤ 0) = (a ≤ b) := by
  unfold cmpI
  apply propext
  split
  · constructor <;> intro <;> omega
  · split <;> constructor <;> intro <;> omega
theorem mAdd_in {a b : Int} (h1 : -2147483648 ≤ a) (h2 : a ≤ 2147483647) (h3 : -2147483648 ≤ b) (h4 : b ≤ 2147483647) (h5 : -2147483648 ≤ a + b) (h6 : a + b ≤ 2147483647) : mAdd a b = a + b := by
  unfold mAdd
  have e : ∀ x : Int, -2147483648 ≤ x → x ≤ 2147483647 → (Int32.ofInt x).toInt = x := fun x q1 q2 => by
    rw [Int32.toInt_ofInt, show Int32.size = 4294967296 from rfl]
    exact Int.bmod_eq_of_le (by omega) (by omega)
  rw [toInt_add_in (by rw [e a h1 h2, e b h3 h4]; exact h5) (by rw [e a h1 h2, e b h3 h4]; exact h6), e a h1 h2, e b h3 h4]
theorem upF_cg {a : Int → Int} {b : Int} {f g : Int → Int} {n : Nat} (h : ∀ k : Int, 0 ≤ k → k < n → f k = g k) : upF a b f n = upF a b g n := by
  unfold upF
  exact foldI_cg n (fun i h1 h2 t => by rw [h i h1 h2])
def rowX (s : Int) (r0 r1 r2 r3 : Int → Int) : Int → Int := if s = 0 then r0 else if s = 1 then r1 else if s = 2 then r2 else r3
def okK (d k : Int) : Prop := 0 ≤ d ∧ d ≤ 23 ∧ 0 ≤ k ∧ k ≤ 9
/-- j keepings taken out of a row -/
def reI (j n0 n len : Int) (R D0 O0 D O : Int → Int) : Prop := 0 ≤ j ∧ n = n0 + j ∧ (∀ k, 0 ≤ k → k < j → 2 * k + 1 < len ∧ okK (R (2 * k)) (R (2 * k + 1)) ∧ n0 + k < 8) ∧ D = upF D0 n0 (fun k => R (2 * k)) j.toNat ∧ O = upF O0 n0 (fun k => R (2 * k + 1)) j.toNat
def reE (j n0 n len : Int) (R D0 O0 D O : Int → Int) : Prop := reI j n0 n len R D0 O0 D O ∧ ¬ (2 * j + 1 < len ∧ okK (R (2 * j)) (R (2 * j + 1)) ∧ n < 8)
theorem reI_z {n len : Int} {R D O : Int → Int} : reI 0 n n len R D O D O := ⟨by omega, by omega, fun k h1 h2 => by omega, rfl, rfl⟩
theorem reI_s {j n0 n len x y : Int} {R D0 O0 D O : Int → Int} (h : reI j n0 n len R D0 O0 D O) (h1 : 2 * j + 1 < len) (h2 : okK x y) (h3 : n < 8) (ex : x = R (2 * j)) (ey : y = R (2 * j + 1)) : reI (j + 1) n0 (n + 1) len R D0 O0 (updI D n x) (updI O n y) := by
  obtain ⟨i1, i2, i3, i4, i5⟩ := h
  refine ⟨by omega, by omega, fun k k1 k2 => ?_, ?_, ?_⟩
  · by_cases q : k = j
    · subst q
      rw [← ex, ← ey]
      exact ⟨h1, h2, by omega⟩
    · exact i3 k k1 (by omega)
  · rw [upF_s i1, ← i4, i2, ex]
  · rw [upF_s i1, ← i5, i2, ey]
/-- two rows alike give the same keepings -/
theorem reE_eq {j j' n0 n n' len : Int} {R R' D0 O0 D O D0' O0' D' O' : Int → Int} (h : reE j n0 n len R D0 O0 D O) (h' : reE j' n0 n' len R' D0' O0' D' O') (hR : ∀ i, 0 ≤ i → i < len → R i = R' i) : j = j' := by
  obtain ⟨⟨a1, a2, a3, -, -⟩, a4⟩ := h
  obtain ⟨⟨b1, b2, b3, -, -⟩, b4⟩ := h'
  by_cases q : j < j'
  · exfalso
    obtain ⟨c1, c2, c3⟩ := b3 j a1 q
    rw [← hR (2 * j) (by omega) (by omega), ← hR (2 * j + 1) (by omega) c1] at c2
    exact a4 ⟨c1, c2, by omega⟩
  · by_cases q2 : j' < j
    · exfalso
      obtain ⟨c1, c2, c3⟩ := a3 j' b1 q2
      rw [hR (2 * j') (by omega) (by omega), hR (2 * j' + 1) (by omega) c1] at c2
      exact b4 ⟨c1, c2, by omega⟩
    · omega
