/-! ===== word, pure: what the contracts say, step by step ===== -/
def kpP (m k : Int) (ko wh : Int → Int) (i : Int) : Bool := decide ((0 ≤ ko i ∧ ko i < m) ∧ wh (ko i) = k)
theorem bitG_s {p : Int → Bool} {i : Int} (h : 0 ≤ i) : bitG p (i + 1).toNat = if p i = true then mOr (bitG p i.toNat) (mShl 1 i) else bitG p i.toNat := foldI_s h
theorem wtF_s {c t u i : Int} (h : 0 ≤ i) : wtF c t u (i + 1).toNat = if mAnd (mShr t i) 1 = 1 then wtF c t u i.toNat * (if mAnd (mShr u i) 1 = 1 then 16 - c else c) else wtF c t u i.toNat := foldI_s h
theorem wrF_s {c u i : Int} (h : 0 ≤ i) : wrF c u (i + 1).toNat = wrF c u i.toNat * (if mAnd (mShr u i) 1 = 1 then 16 - c else c) := foldI_s h
theorem smC_s {c t j : Int} {G : Int → Int} (h : 0 ≤ j) : smC c t G (j + 1).toNat = if mAnd j (mXor t (-1)) = 0 ∧ G j = 1 then smC c t G j.toNat + wtF c t j 8 else smC c t G j.toNat := foldI_s h
theorem smY_s {c j : Int} {nk : Nat} {G : Int → Int} (h : 0 ≤ j) : smY c nk G (j + 1).toNat = if G j = 1 then smY c nk G j.toNat + wrF c j nk else smY c nk G j.toNat := foldI_s h
theorem smC_up {c t j v : Int} {G : Int → Int} : smC c t (updI G j v) j.toNat = smC c t G j.toNat := foldI_cg _ (fun i h1 h2 s => by rw [updI_ne (show ¬ i = j by omega)])
theorem smY_up {c j v : Int} {nk : Nat} {G : Int → Int} : smY c nk (updI G j v) j.toNat = smY c nk G j.toNat := foldI_cg _ (fun i h1 h2 s => by rw [updI_ne (show ¬ i = j by omega)])
theorem smC_b {c t : Int} {G : Int → Int} (hc : 0 ≤ c ∧ c ≤ 16) : ∀ n : Nat, 0 ≤ smC c t G n ∧ smC c t G n ≤ (n : Int) * 4294967296
  | 0 => ⟨(by show (0 : Int) ≤ 0; decide), (by show (0 : Int) ≤ ((0 : Nat) : Int) * 4294967296; decide)⟩
  | n + 1 => by
    obtain ⟨i1, i2⟩ := smC_b (t := t) (G := G) hc n
    obtain ⟨w1, w2⟩ := wtF_8 (t := t) (u := (n : Int)) hc (Nat.le_refl 8)
    show 0 ≤ (if mAnd (n : Int) (mXor t (-1)) = 0 ∧ G (n : Int) = 1 then smC c t G n + wtF c t (n : Int) 8 else smC c t G n) ∧ (if mAnd (n : Int) (mXor t (-1)) = 0 ∧ G (n : Int) = 1 then smC c t G n + wtF c t (n : Int) 8 else smC c t G n) ≤ ((n + 1 : Nat) : Int) * 4294967296
    split
    · exact ⟨by omega, by omega⟩
    · exact ⟨by omega, by omega⟩
theorem wrF_b {c u : Int} (hc : 0 ≤ c ∧ c ≤ 16) : ∀ n : Nat, 0 ≤ wrF c u n ∧ wrF c u n ≤ 16 ^ n
  | 0 => ⟨(by show (0 : Int) ≤ 1; decide), (by show (1 : Int) ≤ 16 ^ 0; decide)⟩
  | n + 1 => by
    obtain ⟨i1, i2⟩ := wrF_b (c := c) (u := u) hc n
    have p : (0 : Int) ≤ 16 ^ n := Int.le_trans i1 i2
    have e : (16 : Int) ^ (n + 1) = 16 ^ n * 16 := Int.pow_succ _ _
    show 0 ≤ wrF c u n * (if mAnd (mShr u (n : Int)) 1 = 1 then 16 - c else c) ∧ wrF c u n * (if mAnd (mShr u (n : Int)) 1 = 1 then 16 - c else c) ≤ 16 ^ (n + 1)
    rw [e]
    have m : ∀ k : Int, 0 ≤ k → k ≤ 16 → 0 ≤ wrF c u n * k ∧ wrF c u n * k ≤ 16 ^ n * 16 := fun k k0 k1 => ⟨Int.mul_nonneg i1 k0, Int.mul_le_mul i2 k1 k0 p⟩
    split
    · exact m _ (by omega) (by omega)
    · exact m _ (by omega) (by omega)
theorem wrF_8 {c u : Int} (hc : 0 ≤ c ∧ c ≤ 16) {n : Nat} (h : n ≤ 8) : 0 ≤ wrF c u n ∧ wrF c u n ≤ 4294967296 := by
  obtain ⟨i1, i2⟩ := wrF_b (u := u) hc n
  refine ⟨i1, Int.le_trans i2 ?_⟩
  rcases (show n = 0 ∨ n = 1 ∨ n = 2 ∨ n = 3 ∨ n = 4 ∨ n = 5 ∨ n = 6 ∨ n = 7 ∨ n = 8 by omega) with q | q | q | q | q | q | q | q | q <;> subst q <;> decide
theorem smY_b {c : Int} {nk : Nat} {G : Int → Int} (hc : 0 ≤ c ∧ c ≤ 16) (hk : nk ≤ 8) : ∀ n : Nat, 0 ≤ smY c nk G n ∧ smY c nk G n ≤ (n : Int) * 4294967296
  | 0 => ⟨(by show (0 : Int) ≤ 0; decide), (by show (0 : Int) ≤ ((0 : Nat) : Int) * 4294967296; decide)⟩
  | n + 1 => by
    obtain ⟨i1, i2⟩ := smY_b (G := G) hc hk n
    obtain ⟨w1, w2⟩ := wrF_8 (u := (n : Int)) hc hk
    show 0 ≤ (if G (n : Int) = 1 then smY c nk G n + wrF c (n : Int) nk else smY c nk G n) ∧ (if G (n : Int) = 1 then smY c nk G n + wrF c (n : Int) nk else smY c nk G n) ≤ ((n + 1 : Nat) : Int) * 4294967296
    split
    · exact ⟨by omega, by omega⟩
    · exact ⟨by omega, by omega⟩
set_option maxRecDepth 100000 in
theorem bc8_t : (List.range 256).all (fun x => decide (0 ≤ bcF (x : Int)) && decide (bcF (x : Int) ≤ 8)) = true := by decide +kernel
theorem bc_8 {x : Int} (h : 0 ≤ x ∧ x ≤ 255) : 0 ≤ bcF x ∧ bcF x ≤ 8 := by
  have h1 := List.all_eq_true.mp bc8_t x.toNat (List.mem_range.mpr (by omega))
  rw [Bool.and_eq_true, decide_eq_true_eq, decide_eq_true_eq, Int.toNat_of_nonneg h.1] at h1
  exact h1
theorem bitG_255 {p : Int → Bool} {n : Int} (h : 0 ≤ n ∧ n ≤ 8) : 0 ≤ bitG p n.toNat ∧ bitG p n.toNat ≤ 255 := by
  obtain ⟨b, e, hb, -⟩ := bitG_tb (p := p) (n := n.toNat) (by omega)
  have h8 : 2 ^ n.toNat ≤ 2 ^ 8 := Nat.pow_le_pow_right (by decide) (by omega)
  rw [e]
  omega
/-- a day's coat fits, with some keepings left out -/
def fwX (d k n m nk nl nt : Int) (so sz wh gr md du kd ko ld lw lm td tw tm : Int → Int) (u v : Int) : Prop := ∃ C T S, yX (5 * (d + 1)) n m nk nl nt u 0 so sz wh gr md du kd ko ld lw lm td tw tm C T S ∧ ((v = 1 ∧ fitP C sz k) ∨ (v = 0 ∧ ¬ fitP C sz k))
def fwY (d k n m nk nl nt : Int) (so sz wh gr md du kd ko ld lw lm td tw tm : Int → Int) (u v : Int) : Prop := ∃ CA TA SA C U S, yY n m nk nl nt u 0 so sz wh gr md du kd ko ld lw lm td tw tm CA TA SA C U S ∧ ((v = 1 ∧ fitP (atD d CA) sz k) ∨ (v = 0 ∧ ¬ fitP (atD d CA) sz k))
theorem even_of {b : Int} {i m : Nat} (h : b * 2 ^ i = ((2 ^ m : Nat) : Int)) (h1 : 1 < b) (h0 : 0 ≤ b) : b / 2 * 2 = b := by
  obtain ⟨n, rfl⟩ := Int.eq_ofNat_of_zero_le h0
  have h2 : n * 2 ^ i = 2 ^ m := by
    have e : ((n * 2 ^ i : Nat) : Int) = ((2 ^ m : Nat) : Int) := by rw [← h, Int.natCast_mul, Int.natCast_pow]; rfl
    exact Int.ofNat.inj e
  by_cases q : n % 2 = 1
  · exfalso
    have g := odd_co q m
    have d : n ∣ 2 ^ m := ⟨2 ^ i, h2.symm⟩
    have := Nat.gcd_eq_left d
    omega
  · omega
set_option maxRecDepth 100000 in
theorem shl_t : (List.range 9).all (fun n => decide (mShl 1 (n : Int) = ((2 ^ n : Nat) : Int))) = true := by decide +kernel
theorem shl_n {n : Int} (h : 0 ≤ n ∧ n ≤ 8) : mShl 1 n = ((2 ^ n.toNat : Nat) : Int) := by
  have h1 := of_decide_eq_true (List.all_eq_true.mp shl_t n.toNat (List.mem_range.mpr (by omega)))
  rw [Int.toNat_of_nonneg h.1] at h1
  exact h1
theorem cmp_le {x : Int} (h : cmpI x 0 ≤ 0) : x ≤ 0 := by
  unfold cmpI at h
  split at h
  · omega
  · split at h <;> omega
theorem cmp_sp (x y : Int) : (cmpI x y = -1 ∧ x < y) ∨ (cmpI x y = 0 ∧ x = y) ∨ (cmpI x y = 1 ∧ y < x) := by
  unfold cmpI
  by_cases h1 : y < x
  · rw [if_pos h1]; omega
  · rw [if_neg h1]
    by_cases h2 : x = y
    · rw [if_pos h2]; omega
    · rw [if_neg h2]; omega
