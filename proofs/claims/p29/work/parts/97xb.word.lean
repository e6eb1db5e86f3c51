/-! ===== word, pure: both ways of summing ===== -/
set_option maxRecDepth 100000 in
theorem tbn_t : (List.range 256).all (fun s => (List.range 8).all (fun i => s.testBit i || (List.range 8).all (fun j => Nat.beq i j || ((s + 2 ^ i).testBit j == s.testBit j)))) = true := by decide +kernel
theorem tb_ne {s i j : Nat} (hs : s < 256) (hi : i < 8) (hj : j < 8) (h : s.testBit i = false) (e : ¬ i = j) : (s + 2 ^ i).testBit j = s.testBit j := by
  have h1 := List.all_eq_true.mp (List.all_eq_true.mp tbn_t s (List.mem_range.mpr hs)) i (List.mem_range.mpr hi)
  simp only [h, Bool.false_or] at h1
  have h2 := List.all_eq_true.mp h1 j (List.mem_range.mpr hj)
  simp only [Bool.or_eq_true] at h2
  rcases h2 with q | q
  · exact absurd (Nat.eq_of_beq_eq_true q) e
  · exact eq_of_beq q
set_option maxRecDepth 100000 in
theorem or_t : (List.range 8).all (fun n => (List.range (2 ^ n)).all (fun b => decide (mOr (b : Int) (mShl 1 (n : Int)) = ((b + 2 ^ n : Nat) : Int)))) = true := by decide +kernel
theorem or_n {n b : Nat} (hn : n < 8) (hb : b < 2 ^ n) : mOr (b : Int) (mShl 1 (n : Int)) = ((b + 2 ^ n : Nat) : Int) := by
  have h1 := List.all_eq_true.mp or_t n (List.mem_range.mpr hn)
  exact of_decide_eq_true (List.all_eq_true.mp h1 b (List.mem_range.mpr hb))
/-- the bits of what was gathered -/
theorem bitG_tb {p : Int → Bool} : ∀ {n : Nat}, n ≤ 8 → ∃ b : Nat, bitG p n = (b : Int) ∧ b < 2 ^ n ∧ ∀ i, b.testBit i = (decide (i < n) && p (i : Int))
  | 0, _ => ⟨0, rfl, by decide, fun i => by simp⟩
  | n + 1, h => by
    obtain ⟨b, e, hb, ht⟩ := bitG_tb (p := p) (n := n) (by omega)
    have e2 : 2 ^ (n + 1) = 2 ^ n + 2 ^ n := by rw [Nat.pow_succ]; omega
    have e1 : bitG p (n + 1) = if p (n : Int) = true then mOr (bitG p n) (mShl 1 (n : Int)) else bitG p n := rfl
    by_cases q : p (n : Int) = true
    · refine ⟨b + 2 ^ n, by rw [e1, if_pos q, e, or_n (by omega) hb], by omega, fun i => ?_⟩
      rw [Nat.add_comm b (2 ^ n)]
      rcases Nat.lt_trichotomy i n with c | c | c
      · rw [tb_hi c, ht i]
        simp [c, show i < n + 1 by omega]
      · subst c
        rw [tb_n hb, q]
        simp
      · rw [Nat.testBit_lt_two_pow (Nat.lt_of_lt_of_le (show 2 ^ n + b < 2 ^ (n + 1) by omega) (Nat.pow_le_pow_right (by decide) (show n + 1 ≤ i by omega)))]
        simp [show ¬ i < n + 1 by omega]
    · refine ⟨b, by rw [e1, if_neg q, e], by omega, fun i => ?_⟩
      rw [ht i]
      by_cases c : i = n
      · subst c
        simp [q]
      · by_cases d : i < n
        · simp [d, show i < n + 1 by omega]
        · simp [d, show ¬ i < n + 1 by omega]
theorem cnt_off {p : Int → Bool} {t : Nat → Bool} : ∀ {n : Nat}, (∀ i, i < n → t i = p (i : Int)) → cntG p n + (offN t n : Int) = n
  | 0, _ => rfl
  | n + 1, h => by
    have ih := cnt_off (p := p) (t := t) (n := n) (fun i hi => h i (by omega))
    have e1 : cntG p (n + 1) = if p (n : Int) = true then cntG p n + 1 else cntG p n := rfl
    have e2 : offN t (n + 1) = offN t n + (if t n = true then 0 else 1) := rfl
    rw [e1, e2, h n (by omega)]
    by_cases q : p (n : Int) = true
    · rw [if_pos q, if_pos q]; omega
    · rw [if_neg q, if_neg q]; omega
/-- what the class sums, what the reference sums -/
def smC (c T : Int) (G : Int → Int) : Nat → Int := foldI (fun j s => if mAnd j (mXor T (-1)) = 0 ∧ G j = 1 then s + wtF c T j 8 else s) 0
def wrF (c u : Int) : Nat → Int := foldI (fun i b => b * (if mAnd (mShr u i) 1 = 1 then 16 - c else c)) 1
def smY (c : Int) (nk : Nat) (G : Int → Int) : Nat → Int := foldI (fun j s => if G j = 1 then s + wrF c j nk else s) 0
theorem wrF_wP {c u : Int} (hu : 0 ≤ u ∧ u < 256) : ∀ {n : Nat}, n ≤ 8 → wrF c u n = wP c allT u.toNat n
  | 0, _ => rfl
  | n + 1, h => by
    have ih := wrF_wP (c := c) hu (n := n) (by omega)
    show wrF c u n * (if mAnd (mShr u (n : Int)) 1 = 1 then 16 - c else c) = wP c allT u.toNat n * (if allT n = true then (if u.toNat.testBit n = true then 16 - c else c) else 1)
    have e2 := bt_1 (i := (n : Int)) hu (by omega)
    rw [Int.toNat_natCast] at e2
    rw [ih, if_pos (show allT n = true from rfl)]
    by_cases b : u.toNat.testBit n = true
    · rw [if_pos (e2.mpr b), if_pos b]
    · rw [if_neg (fun w => b (e2.mp w)), if_neg b]
theorem smC_sN {c T : Int} {G : Int → Int} {f : Nat → Int} (hT : 0 ≤ T ∧ T < 256) (hf : ∀ j : Nat, j < 256 → mAnd (j : Int) (mXor T (-1)) = 0 → f j = if G (j : Int) = 1 then 1 else 0) : ∀ {n : Nat}, n ≤ 256 → smC c T G n = smN (fun s => if sbT (fun i => T.toNat.testBit i) s 8 = true then f s * wP c (fun i => T.toNat.testBit i) s 8 else 0) n
  | 0, _ => rfl
  | n + 1, h => by
    have ih := smC_sN (c := c) hT hf (n := n) (by omega)
    have hu : 0 ≤ (n : Int) ∧ (n : Int) < 256 := by omega
    have a0 := an_sub hu hT
    rw [Int.toNat_natCast] at a0
    have a : mAnd (n : Int) (mXor T (-1)) = 0 ↔ sbT (fun i => T.toNat.testBit i) n 8 = true := a0.trans (sub_iff (t := fun i => T.toNat.testBit i) (n := 8)).symm
    show (if mAnd (n : Int) (mXor T (-1)) = 0 ∧ G (n : Int) = 1 then smC c T G n + wtF c T (n : Int) 8 else smC c T G n) = smN _ n + (if sbT (fun i => T.toNat.testBit i) n 8 = true then f n * wP c (fun i => T.toNat.testBit i) n 8 else 0)
    rw [ih, wtF_wP hT hu (Nat.le_refl 8), Int.toNat_natCast]
    by_cases q : mAnd (n : Int) (mXor T (-1)) = 0
    · rw [if_pos (a.mp q), hf n (by omega) q]
      by_cases g : G (n : Int) = 1
      · rw [if_pos ⟨q, g⟩, if_pos g, Int.one_mul]
      · rw [if_neg (fun w => g w.2), if_neg g, Int.zero_mul, Int.add_zero]
    · rw [if_neg (fun w => q w.1), if_neg (fun w => q (a.mpr w)), Int.add_zero]
theorem smY_sN {c : Int} {nk : Nat} {G : Int → Int} {f : Nat → Int} (hk : nk ≤ 8) (hf : ∀ j : Nat, j < 2 ^ nk → f j = (if G (j : Int) = 1 then 1 else 0) ∨ wrF c (j : Int) nk = 0) : ∀ {n : Nat}, n ≤ 2 ^ nk → smY c nk G n = smN (fun s => if sbT allT s nk = true then f s * wP c allT s nk else 0) n
  | 0, _ => rfl
  | n + 1, h => by
    have ih := smY_sN (c := c) hk hf (n := n) (by omega)
    have h8 : 2 ^ nk ≤ 2 ^ 8 := Nat.pow_le_pow_right (by decide) hk
    have hu : 0 ≤ (n : Int) ∧ (n : Int) < 256 := by omega
    show (if G (n : Int) = 1 then smY c nk G n + wrF c (n : Int) nk else smY c nk G n) = smN _ n + (if sbT allT n nk = true then f n * wP c allT n nk else 0)
    have ew := wrF_wP (c := c) hu hk
    rw [Int.toNat_natCast] at ew
    rw [ih, if_pos sub_all, ← ew]
    rcases hf n (by omega) with q | q
    · rw [q]
      by_cases g : G (n : Int) = 1
      · rw [if_pos g, if_pos g, Int.one_mul]
      · rw [if_neg g, if_neg g, Int.zero_mul, Int.add_zero]
    · rw [q, Int.mul_zero, Int.add_zero]
      split <;> rfl
/-- the reference's sum is sixteen times the class's for each keeping of other people -/
theorem sm_eq {c T : Int} {p : Int → Bool} {nk : Nat} {G H : Int → Int} {f : Nat → Int} (hk : nk ≤ 8) (hT : T = bitG p nk) (h1 : ∀ j : Nat, j < 256 → mAnd (j : Int) (mXor T (-1)) = 0 → f j = if G (j : Int) = 1 then 1 else 0) (h2 : ∀ j : Nat, j < 2 ^ nk → f j = (if H (j : Int) = 1 then 1 else 0) ∨ wrF c (j : Int) nk = 0)
    (hi : ∀ i, i < nk → p (i : Int) = false → ∀ s, s + 2 ^ i < 2 ^ nk → s.testBit i = false → f (s + 2 ^ i) = f s) : ∃ o : Nat, cntG p nk + (o : Int) = nk ∧ smY c nk H (2 ^ nk) = 16 ^ o * smC c T G 256 := by
  obtain ⟨b, e, hb, ht⟩ := bitG_tb (p := p) hk
  have eT : T = (b : Int) := hT.trans e
  have h8 : 2 ^ nk ≤ 2 ^ 8 := Nat.pow_le_pow_right (by decide) hk
  have hT2 : 0 ≤ T ∧ T < 256 := by omega
  have tt : ∀ i, i < nk → T.toNat.testBit i = p (i : Int) := fun i hi => by
    rw [eT, Int.toNat_natCast, ht i]; simp [hi]
  refine ⟨offN (fun i => T.toNat.testBit i) nk, cnt_off tt, ?_⟩
  rw [smY_sN hk h2 (Nat.le_refl _), lin_C, smC_sN hT2 h1 (Nat.le_refl _), show (256 : Nat) = 2 ^ 8 from rfl, lin_C]
  rw [sC_off (t := fun i => T.toNat.testBit i) (fun i hin hf s => hi i hin (by rw [← tt i hin]; exact hf) s)]
  have ex : (8 : Nat) = nk + (8 - nk) := by omega
  rw [ex, sC_ext (fun i h1 _ => by
    show T.toNat.testBit i = false
    rw [eT, Int.toNat_natCast, ht i]
    simp [show ¬ i < nk by omega])]
