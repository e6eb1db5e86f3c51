/-! ===== both objects, side by side; at first; steps of the law ===== -/
def INV (hx hy : AH) : Prop := ∃ ρ α σ β, SD bT (gX 999) ρ α hx ∧ SD bY gY2 σ β hy ∧ RA ρ σ α β
def okNC (B : BD) (n : AN) : Bool := okNB B n
def rCb (B : BD) (ρ : Nat → Int) (a : ACa) (x : AC) : Bool := match a, x with
  | .inl (ty, n, lo, hi), .inl (ty', xs) => decide (ty = ty') && (decide (xs.length = n) && xs.all (fun y => decide (lo ≤ y.toInt) && decide (y.toInt ≤ hi)))
  | .inr (.inl (ty, ns)), .inl (ty', xs) => decide (ty = ty') && zipB (fun n y => okNB B n && decide (y.toInt = den ρ n)) ns xs
  | .inr (.inr (.inl rs)), .inr (.inl qs) => decide (qs = rs)
  | .inr (.inr (.inr (ci, fa))), .inr (.inr (cj, fs)) => decide (cj = ci) && zipB (fun a v => isAny a || (match a, v with
    | .inl n, .int y => okNB B n && decide (y.toInt = den ρ n)
    | .inr (.inl r), .ref q => decide (q = r)
    | _, _ => false)) fa fs
  | _, _ => false
theorem rCb_ok {B : BD} {ρ : Nat → Int} {a : ACa} {x : AC} (h : rCb B ρ a x = true) : rC B ρ a x := by
  match a, x, h with
  | .inl (ty, n, lo, hi), .inl (ty', xs), h =>
    simp only [rCb, Bool.and_eq_true, decide_eq_true_eq] at h
    refine ⟨h.1, h.2.1, fun y hy => ?_⟩
    have := List.all_eq_true.mp h.2.2 y hy
    simpa using this
  | .inr (.inl (ty, ns)), .inl (ty', xs), h =>
    simp only [rCb, Bool.and_eq_true, decide_eq_true_eq] at h
    refine ⟨h.1, zipB_len h.2, fun i n hi => ?_⟩
    obtain ⟨y, g1, g2⟩ := zipB_at i h.2 hi
    simp only [Bool.and_eq_true, decide_eq_true_eq] at g2
    exact ⟨y, g1, okNB_ok g2.1, g2.2⟩
  | .inr (.inr (.inl rs)), .inr (.inl qs), h =>
    have h : decide (qs = rs) = true := h
    exact (of_decide_eq_true h : qs = rs)
  | .inr (.inr (.inr (ci, fa))), .inr (.inr (cj, fs)), h =>
    simp only [rCb, Bool.and_eq_true, decide_eq_true_eq] at h
    refine ⟨h.1, zipB_len h.2, fun i b hi => ?_⟩
    obtain ⟨v, g1, g2⟩ := zipB_at i h.2 hi
    refine ⟨v, g1, ?_⟩
    rw [Bool.or_eq_true] at g2
    rcases g2 with g2 | g2
    · exact Or.inl g2
    · right
      match b, v, g2 with
      | .inl n, .int y, g2 =>
        simp only [Bool.and_eq_true, decide_eq_true_eq] at g2
        exact ⟨okNB_ok g2.1, g2.2⟩
      | .inr (.inl r), .ref q, g2 =>
        have g2 : decide (q = r) = true := g2
        exact (of_decide_eq_true g2 : q = r)
theorem rH_by {B : BD} {ρ : Nat → Int} {ha : AHa} {hp : AH} (h : zipB (rCb B ρ) ha hp = true) (hq : pair hp) : rH B ρ ha hp := ⟨zipB_len h, fun k a hk => by
  obtain ⟨x, g1, g2⟩ := zipB_at k h hk
  exact ⟨x, g1, rCb_ok g2⟩, hq⟩
theorem okB0 {B : BD} (h : B.all (fun b => decide (b.1 ≤ 0) && decide (0 ≤ b.2)) = true) : okB B (fun _ => 0) := fun j b hj => by
  have := List.all_eq_true.mp h b (List.mem_of_getElem? hj)
  simpa using this
set_option maxRecDepth 1000000 in
theorem inv0x : zipB (rCb bT (fun _ => 0)) (gX 999) hX0 = true := by decide +kernel
set_option maxRecDepth 1000000 in
theorem inv0y : zipB (rCb bY (fun _ => 0)) gY2 hY0 = true := by decide +kernel
set_option maxRecDepth 1000000 in
theorem inv0l : P_ly [] [arF hY0 1] := by
  simp only [P_ly]
  decide +kernel
set_option maxRecDepth 1000000 in
theorem inv0s : P_XT [0, 0, 0, 0] [arF hX0 2, arF hX0 4, arF hX0 7, arF hX0 8, arF hX0 10, arF hX0 11, arF hX0 12, arF hX0 13] ∧ txR 0 0 (arF hX0 2) (arF hX0 4) (arF hY0 1) (arF hY0 2) := by
  have l0 : arF hY0 1 0 = 0 := by decide +kernel
  have l1 : arF hY0 1 1 = 0 := by decide +kernel
  refine ⟨?_, l0.symm, l1.symm, fun i h1 h2 => by rw [l0] at h2; omega, fun i h1 h2 => by rw [l1] at h2; omega⟩
  simp only [P_XT]
  exact ⟨⟨fun _ => rfl, fun _ => rfl⟩, tkP_z, ⟨fun _ => rfl, fun _ => rfl⟩, tkV_z⟩
set_option maxRecDepth 1000000 in
theorem inv0t : shR (arF hX0 45) (arF hX0 46) (arF hY0 30) (arF hY0 31) (arF hY0 32) := by
  intro s h1 h2
  rcases (show s = 0 ∨ s = 1 ∨ s = 2 ∨ s = 3 by omega) with q | q | q | q <;> subst q <;> decide +kernel
theorem all0 {f : Int → Int} {n : Nat} (h : (List.range n).all (fun i => decide (f (i : Int) = 0)) = true) {i : Int} (h1 : 0 ≤ i) (h2 : i < n) : f i = 0 := by
  have := of_decide_eq_true (List.all_eq_true.mp h i.toNat (List.mem_range.mpr (by omega)))
  rw [Int.toNat_of_nonneg h1] at this
  exact this
set_option maxRecDepth 1000000 in
theorem inv0c : (List.range 60).all (fun i => decide (arF hX0 41 (i : Int) = 0)) = true ∧ (List.range 60).all (fun i => decide (arF hX0 42 (i : Int) = 0)) = true ∧ (List.range 60).all (fun i => decide (arF hX0 43 (i : Int) = 0)) = true ∧ (List.range 60).all (fun i => decide (arF hX0 44 (i : Int) = 0)) = true ∧ (List.range 240).all (fun i => decide (arF hY0 33 (i : Int) = 0)) = true ∧ (List.range 4).all (fun i => decide (arF hX0 45 (i : Int) = 0)) = true := by decide +kernel
theorem inv0u : lenR (arF hX0 45) ∧ conR (arF hX0 41) (arF hX0 42) (arF hX0 43) (arF hX0 44) (arF hY0 33) := by
  obtain ⟨c1, c2, c3, c4, c5, c6⟩ := inv0c
  refine ⟨fun s h1 h2 => ?_, fun s i h1 h2 i1 i2 => ?_⟩
  · rw [all0 c6 h1 (by omega)]
    omega
  · rw [all0 c5 (i := 60 * s + i) (by omega) (by omega)]
    rcases (show s = 0 ∨ s = 1 ∨ s = 2 ∨ s = 3 by omega) with q | q | q | q <;> subst q
    · rw [rowX_0]; exact all0 c1 i1 i2
    · rw [rowX_1]; exact all0 c2 i1 i2
    · rw [rowX_2]; exact all0 c3 i1 i2
    · rw [rowX_3]; exact all0 c4 i1 i2
theorem inv0 : INV hX0 hY0 := ⟨fun _ => 0, arF hX0, fun _ => 0, arF hY0, ⟨okB0 (by decide), rH_by inv0x trivial, by have h := arF_ok hX0; rw [evXl] at h; exact h⟩, ⟨okB0 (by decide), rH_by inv0y trivial, by have h := arF_ok hY0; rw [evYl] at h; exact h⟩, ⟨inv0l, inv0s.1, inv0s.2⟩, inv0t, inv0u.1, inv0u.2, ⟨rfl, fun i h1 h2 => absurd (show i < 0 from h2) (by omega)⟩, ⟨rfl, fun i h1 h2 => absurd (show i < 0 from h2) (by omega)⟩, ⟨rfl, fun i h1 h2 => absurd (show i < 0 from h2) (by omega)⟩, ⟨rfl, fun i h1 h2 => absurd (show i < 0 from h2) (by omega)⟩, rfl⟩
def kndV (lg : Bool) (w : Value) : Prop := (lg = false → ∃ z, w = .int z) ∧ (lg = true → ∃ z, w = .long z)
theorem knd_int (z : Int32) : kndV false (.int z) := ⟨fun _ => ⟨z, rfl⟩, fun q => by cases q⟩
theorem knd_long (z : Int64) : kndV true (.long z) := ⟨fun q => (by cases q), fun _ => ⟨z, rfl⟩⟩
theorem knd_num {lg : Bool} {w : Value} (h : kndV lg w) : numB w = true := by
  cases lg with
  | false => obtain ⟨z, rfl⟩ := h.1 rfl; rfl
  | true => obtain ⟨z, rfl⟩ := h.2 rfl; rfl
theorem knd_cat {lg : Bool} {w : Value} (_ : kndV lg w) : ([w].map (fun v => v.category)).sum ≤ 8 := by rcases lv_cat w with h | h <;> simp [h]
section LWP
variable {b L : Nat} {xs : Nat → Int32} {cs ss pc : Nat} {i : Int32} {st : List Value} {aX aY : Nat} {hx hy : AH}
theorem LW_pop {w : Value} (hd : decode code pc = .ok (.pop, 1)) (hw : kndV false w) (k : LW b L xs cs ss (pc + 1) i st aX aY hx hy) : LW b L xs cs ss pc i (w :: st) aX aY hx hy := by
  intro p l e s m below meth c D cA adX adY H locs ls C0 hK hN lX lY eX eY pX pY dX dY dd hS hl
  obtain ⟨z, rfl⟩ := hw.1 rfl
  exact lv_pop C0.1 C0.2.1 hd rfl (k p l e s m below meth c D cA adX adY H locs ls C0 hK hN lX lY eX eY pX pY dX dY dd hS hl)
theorem LW_pop2 {w : Value} (hd : decode code pc = .ok (.pop2, 1)) (hw : kndV true w) (k : LW b L xs cs ss (pc + 1) i st aX aY hx hy) : LW b L xs cs ss pc i (w :: st) aX aY hx hy := by
  intro p l e s m below meth c D cA adX adY H locs ls C0 hK hN lX lY eX eY pX pY dX dY dd hS hl
  obtain ⟨z, rfl⟩ := hw.2 rfl
  exact lv_pop2_2 C0.1 C0.2.1 hd rfl (k p l e s m below meth c D cA adX adY H locs ls C0 hK hN lX lY eX eY pX pY dX dY dd hS hl)
theorem LW_goto {t : Nat} {off : Int} (hd : decode code pc = .ok (.goto off, 3)) (ht : ((pc : Nat) : Int) + off = (t : Int)) (k : LW b L xs cs ss t i st aX aY hx hy) : LW b L xs cs ss pc i st aX aY hx hy := by
  intro p l e s m below meth c D cA adX adY H locs ls C0 hK hN lX lY eX eY pX pY dX dY dd hS hl
  exact lv_goto C0.1 C0.2.1 hd ht (k p l e s m below meth c D cA adX adY H locs ls C0 hK hN lX lY eX eY pX pY dX dY dd hS hl)
end LWP
theorem arg_e (i n : Nat) : nI i + Int32.ofInt (n : Int) = nI (i + n) := by
  have e : Int32.ofInt (n : Int) = nI n := rfl
  rw [e, nI_add]
theorem arg_in {i n L : Nat} (h : i + n < L) (hL : L ≤ 3072) : vp_in (nI i + Int32.ofInt (n : Int)) L := by
  rw [arg_e]
  exact vp_in_iff.mpr (by rw [nI_toInt (by omega)]; omega)
theorem arg_q {i n L : Nat} (h : i + n < L) (hL : L ≤ 3072) : (nI i + Int32.ofInt (n : Int)).toNatClampNeg = i + n := by
  rw [arg_e, nI_clamp (by omega)]
