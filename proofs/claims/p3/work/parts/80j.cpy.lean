/-! ===== from any place of a method on, to its heads ===== -/
theorem from_pc {O : ORA} (hO : oraOk O) {k d f p : Nat} {M : MT} (hM : mtL[k]? = some M) (H : List HD) (K : KT) (r : Nat → Int) (Q : Option Value → AH → Prop) (hlen : ∀ q ∈ H, p ≤ q.2.1.length) (hmu : ∀ q ∈ H, q.2.2.2.2.all (wgtB q.2.1) = true)
    (hai : ∀ q ∈ H, ai O f true (hcut H p q) d k q.1 q.2.1 q.2.2.1 [] q.2.2.2.1 K = true) (hQ : ∀ q ∈ H, ∀ ρ : Nat → Int, (∀ j, j < p → ρ j = r j) → aiEnd K q.2.1 ρ Q)
    {pc0 : Nat} {B0 : BD} {la : List (Option AVa)} {ha : AHa} (hp0 : p ≤ B0.length) (hent : ai O f true (hcut0 H p) d k pc0 B0 la [] ha K = true)
    {ρ : Nat → Int} {lv : List (Option Value)} {hp : AH} (hB : okB B0 ρ) (hr : ∀ j, j < p → ρ j = r j) (hL : rL B0 ρ la lv) (hH : rH B0 ρ ha hp) (hQ0 : aiEnd K B0 ρ Q) : J M d 0 0 Q pc0 lv [] hp 0 0 := by
  refine ai_ok hO f true (hcut0 H p) d k pc0 B0 la [] ha K hent M hM ρ _ [] hp Q hB hL trivial hH hQ0 ?_
  intro pc chk hc B' ρ' la' lv' ha' hp' h1 hB' he hL' hH'
  unfold hcut0 at hc
  split at hc
  · cases hc
    obtain ⟨q, hm, h1⟩ := List.any_eq_true.mp h1
    simp only [Bool.and_eq_true, beq_iff_eq] at h1
    obtain ⟨hpc, i1, i2⟩ := h1
    obtain ⟨o1, o2, o3⟩ := inT_ok hB' hL' hH' i1
    rw [← hpc]
    refine loops hO hM H K r Q hlen hmu hai hQ ((mu (ρt (sgp p (sgm q.2.2.1 la' q.2.2.2.1 ha')) ρ') q.2.2.2.2).toNat + 1) q hm _ lv' hp' ?_ o1 (fun j hj => ?_) o2 o3
    · have := mu_lt o1 (hmu q hm)
      omega
    · have h6 := of_decide_eq_true (List.all_eq_true.mp i2 j (List.mem_range.mpr hj))
      unfold ρt
      rw [h6]
      show ρ' j + 0 = r j
      rw [Int.add_zero, he.2 j (Nat.lt_of_lt_of_le hj hp0), hr j hj]
  · cases hc
/-! ===== copy of the reference, by hand: it compares as longs ===== -/
def f32 : Int × Int := ((-2147483648), 2147483647)
def n31 : Int × Int := (0, 2147483647)
/-- the object of cell 0, its slot sl now under a name -/
def fa0 (ha : AHa) (sl j : Nat) : ACa := match (ha[(0 : Nat)]? : Option ACa) with
  | some (.inr (.inr (.inr (ci, fa)))) => .inr (.inr (.inr (ci, fa.set sl (.inl (some j, 0)))))
  | _ => .inl (.int, 0, 0, 0)
def cCpy : CTR := (192, 2, bY ++ [f32, f32, f32, f32, f32], [.inr (.inl 0), .inl (some 13, 0), .inl (some 14, 0), .inl (some 15, 0), .inl (some 16, 0), .inl (some 17, 0)], gY, [(bY ++ [f32, f32, f32, f32, f32, ((-15), 1), (0, 5)], some (.inl (some 18, 0)), gY.set 0 (fa0 gY 44 19))])
def laC : List (Option AVa) := [some (.inr (.inl 0)), some (.inl (some 13, 0)), some (.inl (some 14, 0)), some (.inl (some 15, 0)), some (.inl (some 16, 0)), some (.inl (some 17, 0)), none]
def laD : List (Option AVa) := [some (.inr (.inl 0)), some (.inl (some 13, 0)), some (.inl (some 14, 0)), some (.inl (some 15, 0)), some (.inl (some 16, 0)), some (.inl (some 17, 0)), some (.inl (some 18, 0))]
def cpT : HD := (76, bY ++ [(0, 3), n31, (0, 3), n31, n31], laC, gY, [])
def cpN (c : Nat) : BD := bY ++ [(0, 3), (0, 60 - (c : Int)), (0, 3), (0, 60 - (c : Int)), ((c : Int), (c : Int))]
def cpH (c : Nat) : List HD := [(120, cpN c ++ [(0, (c : Int))], laD, gY, [(true, (none, 1)), (true, (some 18, 0))]), (157, cpN c ++ [(0, (c : Int))], laD, gY, [(true, (none, 2)), (true, (some 18, 0))])]
def cpC (c : Nat) : Bool := (cpH c).all (fun q => decide (18 ≤ q.2.1.length) && (q.2.2.2.2.all (wgtB q.2.1) && ai noORA 60 true (hcut (cpH c) 18 q) 2 192 q.1 q.2.1 q.2.2.1 [] q.2.2.2.1 (kC cCpy))) && ai noORA 60 true (hcut0 (cpH c) 18) 2 192 117 (cpN c) laC [] gY (kC cCpy)
set_option maxRecDepth 1000000 in
theorem cp_all1 : (List.range 31).all cpC = true := by decide +kernel
set_option maxRecDepth 1000000 in
theorem cp_all2 : (List.range 30).all (fun c => cpC (31 + c)) = true := by decide +kernel
theorem cp_at {c : Nat} (h : c < 61) : cpC c = true := by
  by_cases h1 : c < 31
  · exact List.all_eq_true.mp cp_all1 c (List.mem_range.mpr h1)
  · have := List.all_eq_true.mp cp_all2 (c - 31) (List.mem_range.mpr (by omega))
    rw [show 31 + (c - 31) = c by omega] at this
    exact this
set_option maxRecDepth 1000000 in
theorem cp_0 : ai noORA 200 true (hcut0 [cpT] 18) 2 192 0 cCpy.2.2.1 (entA cCpy.2.2.2.1 7) [] gY (kC cCpy) = true := by decide +kernel
set_option maxRecDepth 1000000 in
theorem cp_111 : ai noORA 40 true noCut 2 192 111 cCpy.2.2.1 laC [] gY (kC cCpy) = true := by decide +kernel
theorem cmpgt (x y : Int64) : cmpB .gt (lg_cmp x y) 0 = decide (y < x) := by
  unfold lg_cmp
  by_cases h : x > y
  · rw [if_pos h, decide_eq_true (show y < x from h)]; rfl
  · rw [if_neg h, decide_eq_false (show ¬ y < x from h)]
    split <;> rfl
theorem cmple (x y : Int64) : cmpB .le (lg_cmp x y) 0 = decide (¬ y < x) := by
  unfold lg_cmp
  by_cases h : x > y
  · rw [if_pos h, decide_eq_false (show ¬ ¬ y < x from fun q => q h)]; rfl
  · rw [if_neg h, decide_eq_true (show ¬ y < x from h)]
    split <;> rfl
theorem ladd_in {i n s : Int32} (hi : 0 ≤ i.toInt) (hn : 0 ≤ n.toInt) (h : ¬ s.toInt64 < i.toInt64 + n.toInt64) : i.toInt + n.toInt ≤ s.toInt := by
  have h1 := int32_hi i
  have h2 := int32_hi n
  have e : (i.toInt64 + n.toInt64).toInt = i.toInt + n.toInt := by
    rw [Int64.toInt_add, Int32.toInt_toInt64, Int32.toInt_toInt64]
    exact Int.bmod_eq_of_le (by omega) (by omega)
  rw [Int64.lt_iff_toInt_lt, e, Int32.toInt_toInt64] at h
  omega
set_option maxRecDepth 100000 in
set_option maxHeartbeats 4000000 in
theorem k_cpy : ctrOk cCpy := by
  intro NM hN ρ av hp hB hS hH
  have hNM : NM = mX7_copy := (Option.some.inj (hN.symm.trans (show mtL[192]? = some mX7_copy from rfl)))
  subst hNM
  have hB : okB (bY ++ [f32, f32, f32, f32, f32]) ρ := hB
  refine Ct_weak (Q := qC cCpy ρ) (Ct_of_J (mt_ok (k := 192) rfl).1 (fun ad => by rw [lg_len, cat_sum hS]; show 6 ≤ 7; omega) ?_) (fun v hp' hq => ?_)
  rotate_left
  · obtain ⟨o, ho, ρ', g1, g2, g3, g4⟩ := hq
    have ho2 := List.mem_singleton.mp ho
    exact ⟨o, ho, ρ', g1, ⟨by rw [ho2]; show 18 ≤ 20; omega, g2⟩, g3, g4⟩
  refine ai_ok noORA_ok 200 true (hcut0 [cpT] 18) 2 192 0 _ _ [] _ (kC cCpy) cp_0 mX7_copy rfl ρ _ [] hp (qC cCpy ρ) hB (entA_ok hS 7) trivial hH (kC_end cCpy (Nat.le_refl _) (fun _ _ => rfl)) ?_
  intro pc chk hc B' ρ' la' lv' ha' hp' h1 hB' he hL' hH'
  unfold hcut0 at hc
  split at hc
  rotate_left
  · cases hc
  cases hc
  obtain ⟨q', hm, h1⟩ := List.any_eq_true.mp h1
  have hq' : q' = cpT := by simpa using hm
  subst hq'
  simp only [Bool.and_eq_true, beq_iff_eq] at h1
  obtain ⟨hpc, i1, i2⟩ := h1
  obtain ⟨o1, o2, o3⟩ := inT_ok hB' hL' hH' i1
  rw [← hpc]
  have hrig : ∀ j, j < 18 → ρt (sgp 18 (sgm cpT.2.2.1 la' cpT.2.2.2.1 ha')) ρ' j = ρ j := fun j hj => by
    have h6 := of_decide_eq_true (List.all_eq_true.mp i2 j (List.mem_range.mpr hj))
    unfold ρt
    rw [h6]
    show ρ' j + 0 = ρ j
    rw [Int.add_zero, he.2 j (by show j < 18; omega)]
  generalize ρt (sgp 18 (sgm cpT.2.2.1 la' cpT.2.2.2.1 ha')) ρ' = ρ2 at o1 o2 o3 hrig
  have o1 : okB (bY ++ [(0, 3), n31, (0, 3), n31, n31]) ρ2 := o1
  have o2 : rL (bY ++ [(0, 3), n31, (0, 3), n31, n31]) ρ2 laC lv' := o2
  have hl7 := o2.1
  match lv', hl7, o2 with
  | [x0, x1, x2, x3, x4, x5, x6], _, o2 =>
  obtain ⟨v0, w0, q0⟩ := o2.2 0 (.inr (.inl 0)) rfl
  cases w0
  cases rV_ref q0
  obtain ⟨v1, w1, q1⟩ := o2.2 1 (.inl (some 13, 0)) rfl
  cases w1
  obtain ⟨s, rfl, y1⟩ := rV_int q1
  obtain ⟨v2, w2, q2⟩ := o2.2 2 (.inl (some 14, 0)) rfl
  cases w2
  obtain ⟨i, rfl, y2⟩ := rV_int q2
  obtain ⟨v3, w3, q3⟩ := o2.2 3 (.inl (some 15, 0)) rfl
  cases w3
  obtain ⟨t, rfl, y3⟩ := rV_int q3
  obtain ⟨v4, w4, q4⟩ := o2.2 4 (.inl (some 16, 0)) rfl
  cases w4
  obtain ⟨j, rfl, y4⟩ := rV_int q4
  obtain ⟨v5, w5, q5⟩ := o2.2 5 (.inl (some 17, 0)) rfl
  cases w5
  obtain ⟨n, rfl, y5⟩ := rV_int q5
  have z1 : s.toInt = ρ2 13 := by have := y1.2; unfold den at this; simp only [Int.add_zero] at this; exact this
  have z2 : i.toInt = ρ2 14 := by have := y2.2; unfold den at this; simp only [Int.add_zero] at this; exact this
  have z3 : t.toInt = ρ2 15 := by have := y3.2; unfold den at this; simp only [Int.add_zero] at this; exact this
  have z4 : j.toInt = ρ2 16 := by have := y4.2; unfold den at this; simp only [Int.add_zero] at this; exact this
  have z5 : n.toInt = ρ2 17 := by have := y5.2; unfold den at this; simp only [Int.add_zero] at this; exact this
  have b13 := o1 13 (0, 3) rfl
  have b14 := o1 14 n31 rfl
  have b15 := o1 15 (0, 3) rfl
  have b16 := o1 16 n31 rfl
  have b17 := o1 17 n31 rfl
  simp only [n31] at b13 b14 b15 b16 b17
  obtain ⟨c0, p0, d0⟩ := rH_at o3 (k := 0) rfl
  obtain ⟨fs, rfl, hF⟩ := rC_obj d0
  obtain ⟨c32, p32, d32⟩ := rH_at o3 (k := 32) rfl
  obtain ⟨zs, rfl, lz, bz⟩ := rC_sum d32
  obtain ⟨w41, g41, r41⟩ := rF_val hF (i := 41) rfl rfl
  cases rV_ref r41
  have is : vp_in s 4 := vp_in_iff.mpr ⟨by omega, by omega⟩
  have it : vp_in t 4 := vp_in_iff.mpr ⟨by omega, by omega⟩
  have ms := bz _ (getD_mem (xs := zs) (k := s.toNatClampNeg) (by rw [lz]; exact Nat.not_le.mp fun q => is (Or.inr q)))
  have mt := bz _ (getD_mem (xs := zs) (k := t.toNatClampNeg) (by rw [lz]; exact Nat.not_le.mp fun q => it (Or.inr q)))
  -- the end with INDEX
  have bad : J mX7_copy 2 0 0 (qC cCpy ρ) 111 [some (.ref 0), some (.int s), some (.int i), some (.int t), some (.int j), some (.int n), x6] [] hp' 0 0 := by
    have e1 : ext (bY ++ [(0, 3), n31, (0, 3), n31, n31]) ρ2 (bY ++ [f32, f32, f32, f32, f32]) ρ2 := ⟨by decide, fun _ _ => rfl⟩
    have hB5 : okB (bY ++ [f32, f32, f32, f32, f32]) ρ2 := by
      intro m b hb
      have hm : m < 18 := (List.getElem?_eq_some_iff.mp hb).1
      rw [hrig m hm]
      exact hB m b hb
    exact ai_ok noORA_ok 40 true noCut 2 192 111 _ _ [] _ (kC cCpy) cp_111 mX7_copy rfl ρ2 _ [] hp' (qC cCpy ρ) hB5 (rL_ext e1 o2) trivial (rH_ext e1 o3) (kC_end cCpy (Nat.le_refl _) (fun m hm => hrig m hm)) (fun pc chk hc => by cases hc)
  refine T_s (k := 192) rfl rfl rfl ?_
  refine T_s (k := 192) rfl rfl rfl ?_
  refine T_s (k := 192) rfl rfl rfl ?_
  refine T_s (k := 192) rfl rfl rfl ?_
  refine T_s (k := 192) rfl rfl rfl ?_
  refine T_s (k := 192) rfl rfl rfl ?_
  refine T_get (k := 192) rfl rfl rfl p0 g41 ?_
  refine T_s (k := 192) rfl rfl rfl ?_
  refine T_ald (k := 192) rfl rfl p32 (by rw [lz]; exact inB_of is) ?_
  refine T_s (k := 192) rfl rfl rfl ?_
  refine T_s (k := 192) rfl rfl rfl ?_
  refine T_b (k := 192) (b := cmpB .gt (lg_cmp (i.toInt64 + n.toInt64) (zs.getD s.toNatClampNeg 0).toInt64) 0) rfl rfl rfl (fun _ => bad) (fun u1 => ?_)
  rw [cmpgt, decide_eq_false_iff_not] at u1
  have s1 := ladd_in (by omega) (by omega) u1
  refine T_s (k := 192) rfl rfl rfl ?_
  refine T_s (k := 192) rfl rfl rfl ?_
  refine T_s (k := 192) rfl rfl rfl ?_
  refine T_s (k := 192) rfl rfl rfl ?_
  refine T_s (k := 192) rfl rfl rfl ?_
  refine T_s (k := 192) rfl rfl rfl ?_
  refine T_get (k := 192) rfl rfl rfl p0 g41 ?_
  refine T_s (k := 192) rfl rfl rfl ?_
  refine T_ald (k := 192) rfl rfl p32 (by rw [lz]; exact inB_of it) ?_
  refine T_s (k := 192) rfl rfl rfl ?_
  refine T_s (k := 192) rfl rfl rfl ?_
  refine T_b (k := 192) (b := cmpB .le (lg_cmp (j.toInt64 + n.toInt64) (zs.getD t.toNatClampNeg 0).toInt64) 0) rfl rfl rfl (fun u2 => ?_) (fun _ => bad)
  rw [cmple, decide_eq_true_eq] at u2
  have s2 := ladd_in (by omega) (by omega) u2
  obtain ⟨c, hc31, rfl, ec⟩ := nI_toInt' (x := n) (by omega)
  have hc61 : c < 61 := by omega
  have hcp := cp_at hc61
  unfold cpC at hcp
  rw [Bool.and_eq_true] at hcp
  have hall : ∀ q ∈ cpH c, 18 ≤ q.2.1.length ∧ q.2.2.2.2.all (wgtB q.2.1) = true ∧ ai noORA 60 true (hcut (cpH c) 18 q) 2 192 q.1 q.2.1 q.2.2.1 [] q.2.2.2.1 (kC cCpy) = true := fun q hq => by
    have := List.all_eq_true.mp hcp.1 q hq
    rw [Bool.and_eq_true, Bool.and_eq_true, decide_eq_true_eq] at this
    exact this
  have hBc : okB (cpN c) ρ2 := by
    have k1 := set_okB (j := 14) (b := (0, 60 - (c : Int))) o1 ⟨by show 0 ≤ ρ2 14; omega, by show ρ2 14 ≤ 60 - (c : Int); omega⟩
    have k2 := set_okB (j := 16) (b := (0, 60 - (c : Int))) k1 ⟨by show 0 ≤ ρ2 16; omega, by show ρ2 16 ≤ 60 - (c : Int); omega⟩
    have k3 := set_okB (j := 17) (b := ((c : Int), (c : Int))) k2 ⟨by show (c : Int) ≤ ρ2 17; omega, by show ρ2 17 ≤ (c : Int); omega⟩
    exact k3
  have ee : ext (bY ++ [(0, 3), n31, (0, 3), n31, n31]) ρ2 (cpN c) ρ2 := ⟨Nat.le_refl _, fun _ _ => rfl⟩
  exact from_pc noORA_ok (k := 192) (p := 18) rfl (cpH c) (kC cCpy) ρ (qC cCpy ρ) (fun q hq => (hall q hq).1) (fun q hq => (hall q hq).2.1) (fun q hq => (hall q hq).2.2) (fun q hq ρ1 hr1 => kC_end cCpy (hall q hq).1 hr1) (Nat.le_refl _) hcp.2 hBc hrig (rL_ext ee o2) (rH_ext ee o3) (kC_end cCpy (Nat.le_refl _) hrig)
