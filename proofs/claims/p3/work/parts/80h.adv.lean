/-! ===== advance, by hand: the act's kind and its subject ===== -/
def tA (ch : Nat) : AHa := (gX ch).set 5 (fa5 (gX ch) 11 15)
def cAdv (ch : Nat) : CTR := (5, 3, bX ++ [(0, 23)], [.inr (.inl 5), .inl (some 14, 0)], gX ch, [(bX ++ [(0, 23), (0, 49)], none, tA ch)])
def aT0 (ch : Nat) : HD := (0, bX ++ [(0, 23), (0, 49)], [some (.inr (.inl 5)), some (.inl (some 14, 0)), none], tA ch, [(true, (some 15, 0))])
def aT28 (ch : Nat) : HD := (28, bX ++ [(0, 23), (0, 48)], [some (.inr (.inl 5)), some (.inl (some 14, 0)), none], tA ch, [(true, (some 15, 0))])
def aTt (ch t : Nat) (hi : Int) : HD := (t, bX ++ [(0, 23), (0, 48), (0, hi)], [some (.inr (.inl 5)), some (.inl (some 14, 0)), some (.inl (some 16, 0))], tA ch, [(true, (some 15, 0))])
def a0B (ch : Nat) : Bool := ai noORA 40 true (hcut0 [aT28 ch] 16) 3 5 0 (aT0 ch).2.1 (aT0 ch).2.2.1 [] (aT0 ch).2.2.2.1 (kC (cAdv ch))
def atB (ch t : Nat) (hi : Int) : Bool := ai noORA 200 true (hcut [aT0 ch] 15 (aTt ch t hi)) 3 5 t (aTt ch t hi).2.1 (aTt ch t hi).2.2.1 [] (aTt ch t hi).2.2.2.1 (kC (cAdv ch))
def aeB (ch : Nat) : Bool := inT (aT0 ch).2.1 (aT0 ch).2.2.1 (aT0 ch).2.2.2.1 (sgp 15 (sgm (aT0 ch).2.2.1 (entA (cAdv ch).2.2.2.1 3) (aT0 ch).2.2.2.1 (gX ch))) (cAdv ch).2.2.1 (entA (cAdv ch).2.2.2.1 3) (gX ch)
theorem rL_3 {B : BD} {ρ : Nat → Int} {a b c : Option AVa} {lv : List (Option Value)} (h : rL B ρ [a, b, c] lv) : ∃ x y z, lv = [x, y, z] := by
  have := h.1
  match lv, this with
  | [x, y, z], _ => exact ⟨x, y, z, rfl⟩
theorem five_nI : Int32.ofInt 5 = nI 5 := by decide
set_option maxRecDepth 100000 in
set_option maxHeartbeats 4000000 in
theorem adv_head {ch : Nat} (h0 : a0B ch = true) (ht : atB ch 80 10 = true ∧ atB ch 108 8 = true ∧ atB ch 135 10 = true ∧ atB ch 143 8 = true ∧ atB ch 179 8 = true) {r : Nat → Int} : ∀ (n : Nat) (ρ : Nat → Int) (lv : List (Option Value)) (hp : AH), mu ρ [(true, (some 15, 0))] < n → okB (aT0 ch).2.1 ρ → (∀ j, j < 15 → ρ j = r j) → rL (aT0 ch).2.1 ρ (aT0 ch).2.2.1 lv → rH (aT0 ch).2.1 ρ (aT0 ch).2.2.2.1 hp → J mX0_advance 3 0 0 (qC (cAdv ch) r) 0 lv [] hp 0 0 := by
  intro n
  induction n with
  | zero =>
    intro ρ lv hp hn hB
    have := mu_lt hB (l := [(true, (some 15, 0))]) (show ([(true, (some 15, 0))] : List (Bool × AN)).all (wgtB (bX ++ [(0, 23), (0, 49)])) = true by decide)
    exact absurd hn (by omega)
  | succ n ih =>
    intro ρ lv hp hn hB hr hL hH
    -- from a target on
    have go : ∀ (t : Nat) (hi : Int), atB ch t hi = true → ∀ (ρ2 : Nat → Int) (dy sv : Int32) (hp2 : AH), ρ2 15 = ρ 15 → okB (aT28 ch).2.1 ρ2 → (∀ j, j < 15 → ρ2 j = r j) → dy.toInt = ρ2 14 → (0 ≤ sv.toInt ∧ sv.toInt ≤ hi) → rH (aT28 ch).2.1 ρ2 (tA ch) hp2 → J mX0_advance 3 0 0 (qC (cAdv ch) r) t [some (.ref 5), some (.int dy), some (.int sv)] [] hp2 0 0 := by
      intro t hi hat ρ2 dy sv hp2 e15 hB2 hr2 hdy hsv hH2
      have e := new_ext (B := (aT28 ch).2.1) (ρ := ρ2) (0, hi) sv.toInt
      have hB3 : okB (aTt ch t hi).2.1 (ups ρ2 16 sv.toInt) := new_ok hB2 hsv.1 hsv.2
      have e3 : ext (aT28 ch).2.1 ρ2 (aTt ch t hi).2.1 (ups ρ2 16 sv.toInt) := e
      have u : ∀ j, j < 16 → ups ρ2 16 sv.toInt j = ρ2 j := fun j hj => by unfold ups; rw [if_neg (by omega)]
      have hL3 : rL (aTt ch t hi).2.1 (ups ρ2 16 sv.toInt) (aTt ch t hi).2.2.1 [some (.ref 5), some (.int dy), some (.int sv)] := by
        refine ⟨rfl, fun i a hi' => ?_⟩
        match i, hi' with
        | 0, hi' => cases hi'; exact ⟨_, rfl, rfl⟩
        | 1, hi' =>
          cases hi'
          refine ⟨_, rfl, fun j hj => by cases hj; show 14 < 17; omega, ?_⟩
          show dy.toInt = ups ρ2 16 sv.toInt 14 + 0
          rw [u 14 (by omega), Int.add_zero, hdy]
        | 2, hi' =>
          cases hi'
          refine ⟨_, rfl, fun j hj => by cases hj; show 16 < 17; omega, ?_⟩
          show sv.toInt = ups ρ2 16 sv.toInt 16 + 0
          unfold ups
          rw [if_pos rfl, Int.add_zero]
        | i + 3, hi' => simp [aTt] at hi'
      refine ai_ok noORA_ok 200 true (hcut [aT0 ch] 15 (aTt ch t hi)) 3 5 t _ _ [] _ (kC (cAdv ch)) hat mX0_advance rfl _ _ [] hp2 (qC (cAdv ch) r) hB3 hL3 trivial (rH_ext e3 hH2) (kC_end (cAdv ch) (by show 15 ≤ 17; omega) (fun j hj => by have hj : j < 15 := hj; rw [u j (by omega)]; exact hr2 j hj)) ?_
      intro pc chk hc B' ρ' la' lv' ha' hp' h1 hB' he hL' hH'
      unfold hcut at hc
      split at hc
      · cases hc
        obtain ⟨q', hm, h1⟩ := List.any_eq_true.mp h1
        have hq' : q' = aT0 ch := by simpa using hm
        subst hq'
        simp only [Bool.and_eq_true, beq_iff_eq] at h1
        obtain ⟨hpc, i1, i2, i3⟩ := h1
        obtain ⟨o1, o2, o3⟩ := inT_ok hB' hL' hH' i1
        rw [← hpc]
        refine ih _ lv' hp' ?_ o1 (fun j hj => ?_) o2 o3
        · have h5 := lexB_ok hB' i3
          rw [subM_mu] at h5
          have h6 : mu ρ' (aTt ch t hi).2.2.2.2 = mu ρ [(true, (some 15, 0))] := by
            have : ρ' 15 = ρ 15 := by rw [he.2 15 (by show 15 < 17; omega), u 15 (by omega), e15]
            show wgt ρ' (true, (some 15, 0)) * (2000 : Int) ^ 0 + 0 = wgt ρ (true, (some 15, 0)) * (2000 : Int) ^ 0 + 0
            unfold wgt den
            simp only [this]
          rw [h6] at h5
          have h7 : mu (ρt (sgp 15 (sgm (aT0 ch).2.2.1 la' (aT0 ch).2.2.2.1 ha')) ρ') (aT0 ch).2.2.2.2 < mu ρ [(true, (some 15, 0))] := h5.1
          have h8 : mu (ρt (sgp 15 (sgm (aT0 ch).2.2.1 la' (aT0 ch).2.2.2.1 ha')) ρ') [(true, (some 15, 0))] < mu ρ [(true, (some 15, 0))] := h7
          omega
        · have h6 := of_decide_eq_true (List.all_eq_true.mp i2 j (List.mem_range.mpr hj))
          unfold ρt
          rw [h6]
          show ρ' j + 0 = r j
          rw [Int.add_zero, he.2 j (by show j < 17; omega), u j (by omega), hr2 j hj]
      · cases hc
    refine ai_ok noORA_ok 40 true (hcut0 [aT28 ch] 16) 3 5 0 _ _ [] _ (kC (cAdv ch)) h0 mX0_advance rfl ρ lv [] hp (qC (cAdv ch) r) hB hL trivial hH (kC_end (cAdv ch) (by show 15 ≤ 16; omega) (fun j hj => hr j hj)) ?_
    intro pc chk hc B' ρ' la' lv' ha' hp' h1 hB' he hL' hH'
    unfold hcut0 at hc
    split at hc
    · cases hc
      obtain ⟨q', hm, h1⟩ := List.any_eq_true.mp h1
      have hq' : q' = aT28 ch := by simpa using hm
      subst hq'
      simp only [Bool.and_eq_true, beq_iff_eq] at h1
      obtain ⟨hpc, i1, i2⟩ := h1
      obtain ⟨o1, o2, o3⟩ := inT_ok hB' hL' hH' i1
      rw [← hpc]
      have hrig : ∀ j, j < 16 → ρt (sgp 16 (sgm (aT28 ch).2.2.1 la' (aT28 ch).2.2.2.1 ha')) ρ' j = ρ j := fun j hj => by
        have h6 := of_decide_eq_true (List.all_eq_true.mp i2 j (List.mem_range.mpr hj))
        unfold ρt
        rw [h6]
        show ρ' j + 0 = ρ j
        rw [Int.add_zero, he.2 j (by show j < 16; omega)]
      generalize ρt (sgp 16 (sgm (aT28 ch).2.2.1 la' (aT28 ch).2.2.2.1 ha')) ρ' = ρ2 at o1 o2 o3 hrig
      -- what stands there
      obtain ⟨x, y, z, rfl⟩ := rL_3 (show rL (aT28 ch).2.1 ρ2 [some (.inr (.inl 5)), some (.inl (some 14, 0)), none] lv' from o2)
      obtain ⟨v0, w0, q0⟩ := o2.2 0 (.inr (.inl 5)) rfl
      cases w0
      cases rV_ref q0
      obtain ⟨v1, w1, q1⟩ := o2.2 1 (.inl (some 14, 0)) rfl
      cases w1
      obtain ⟨dy, rfl, hdy⟩ := rV_int q1
      have hdy2 : dy.toInt = ρ2 14 := by have := hdy.2; unfold den at this; simp only [Int.add_zero] at this; exact this
      obtain ⟨x5, p5, c5⟩ := rH_at o3 (k := 5) rfl
      obtain ⟨fs, rfl, hF⟩ := rC_obj c5
      obtain ⟨x26, p26, c26⟩ := rH_at o3 (k := 26) rfl
      obtain ⟨ks, rfl, lk, bk⟩ := rC_sum c26
      obtain ⟨x27, p27, c27⟩ := rH_at o3 (k := 27) rfl
      obtain ⟨ss, rfl, ls, bs⟩ := rC_sum c27
      obtain ⟨w5, g5, r5⟩ := rF_val hF (i := 5) rfl rfl
      cases rV_ref r5
      obtain ⟨w6, g6, r6⟩ := rF_val hF (i := 6) rfl rfl
      cases rV_ref r6
      obtain ⟨w11, g11, r11⟩ := rF_val hF (i := 11) rfl rfl
      obtain ⟨nx, rfl, hnx⟩ := rV_int r11
      have hnx2 : nx.toInt = ρ2 15 := by have := hnx.2; unfold den at this; simp only [Int.add_zero] at this; exact this
      have b15 := o1 15 (0, 48) rfl
      simp only at b15
      obtain ⟨a, -, rfl, ea⟩ := nI_toInt' (x := nx) (by omega)
      have ha : a < 49 := by omega
      have hlp : hp'.length = 58 := by rw [← o3.1]; rfl
      have hpr := o3.2.2 hlp ks ss p26 p27 a (by omega)
      have hkb := bk _ (getD_mem (xs := ks) (k := a) (by omega))
      have hsb := bs _ (getD_mem (xs := ss) (k := a) (by omega))
      refine T_s (k := 5) rfl rfl rfl ?_
      refine T_get (k := 5) rfl rfl rfl p5 g6 ?_
      refine T_s (k := 5) rfl rfl rfl ?_
      refine T_get (k := 5) rfl rfl rfl p5 g11 ?_
      refine T_ald (k := 5) rfl rfl p27 (by rw [ls]; exact inB_nat ha (by omega)) ?_
      rw [nI_clamp (by omega)]
      refine T_s (k := 5) rfl rfl rfl ?_
      refine T_s (k := 5) rfl rfl rfl ?_
      refine T_get (k := 5) rfl rfl rfl p5 g5 ?_
      refine T_s (k := 5) rfl rfl rfl ?_
      refine T_get (k := 5) rfl rfl rfl p5 g11 ?_
      refine T_ald (k := 5) rfl rfl p26 (by rw [lk]; exact inB_nat ha (by omega)) ?_
      rw [nI_clamp (by omega)]
      generalize ks.getD a 0 = kv at hkb hpr
      generalize ss.getD a 0 = sv at hsb hpr
      obtain ⟨j, hj, rfl, ej⟩ := nI_toInt' (x := kv) (by omega)
      refine T_s (k := 5) rfl rfl rfl ?_
      refine T_h (k := 5) (st' := .int (nI (j % 5)) :: []) (hp' := hp') (pc' := 49) rfl rfl (by
        have e5 : ¬ Int32.ofInt 5 = 0 := by decide
        simp only [hA, if_neg e5]
        rw [five_nI, pk_rem hj (by omega) (by omega)]
        rfl) ?_
      have hm : j % 5 = 0 ∨ j % 5 = 1 ∨ j % 5 = 2 ∨ j % 5 = 3 ∨ j % 5 = 4 := by omega
      have hm2 : (nI j).toInt % 5 = ((j % 5 : Nat) : Int) := by rw [ej]; omega
      unfold prP at hpr
      rw [hm2] at hpr
      rcases hm with q | q | q | q | q <;> rw [q] at hpr ⊢
      · refine T_h (k := 5) (st' := []) (hp' := hp') (pc' := 80) rfl rfl rfl ?_
        exact go 80 10 ht.1 ρ2 dy sv hp' (hrig 15 (by omega)) o1 (fun i hi => (hrig i (by omega)).trans (hr i hi)) hdy2 (by omega) o3
      · refine T_h (k := 5) (st' := []) (hp' := hp') (pc' := 108) rfl rfl rfl ?_
        exact go 108 8 ht.2.1 ρ2 dy sv hp' (hrig 15 (by omega)) o1 (fun i hi => (hrig i (by omega)).trans (hr i hi)) hdy2 ⟨hsb.1, hpr (by omega)⟩ o3
      · refine T_h (k := 5) (st' := []) (hp' := hp') (pc' := 135) rfl rfl rfl ?_
        exact go 135 10 ht.2.2.1 ρ2 dy sv hp' (hrig 15 (by omega)) o1 (fun i hi => (hrig i (by omega)).trans (hr i hi)) hdy2 (by omega) o3
      · refine T_h (k := 5) (st' := []) (hp' := hp') (pc' := 143) rfl rfl rfl ?_
        exact go 143 8 ht.2.2.2.1 ρ2 dy sv hp' (hrig 15 (by omega)) o1 (fun i hi => (hrig i (by omega)).trans (hr i hi)) hdy2 ⟨hsb.1, hpr (by omega)⟩ o3
      · refine T_h (k := 5) (st' := []) (hp' := hp') (pc' := 179) rfl rfl rfl ?_
        exact go 179 8 ht.2.2.2.2 ρ2 dy sv hp' (hrig 15 (by omega)) o1 (fun i hi => (hrig i (by omega)).trans (hr i hi)) hdy2 ⟨hsb.1, hpr (by omega)⟩ o3
    · cases hc
theorem adv_ok {ch : Nat} (h0 : a0B ch = true) (ht : atB ch 80 10 = true ∧ atB ch 108 8 = true ∧ atB ch 135 10 = true ∧ atB ch 143 8 = true ∧ atB ch 179 8 = true) (hE : aeB ch = true) : ctrOk (cAdv ch) := by
  intro NM hN ρ av hp hB hS hH
  have hNM : NM = mX0_advance := (Option.some.inj (hN.symm.trans (show mtL[5]? = some mX0_advance from rfl)))
  subst hNM
  have hB : okB (bX ++ [(0, 23)]) ρ := hB
  obtain ⟨o1, o2, o3⟩ := inT_ok (Bt := (aT0 ch).2.1) (lt := (aT0 ch).2.2.1) (ht := (aT0 ch).2.2.2.1) hB (entA_ok hS 3) hH hE
  have J0 := adv_head h0 ht (r := ρ) ((mu (ρt (sgp 15 (sgm (aT0 ch).2.2.1 (entA (cAdv ch).2.2.2.1 3) (aT0 ch).2.2.2.1 (gX ch))) ρ) [(true, (some 15, 0))]).toNat + 1) _ _ hp (by
    have := mu_lt o1 (l := [(true, (some 15, 0))]) (show ([(true, (some 15, 0))] : List (Bool × AN)).all (wgtB (bX ++ [(0, 23), (0, 49)])) = true by decide)
    omega) o1 (fun j hj => by unfold ρt sgp; rw [if_pos hj]; show ρ j + 0 = ρ j; omega) o2 o3
  refine Ct_weak (Ct_of_J (mt_ok (k := 5) rfl).1 (fun ad => by rw [lg_len, cat_sum hS]; show 2 ≤ 3; omega) J0) (fun v hp' hq => ?_)
  obtain ⟨o, ho, ρ', g1, g2, g3, g4⟩ := hq
  have ho2 : o = (bX ++ [(0, 23), (0, 49)], none, tA ch) := List.mem_singleton.mp ho
  exact ⟨o, ho, ρ', g1, ⟨by rw [ho2]; show 15 ≤ 16; omega, g2⟩, g3, g4⟩
set_option maxRecDepth 1000000 in
theorem k_adv14 : ctrOk (cAdv 14) := adv_ok (by decide +kernel) ⟨by decide +kernel, by decide +kernel, by decide +kernel, by decide +kernel, by decide +kernel⟩ (by decide +kernel)
set_option maxRecDepth 1000000 in
theorem k_adv35 : ctrOk (cAdv 35) := adv_ok (by decide +kernel) ⟨by decide +kernel, by decide +kernel, by decide +kernel, by decide +kernel, by decide +kernel⟩ (by decide +kernel)
