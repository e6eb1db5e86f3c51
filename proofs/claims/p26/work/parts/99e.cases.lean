/-! ===== the law's cases, printed by wip/gen/claim.py ===== -/
theorem case_type {b L i : Nat} {xs : Nat → Int32} {aX aY : Nat} {hx hy : AH} (hi : i + 6 ≤ L) (hL : L ≤ 3072) (I : INV hx hy) (K : ∀ hx' hy', INV hx' hy' → LW b L xs 93 2553 1337 (nI i) [] aX aY hx' hy') : LW b L xs 93 2553 196 (nI i) [] aX aY hx hy := by
  obtain ⟨ρ, α, σ, β, sX, sY, R⟩ := I
  have cX := sx_type sX (R.1.2.1) (xs (i + 1)) (xs (i + 2))
  have cY := sy_type sY R.1.1 (xs (i + 1)) (xs (i + 2))
  obtain ⟨fX, oX1⟩ := SD_obj (ci := 6) sX rfl
  obtain ⟨fY, oY1⟩ := SD_obj (ci := 7) sY rfl
  refine LW_x (cdOk_spec tk_180 16 _ rfl) ?_
  refine LW_arg (n := 1) (q := i + 1) (cdOk_spec tk_180 17 _ rfl) (cdOk_spec tk_180 18 _ rfl) (cdOk_spec tk_180 19 _ rfl) (cdOk_spec tk_180 20 _ rfl) (cdOk_spec tk_180 21 _ rfl) (arg_in (n := 1) (by omega) hL) (arg_q (n := 1) (by omega) hL) ?_
  refine LW_arg (n := 2) (q := i + 2) (cdOk_spec tk_180 22 _ rfl) (cdOk_spec tk_180 23 _ rfl) (cdOk_spec tk_180 24 _ rfl) (cdOk_spec tk_180 25 _ rfl) (cdOk_spec tk_180 26 _ rfl) (arg_in (n := 2) (by omega) hL) (arg_q (n := 2) (by omega) hL) ?_
  refine LW_callX (N := mX6_type) (as := [.int (xs (i + 1)), .int (xs (i + 2))]) (st := []) (cdOk_spec tk_180 27 _ rfl) (mt_ok (k := 43) rfl).1 (chkW_in (i := 333) (by decide +kernel)) (chkW_in (i := 334) (by decide +kernel)) (chkW_in (i := 335) (by decide +kernel)) ((mt_ok (k := 43) (M := mX6_type) rfl).2.trans rfl) oX1 rfl rfl (Nat.zero_le _) ⟨by decide, by decide⟩ cX (fun v h q => ?_) (fun wX hx' q hnX => ?_)
  · obtain ⟨u, e, lu, -⟩ := q
    exact ⟨lu.trans (SD_len sX).symm, _, e, rfl⟩
  obtain ⟨uX, eX, lX, ρ', α', sX', FX⟩ := q
  cases eX
  have kX := knd_int uX
  refine LW_pop (cdOk_spec tk_180 30 _ rfl) kX ?_
  refine LW_y (cdOk_spec tk_180 31 _ rfl) ?_
  refine LW_arg (n := 1) (q := i + 1) (cdOk_spec tk_180 32 _ rfl) (cdOk_spec tk_180 33 _ rfl) (cdOk_spec tk_180 34 _ rfl) (cdOk_spec tk_180 35 _ rfl) (cdOk_spec tk_180 36 _ rfl) (arg_in (n := 1) (by omega) hL) (arg_q (n := 1) (by omega) hL) ?_
  refine LW_arg (n := 2) (q := i + 2) (cdOk_spec tk_180 37 _ rfl) (cdOk_spec tk_180 38 _ rfl) (cdOk_spec tk_180 39 _ rfl) (cdOk_spec tk_180 40 _ rfl) (cdOk_spec tk_180 41 _ rfl) (arg_in (n := 2) (by omega) hL) (arg_q (n := 2) (by omega) hL) ?_
  refine LW_callY (N := mX7_type) (as := [.int (xs (i + 1)), .int (xs (i + 2))]) (st := []) (cdOk_spec tk_180 42 _ rfl) (mt_ok (k := 111) rfl).1 (chkW_in (i := 906) (by decide +kernel)) (chkW_in (i := 907) (by decide +kernel)) (chkW_in (i := 908) (by decide +kernel)) ((mt_ok (k := 111) (M := mX7_type) rfl).2.trans rfl) oY1 rfl rfl (Nat.zero_le _) ⟨by decide, by decide⟩ cY (fun v h q => ?_) (fun wY hy' q hnY => ?_)
  · obtain ⟨u, e, lu, -⟩ := q
    exact ⟨lu.trans (SD_len sY).symm, _, e, rfl⟩
  obtain ⟨uY, eY, lY, σ', β', sY', FY⟩ := q
  cases eY
  have kY := knd_int uY
  refine LW_pop (cdOk_spec tk_180 45 _ rfl) kY ?_
  exact LW_goto (t := 1337) (cdOk_spec tk_180 46 _ rfl) (by decide) (K _ _ ⟨ρ', α', σ', β', sX', sY', (by obtain ⟨n4, n5, n6, n7, n13, k15, k16, k19, k20, k21, k23, k24, k25, k32, k33, k34, k41, k42, k43, k44, k45, k46, f0, f1, -⟩ := FX; obtain ⟨m4, m5, m6, m7, m12, l9, l10, l11, l12, l13, l14, l15, l16, l26, l27, l28, l30, l31, l32, l33, g0, -⟩ := FY; have W := tx_type R.1.1 R.1.2.2 f0 g0; unfold RA RX at R ⊢; simp only [← n4, ← n5, ← n6, ← n7, ← n13, ← k15, ← k16, ← k19, ← k20, ← k21, ← k23, ← k24, ← k25, ← k32, ← k33, ← k34, ← k41, ← k42, ← k43, ← k44, ← k45, ← k46, ← m4, ← m5, ← m6, ← m7, ← m12, ← l9, ← l10, ← l11, ← l12, ← l13, ← l14, ← l15, ← l16, ← l26, ← l27, ← l28, ← l30, ← l31, ← l32, ← l33] at R W f1; obtain ⟨⟨ra, rb, rc⟩, R2, R3, R4, R5, R6, R7, R8, R9⟩ := R; exact ⟨⟨W.2.1, f1, W.2.2⟩, R2, R3, R4, R5, R6, R7, R8, R9⟩)⟩)
theorem case_wipe {b L i : Nat} {xs : Nat → Int32} {aX aY : Nat} {hx hy : AH} (hi : i + 6 ≤ L) (hL : L ≤ 3072) (I : INV hx hy) (K : ∀ hx' hy', INV hx' hy' → LW b L xs 93 2553 1337 (nI i) [] aX aY hx' hy') : LW b L xs 93 2553 229 (nI i) [] aX aY hx hy := by
  obtain ⟨ρ, α, σ, β, sX, sY, R⟩ := I
  have cX := sx_wipe sX (R.1.2.1) (xs (i + 1))
  have cY := sy_wipe sY R.1.1 (xs (i + 1))
  obtain ⟨fX, oX1⟩ := SD_obj (ci := 6) sX rfl
  obtain ⟨fY, oY1⟩ := SD_obj (ci := 7) sY rfl
  refine LW_x (cdOk_spec tk_180 49 _ rfl) ?_
  refine LW_arg (n := 1) (q := i + 1) (cdOk_spec tk_180 50 _ rfl) (cdOk_spec tk_180 51 _ rfl) (cdOk_spec tk_180 52 _ rfl) (cdOk_spec tk_180 53 _ rfl) (cdOk_spec tk_180 54 _ rfl) (arg_in (n := 1) (by omega) hL) (arg_q (n := 1) (by omega) hL) ?_
  refine LW_callX (N := mX6_wipe) (as := [.int (xs (i + 1))]) (st := []) (cdOk_spec tk_180 55 _ rfl) (mt_ok (k := 44) rfl).1 (chkW_in (i := 380) (by decide +kernel)) (chkW_in (i := 381) (by decide +kernel)) (chkW_in (i := 382) (by decide +kernel)) ((mt_ok (k := 44) (M := mX6_wipe) rfl).2.trans rfl) oX1 rfl rfl (Nat.zero_le _) ⟨by decide, by decide⟩ cX (fun v h q => ?_) (fun wX hx' q hnX => ?_)
  · obtain ⟨u, e, lu, -⟩ := q
    exact ⟨lu.trans (SD_len sX).symm, _, e, rfl⟩
  obtain ⟨uX, eX, lX, ρ', α', sX', FX⟩ := q
  cases eX
  have kX := knd_int uX
  refine LW_pop (cdOk_spec tk_180 58 _ rfl) kX ?_
  refine LW_y (cdOk_spec tk_180 59 _ rfl) ?_
  refine LW_arg (n := 1) (q := i + 1) (cdOk_spec tk_240 0 _ rfl) (cdOk_spec tk_240 1 _ rfl) (cdOk_spec tk_240 2 _ rfl) (cdOk_spec tk_240 3 _ rfl) (cdOk_spec tk_240 4 _ rfl) (arg_in (n := 1) (by omega) hL) (arg_q (n := 1) (by omega) hL) ?_
  refine LW_callY (N := mX7_wipe) (as := [.int (xs (i + 1))]) (st := []) (cdOk_spec tk_240 5 _ rfl) (mt_ok (k := 112) rfl).1 (chkW_in (i := 916) (by decide +kernel)) (chkW_in (i := 917) (by decide +kernel)) (chkW_in (i := 918) (by decide +kernel)) ((mt_ok (k := 112) (M := mX7_wipe) rfl).2.trans rfl) oY1 rfl rfl (Nat.zero_le _) ⟨by decide, by decide⟩ cY (fun v h q => ?_) (fun wY hy' q hnY => ?_)
  · obtain ⟨u, e, lu, -⟩ := q
    exact ⟨lu.trans (SD_len sY).symm, _, e, rfl⟩
  obtain ⟨uY, eY, lY, σ', β', sY', FY⟩ := q
  cases eY
  have kY := knd_int uY
  refine LW_pop (cdOk_spec tk_240 8 _ rfl) kY ?_
  exact LW_goto (t := 1337) (cdOk_spec tk_240 9 _ rfl) (by decide) (K _ _ ⟨ρ', α', σ', β', sX', sY', (by obtain ⟨n4, n5, n6, n7, n13, k2, k4, k15, k16, k19, k20, k21, k23, k24, k25, k32, k33, k34, k41, k42, k43, k44, k45, k46, f0, f1, -⟩ := FX; obtain ⟨m4, m5, m6, m7, m12, l2, l9, l10, l11, l12, l13, l14, l15, l16, l26, l27, l28, l30, l31, l32, l33, g0, -⟩ := FY; have W := tx_wipe R.1.1 R.1.2.2 f0 g0; unfold RA RX at R ⊢; simp only [← n4, ← n5, ← n6, ← n7, ← n13, ← k2, ← k4, ← k15, ← k16, ← k19, ← k20, ← k21, ← k23, ← k24, ← k25, ← k32, ← k33, ← k34, ← k41, ← k42, ← k43, ← k44, ← k45, ← k46, ← m4, ← m5, ← m6, ← m7, ← m12, ← l2, ← l9, ← l10, ← l11, ← l12, ← l13, ← l14, ← l15, ← l16, ← l26, ← l27, ← l28, ← l30, ← l31, ← l32, ← l33] at R W f1; obtain ⟨⟨ra, rb, rc⟩, R2, R3, R4, R5, R6, R7, R8, R9⟩ := R; exact ⟨⟨W.2.1, f1, W.2.2⟩, R2, R3, R4, R5, R6, R7, R8, R9⟩)⟩)
theorem case_undo {b L i : Nat} {xs : Nat → Int32} {aX aY : Nat} {hx hy : AH} (hi : i + 6 ≤ L) (hL : L ≤ 3072) (I : INV hx hy) (K : ∀ hx' hy', INV hx' hy' → LW b L xs 93 2553 1337 (nI i) [] aX aY hx' hy') : LW b L xs 93 2553 252 (nI i) [] aX aY hx hy := by
  obtain ⟨ρ, α, σ, β, sX, sY, R⟩ := I
  have cX := sx_undo sX (R.1.2.1) (xs (i + 1))
  have cY := sy_undo sY R.1.1 (xs (i + 1))
  obtain ⟨fX, oX1⟩ := SD_obj (ci := 6) sX rfl
  obtain ⟨fY, oY1⟩ := SD_obj (ci := 7) sY rfl
  refine LW_x (cdOk_spec tk_240 12 _ rfl) ?_
  refine LW_arg (n := 1) (q := i + 1) (cdOk_spec tk_240 13 _ rfl) (cdOk_spec tk_240 14 _ rfl) (cdOk_spec tk_240 15 _ rfl) (cdOk_spec tk_240 16 _ rfl) (cdOk_spec tk_240 17 _ rfl) (arg_in (n := 1) (by omega) hL) (arg_q (n := 1) (by omega) hL) ?_
  refine LW_callX (N := mX6_undo) (as := [.int (xs (i + 1))]) (st := []) (cdOk_spec tk_240 18 _ rfl) (mt_ok (k := 45) rfl).1 (chkW_in (i := 384) (by decide +kernel)) (chkW_in (i := 385) (by decide +kernel)) (chkW_in (i := 386) (by decide +kernel)) ((mt_ok (k := 45) (M := mX6_undo) rfl).2.trans rfl) oX1 rfl rfl (Nat.zero_le _) ⟨by decide, by decide⟩ cX (fun v h q => ?_) (fun wX hx' q hnX => ?_)
  · obtain ⟨u, e, lu, -⟩ := q
    exact ⟨lu.trans (SD_len sX).symm, _, e, rfl⟩
  obtain ⟨uX, eX, lX, ρ', α', sX', FX⟩ := q
  cases eX
  have kX := knd_int uX
  refine LW_pop (cdOk_spec tk_240 21 _ rfl) kX ?_
  refine LW_y (cdOk_spec tk_240 22 _ rfl) ?_
  refine LW_arg (n := 1) (q := i + 1) (cdOk_spec tk_240 23 _ rfl) (cdOk_spec tk_240 24 _ rfl) (cdOk_spec tk_240 25 _ rfl) (cdOk_spec tk_240 26 _ rfl) (cdOk_spec tk_240 27 _ rfl) (arg_in (n := 1) (by omega) hL) (arg_q (n := 1) (by omega) hL) ?_
  refine LW_callY (N := mX7_undo) (as := [.int (xs (i + 1))]) (st := []) (cdOk_spec tk_240 28 _ rfl) (mt_ok (k := 113) rfl).1 (chkW_in (i := 920) (by decide +kernel)) (chkW_in (i := 921) (by decide +kernel)) (chkW_in (i := 922) (by decide +kernel)) ((mt_ok (k := 113) (M := mX7_undo) rfl).2.trans rfl) oY1 rfl rfl (Nat.zero_le _) ⟨by decide, by decide⟩ cY (fun v h q => ?_) (fun wY hy' q hnY => ?_)
  · obtain ⟨u, e, lu, -⟩ := q
    exact ⟨lu.trans (SD_len sY).symm, _, e, rfl⟩
  obtain ⟨uY, eY, lY, σ', β', sY', FY⟩ := q
  cases eY
  have kY := knd_int uY
  refine LW_pop (cdOk_spec tk_240 31 _ rfl) kY ?_
  exact LW_goto (t := 1337) (cdOk_spec tk_240 32 _ rfl) (by decide) (K _ _ ⟨ρ', α', σ', β', sX', sY', (by obtain ⟨n4, n5, n6, n7, n13, k2, k4, k15, k16, k19, k20, k21, k23, k24, k25, k32, k33, k34, k41, k42, k43, k44, k45, k46, f0, f1, -⟩ := FX; obtain ⟨m4, m5, m6, m7, m12, l2, l9, l10, l11, l12, l13, l14, l15, l16, l26, l27, l28, l30, l31, l32, l33, g0, -⟩ := FY; have W := tx_undo R.1.1 R.1.2.2 f0 g0; unfold RA RX at R ⊢; simp only [← n4, ← n5, ← n6, ← n7, ← n13, ← k2, ← k4, ← k15, ← k16, ← k19, ← k20, ← k21, ← k23, ← k24, ← k25, ← k32, ← k33, ← k34, ← k41, ← k42, ← k43, ← k44, ← k45, ← k46, ← m4, ← m5, ← m6, ← m7, ← m12, ← l2, ← l9, ← l10, ← l11, ← l12, ← l13, ← l14, ← l15, ← l16, ← l26, ← l27, ← l28, ← l30, ← l31, ← l32, ← l33] at R W f1; obtain ⟨⟨ra, rb, rc⟩, R2, R3, R4, R5, R6, R7, R8, R9⟩ := R; exact ⟨⟨W.2.1, f1, W.2.2⟩, R2, R3, R4, R5, R6, R7, R8, R9⟩)⟩)
theorem case_fault {b L i : Nat} {xs : Nat → Int32} {aX aY : Nat} {hx hy : AH} (hi : i + 6 ≤ L) (hL : L ≤ 3072) (I : INV hx hy) (K : ∀ hx' hy', INV hx' hy' → LW b L xs 93 2553 1337 (nI i) [] aX aY hx' hy') : LW b L xs 93 2553 275 (nI i) [] aX aY hx hy := by
  obtain ⟨ρ, α, σ, β, sX, sY, R⟩ := I
  have cX := sx_fault sX (trivial) (xs (i + 1))
  have cY := sy_fault sY R.1.1 (xs (i + 1))
  obtain ⟨fX, oX1⟩ := SD_obj (ci := 6) sX rfl
  obtain ⟨fY, oY1⟩ := SD_obj (ci := 7) sY rfl
  refine LW_x (cdOk_spec tk_240 35 _ rfl) ?_
  refine LW_arg (n := 1) (q := i + 1) (cdOk_spec tk_240 36 _ rfl) (cdOk_spec tk_240 37 _ rfl) (cdOk_spec tk_240 38 _ rfl) (cdOk_spec tk_240 39 _ rfl) (cdOk_spec tk_240 40 _ rfl) (arg_in (n := 1) (by omega) hL) (arg_q (n := 1) (by omega) hL) ?_
  refine LW_callX (N := mX6_fault) (as := [.int (xs (i + 1))]) (st := []) (cdOk_spec tk_240 41 _ rfl) (mt_ok (k := 46) rfl).1 (chkW_in (i := 388) (by decide +kernel)) (chkW_in (i := 389) (by decide +kernel)) (chkW_in (i := 390) (by decide +kernel)) ((mt_ok (k := 46) (M := mX6_fault) rfl).2.trans rfl) oX1 rfl rfl (Nat.zero_le _) ⟨by decide, by decide⟩ cX (fun v h q => ?_) (fun wX hx' q hnX => ?_)
  · obtain ⟨u, e, lu, -⟩ := q
    exact ⟨lu.trans (SD_len sX).symm, _, e, rfl⟩
  obtain ⟨uX, eX, lX, ρ', α', sX', FX⟩ := q
  cases eX
  have kX := knd_int uX
  refine LW_pop (cdOk_spec tk_240 44 _ rfl) kX ?_
  refine LW_y (cdOk_spec tk_240 45 _ rfl) ?_
  refine LW_arg (n := 1) (q := i + 1) (cdOk_spec tk_240 46 _ rfl) (cdOk_spec tk_240 47 _ rfl) (cdOk_spec tk_240 48 _ rfl) (cdOk_spec tk_240 49 _ rfl) (cdOk_spec tk_240 50 _ rfl) (arg_in (n := 1) (by omega) hL) (arg_q (n := 1) (by omega) hL) ?_
  refine LW_callY (N := mX7_fault) (as := [.int (xs (i + 1))]) (st := []) (cdOk_spec tk_240 51 _ rfl) (mt_ok (k := 120) rfl).1 (chkW_in (i := 924) (by decide +kernel)) (chkW_in (i := 925) (by decide +kernel)) (chkW_in (i := 926) (by decide +kernel)) ((mt_ok (k := 120) (M := mX7_fault) rfl).2.trans rfl) oY1 rfl rfl (Nat.zero_le _) ⟨by decide, by decide⟩ cY (fun v h q => ?_) (fun wY hy' q hnY => ?_)
  · obtain ⟨u, e, lu, -⟩ := q
    exact ⟨lu.trans (SD_len sY).symm, _, e, rfl⟩
  obtain ⟨uY, eY, lY, σ', β', sY', FY⟩ := q
  cases eY
  have kY := knd_int uY
  refine LW_pop (cdOk_spec tk_240 54 _ rfl) kY ?_
  exact LW_goto (t := 1337) (cdOk_spec tk_240 55 _ rfl) (by decide) (K _ _ ⟨ρ', α', σ', β', sX', sY', (by obtain ⟨n0, n1, n2, n3, n4, n5, n6, n7, n13, k2, k4, k7, k8, k10, k11, k12, k13, k15, k16, k19, k20, k21, k23, k24, k25, k32, k33, k34, k41, k42, k43, k44, k45, k46, -⟩ := FX; obtain ⟨m4, m5, m6, m7, m12, l1, l2, l9, l10, l11, l12, l13, l14, l15, l16, l26, l27, l28, l30, l31, l32, l33, -⟩ := FY; unfold RA RX at R ⊢; simp only [← n0, ← n1, ← n2, ← n3, ← n4, ← n5, ← n6, ← n7, ← n13, ← k2, ← k4, ← k7, ← k8, ← k10, ← k11, ← k12, ← k13, ← k15, ← k16, ← k19, ← k20, ← k21, ← k23, ← k24, ← k25, ← k32, ← k33, ← k34, ← k41, ← k42, ← k43, ← k44, ← k45, ← k46, ← m4, ← m5, ← m6, ← m7, ← m12, ← l1, ← l2, ← l9, ← l10, ← l11, ← l12, ← l13, ← l14, ← l15, ← l16, ← l26, ← l27, ← l28, ← l30, ← l31, ← l32, ← l33] at R; obtain ⟨⟨ra, rb, rc⟩, R2, R3, R4, R5, R6, R7, R8, R9⟩ := R; exact ⟨⟨ra, rb, rc⟩, R2, R3, R4, R5, R6, R7, R8, R9⟩)⟩)
theorem case_person {b L i : Nat} {xs : Nat → Int32} {aX aY : Nat} {hx hy : AH} (hi : i + 6 ≤ L) (hL : L ≤ 3072) (I : INV hx hy) (K : ∀ hx' hy', INV hx' hy' → LW b L xs 93 2553 1337 (nI i) [] aX aY hx' hy') : LW b L xs 93 2553 298 (nI i) [] aX aY hx hy := by
  obtain ⟨ρ, α, σ, β, sX, sY, R⟩ := I
  have cX := sx_person sX (trivial) (xs (i + 1)) (xs (i + 2))
  have cY := sy_person sY R.1.1 (xs (i + 1)) (xs (i + 2))
  obtain ⟨fX, oX1⟩ := SD_obj (ci := 6) sX rfl
  obtain ⟨fY, oY1⟩ := SD_obj (ci := 7) sY rfl
  refine LW_x (cdOk_spec tk_240 58 _ rfl) ?_
  refine LW_arg (n := 1) (q := i + 1) (cdOk_spec tk_240 59 _ rfl) (cdOk_spec tk_300 0 _ rfl) (cdOk_spec tk_300 1 _ rfl) (cdOk_spec tk_300 2 _ rfl) (cdOk_spec tk_300 3 _ rfl) (arg_in (n := 1) (by omega) hL) (arg_q (n := 1) (by omega) hL) ?_
  refine LW_arg (n := 2) (q := i + 2) (cdOk_spec tk_300 4 _ rfl) (cdOk_spec tk_300 5 _ rfl) (cdOk_spec tk_300 6 _ rfl) (cdOk_spec tk_300 7 _ rfl) (cdOk_spec tk_300 8 _ rfl) (arg_in (n := 2) (by omega) hL) (arg_q (n := 2) (by omega) hL) ?_
  refine LW_callX (N := mX6_person) (as := [.int (xs (i + 1)), .int (xs (i + 2))]) (st := []) (cdOk_spec tk_300 9 _ rfl) (mt_ok (k := 47) rfl).1 (chkW_in (i := 393) (by decide +kernel)) (chkW_in (i := 394) (by decide +kernel)) (chkW_in (i := 395) (by decide +kernel)) ((mt_ok (k := 47) (M := mX6_person) rfl).2.trans rfl) oX1 rfl rfl (Nat.zero_le _) ⟨by decide, by decide⟩ cX (fun v h q => ?_) (fun wX hx' q hnX => ?_)
  · obtain ⟨u, e, lu, -⟩ := q
    exact ⟨lu.trans (SD_len sX).symm, _, e, rfl⟩
  obtain ⟨uX, eX, lX, ρ', α', sX', FX⟩ := q
  cases eX
  have kX := knd_int uX
  refine LW_pop (cdOk_spec tk_300 12 _ rfl) kX ?_
  refine LW_y (cdOk_spec tk_300 13 _ rfl) ?_
  refine LW_arg (n := 1) (q := i + 1) (cdOk_spec tk_300 14 _ rfl) (cdOk_spec tk_300 15 _ rfl) (cdOk_spec tk_300 16 _ rfl) (cdOk_spec tk_300 17 _ rfl) (cdOk_spec tk_300 18 _ rfl) (arg_in (n := 1) (by omega) hL) (arg_q (n := 1) (by omega) hL) ?_
  refine LW_arg (n := 2) (q := i + 2) (cdOk_spec tk_300 19 _ rfl) (cdOk_spec tk_300 20 _ rfl) (cdOk_spec tk_300 21 _ rfl) (cdOk_spec tk_300 22 _ rfl) (cdOk_spec tk_300 23 _ rfl) (arg_in (n := 2) (by omega) hL) (arg_q (n := 2) (by omega) hL) ?_
  refine LW_callY (N := mX7_person) (as := [.int (xs (i + 1)), .int (xs (i + 2))]) (st := []) (cdOk_spec tk_300 24 _ rfl) (mt_ok (k := 124) rfl).1 (chkW_in (i := 948) (by decide +kernel)) (chkW_in (i := 949) (by decide +kernel)) (chkW_in (i := 950) (by decide +kernel)) ((mt_ok (k := 124) (M := mX7_person) rfl).2.trans rfl) oY1 rfl rfl (Nat.zero_le _) ⟨by decide, by decide⟩ cY (fun v h q => ?_) (fun wY hy' q hnY => ?_)
  · obtain ⟨u, e, lu, -⟩ := q
    exact ⟨lu.trans (SD_len sY).symm, _, e, rfl⟩
  obtain ⟨uY, eY, lY, σ', β', sY', FY⟩ := q
  cases eY
  have kY := knd_int uY
  refine LW_pop (cdOk_spec tk_300 27 _ rfl) kY ?_
  exact LW_goto (t := 1337) (cdOk_spec tk_300 28 _ rfl) (by decide) (K _ _ ⟨ρ', α', σ', β', sX', sY', (by obtain ⟨n0, n1, n2, n3, n4, n5, n6, n7, n13, k2, k4, k7, k8, k10, k11, k12, k13, k15, k16, k19, k20, k21, k23, k24, k25, k32, k33, k34, k41, k42, k43, k44, k45, k46, -⟩ := FX; obtain ⟨m4, m5, m6, m7, m12, l1, l2, l9, l10, l11, l12, l13, l14, l15, l16, l26, l27, l28, l30, l31, l32, l33, -⟩ := FY; unfold RA RX at R ⊢; simp only [← n0, ← n1, ← n2, ← n3, ← n4, ← n5, ← n6, ← n7, ← n13, ← k2, ← k4, ← k7, ← k8, ← k10, ← k11, ← k12, ← k13, ← k15, ← k16, ← k19, ← k20, ← k21, ← k23, ← k24, ← k25, ← k32, ← k33, ← k34, ← k41, ← k42, ← k43, ← k44, ← k45, ← k46, ← m4, ← m5, ← m6, ← m7, ← m12, ← l1, ← l2, ← l9, ← l10, ← l11, ← l12, ← l13, ← l14, ← l15, ← l16, ← l26, ← l27, ← l28, ← l30, ← l31, ← l32, ← l33] at R; obtain ⟨⟨ra, rb, rc⟩, R2, R3, R4, R5, R6, R7, R8, R9⟩ := R; exact ⟨⟨ra, rb, rc⟩, R2, R3, R4, R5, R6, R7, R8, R9⟩)⟩)
theorem case_promise {b L i : Nat} {xs : Nat → Int32} {aX aY : Nat} {hx hy : AH} (hi : i + 6 ≤ L) (hL : L ≤ 3072) (I : INV hx hy) (K : ∀ hx' hy', INV hx' hy' → LW b L xs 93 2553 1337 (nI i) [] aX aY hx' hy') : LW b L xs 93 2553 331 (nI i) [] aX aY hx hy := by
  obtain ⟨ρ, α, σ, β, sX, sY, R⟩ := I
  have cX := sx_promise sX (trivial) (xs (i + 1)) (xs (i + 2))
  have cY := sy_promise sY R.1.1 (xs (i + 1)) (xs (i + 2))
  obtain ⟨fX, oX1⟩ := SD_obj (ci := 6) sX rfl
  obtain ⟨fY, oY1⟩ := SD_obj (ci := 7) sY rfl
  refine LW_x (cdOk_spec tk_300 31 _ rfl) ?_
  refine LW_arg (n := 1) (q := i + 1) (cdOk_spec tk_300 32 _ rfl) (cdOk_spec tk_300 33 _ rfl) (cdOk_spec tk_300 34 _ rfl) (cdOk_spec tk_300 35 _ rfl) (cdOk_spec tk_300 36 _ rfl) (arg_in (n := 1) (by omega) hL) (arg_q (n := 1) (by omega) hL) ?_
  refine LW_arg (n := 2) (q := i + 2) (cdOk_spec tk_300 37 _ rfl) (cdOk_spec tk_300 38 _ rfl) (cdOk_spec tk_300 39 _ rfl) (cdOk_spec tk_300 40 _ rfl) (cdOk_spec tk_300 41 _ rfl) (arg_in (n := 2) (by omega) hL) (arg_q (n := 2) (by omega) hL) ?_
  refine LW_callX (N := mX6_promise) (as := [.int (xs (i + 1)), .int (xs (i + 2))]) (st := []) (cdOk_spec tk_300 42 _ rfl) (mt_ok (k := 48) rfl).1 (chkW_in (i := 401) (by decide +kernel)) (chkW_in (i := 402) (by decide +kernel)) (chkW_in (i := 403) (by decide +kernel)) ((mt_ok (k := 48) (M := mX6_promise) rfl).2.trans rfl) oX1 rfl rfl (Nat.zero_le _) ⟨by decide, by decide⟩ cX (fun v h q => ?_) (fun wX hx' q hnX => ?_)
  · obtain ⟨u, e, lu, -⟩ := q
    exact ⟨lu.trans (SD_len sX).symm, _, e, rfl⟩
  obtain ⟨uX, eX, lX, ρ', α', sX', FX⟩ := q
  cases eX
  have kX := knd_int uX
  refine LW_pop (cdOk_spec tk_300 45 _ rfl) kX ?_
  refine LW_y (cdOk_spec tk_300 46 _ rfl) ?_
  refine LW_arg (n := 1) (q := i + 1) (cdOk_spec tk_300 47 _ rfl) (cdOk_spec tk_300 48 _ rfl) (cdOk_spec tk_300 49 _ rfl) (cdOk_spec tk_300 50 _ rfl) (cdOk_spec tk_300 51 _ rfl) (arg_in (n := 1) (by omega) hL) (arg_q (n := 1) (by omega) hL) ?_
  refine LW_arg (n := 2) (q := i + 2) (cdOk_spec tk_300 52 _ rfl) (cdOk_spec tk_300 53 _ rfl) (cdOk_spec tk_300 54 _ rfl) (cdOk_spec tk_300 55 _ rfl) (cdOk_spec tk_300 56 _ rfl) (arg_in (n := 2) (by omega) hL) (arg_q (n := 2) (by omega) hL) ?_
  refine LW_callY (N := mX7_promise) (as := [.int (xs (i + 1)), .int (xs (i + 2))]) (st := []) (cdOk_spec tk_300 57 _ rfl) (mt_ok (k := 126) rfl).1 (chkW_in (i := 964) (by decide +kernel)) (chkW_in (i := 965) (by decide +kernel)) (chkW_in (i := 966) (by decide +kernel)) ((mt_ok (k := 126) (M := mX7_promise) rfl).2.trans rfl) oY1 rfl rfl (Nat.zero_le _) ⟨by decide, by decide⟩ cY (fun v h q => ?_) (fun wY hy' q hnY => ?_)
  · obtain ⟨u, e, lu, -⟩ := q
    exact ⟨lu.trans (SD_len sY).symm, _, e, rfl⟩
  obtain ⟨uY, eY, lY, σ', β', sY', FY⟩ := q
  cases eY
  have kY := knd_int uY
  refine LW_pop (cdOk_spec tk_360 0 _ rfl) kY ?_
  exact LW_goto (t := 1337) (cdOk_spec tk_360 1 _ rfl) (by decide) (K _ _ ⟨ρ', α', σ', β', sX', sY', (by obtain ⟨n0, n1, n2, n3, n4, n5, n6, n7, n13, k2, k4, k7, k8, k10, k11, k12, k13, k15, k16, k19, k20, k21, k23, k24, k25, k32, k33, k34, k41, k42, k43, k44, k45, k46, -⟩ := FX; obtain ⟨m4, m5, m6, m7, m12, l1, l2, l9, l10, l11, l12, l13, l14, l15, l16, l26, l27, l28, l30, l31, l32, l33, -⟩ := FY; unfold RA RX at R ⊢; simp only [← n0, ← n1, ← n2, ← n3, ← n4, ← n5, ← n6, ← n7, ← n13, ← k2, ← k4, ← k7, ← k8, ← k10, ← k11, ← k12, ← k13, ← k15, ← k16, ← k19, ← k20, ← k21, ← k23, ← k24, ← k25, ← k32, ← k33, ← k34, ← k41, ← k42, ← k43, ← k44, ← k45, ← k46, ← m4, ← m5, ← m6, ← m7, ← m12, ← l1, ← l2, ← l9, ← l10, ← l11, ← l12, ← l13, ← l14, ← l15, ← l16, ← l26, ← l27, ← l28, ← l30, ← l31, ← l32, ← l33] at R; obtain ⟨⟨ra, rb, rc⟩, R2, R3, R4, R5, R6, R7, R8, R9⟩ := R; exact ⟨⟨ra, rb, rc⟩, R2, R3, R4, R5, R6, R7, R8, R9⟩)⟩)
theorem case_keeping {b L i : Nat} {xs : Nat → Int32} {aX aY : Nat} {hx hy : AH} (hi : i + 6 ≤ L) (hL : L ≤ 3072) (I : INV hx hy) (K : ∀ hx' hy', INV hx' hy' → LW b L xs 93 2553 1337 (nI i) [] aX aY hx' hy') : LW b L xs 93 2553 364 (nI i) [] aX aY hx hy := by
  obtain ⟨ρ, α, σ, β, sX, sY, R⟩ := I
  have cX := sx_keeping sX (trivial) (xs (i + 1)) (xs (i + 2))
  have cY := sy_keeping sY R.1.1 (xs (i + 1)) (xs (i + 2))
  obtain ⟨fX, oX1⟩ := SD_obj (ci := 6) sX rfl
  obtain ⟨fY, oY1⟩ := SD_obj (ci := 7) sY rfl
  refine LW_x (cdOk_spec tk_360 4 _ rfl) ?_
  refine LW_arg (n := 1) (q := i + 1) (cdOk_spec tk_360 5 _ rfl) (cdOk_spec tk_360 6 _ rfl) (cdOk_spec tk_360 7 _ rfl) (cdOk_spec tk_360 8 _ rfl) (cdOk_spec tk_360 9 _ rfl) (arg_in (n := 1) (by omega) hL) (arg_q (n := 1) (by omega) hL) ?_
  refine LW_arg (n := 2) (q := i + 2) (cdOk_spec tk_360 10 _ rfl) (cdOk_spec tk_360 11 _ rfl) (cdOk_spec tk_360 12 _ rfl) (cdOk_spec tk_360 13 _ rfl) (cdOk_spec tk_360 14 _ rfl) (arg_in (n := 2) (by omega) hL) (arg_q (n := 2) (by omega) hL) ?_
  refine LW_callX (N := mX6_keeping) (as := [.int (xs (i + 1)), .int (xs (i + 2))]) (st := []) (cdOk_spec tk_360 15 _ rfl) (mt_ok (k := 49) rfl).1 (chkW_in (i := 409) (by decide +kernel)) (chkW_in (i := 410) (by decide +kernel)) (chkW_in (i := 411) (by decide +kernel)) ((mt_ok (k := 49) (M := mX6_keeping) rfl).2.trans rfl) oX1 rfl rfl (Nat.zero_le _) ⟨by decide, by decide⟩ cX (fun v h q => ?_) (fun wX hx' q hnX => ?_)
  · obtain ⟨u, e, lu, -⟩ := q
    exact ⟨lu.trans (SD_len sX).symm, _, e, rfl⟩
  obtain ⟨uX, eX, lX, ρ', α', sX', FX⟩ := q
  cases eX
  have kX := knd_int uX
  refine LW_pop (cdOk_spec tk_360 18 _ rfl) kX ?_
  refine LW_y (cdOk_spec tk_360 19 _ rfl) ?_
  refine LW_arg (n := 1) (q := i + 1) (cdOk_spec tk_360 20 _ rfl) (cdOk_spec tk_360 21 _ rfl) (cdOk_spec tk_360 22 _ rfl) (cdOk_spec tk_360 23 _ rfl) (cdOk_spec tk_360 24 _ rfl) (arg_in (n := 1) (by omega) hL) (arg_q (n := 1) (by omega) hL) ?_
  refine LW_arg (n := 2) (q := i + 2) (cdOk_spec tk_360 25 _ rfl) (cdOk_spec tk_360 26 _ rfl) (cdOk_spec tk_360 27 _ rfl) (cdOk_spec tk_360 28 _ rfl) (cdOk_spec tk_360 29 _ rfl) (arg_in (n := 2) (by omega) hL) (arg_q (n := 2) (by omega) hL) ?_
  refine LW_callY (N := mX7_keeping) (as := [.int (xs (i + 1)), .int (xs (i + 2))]) (st := []) (cdOk_spec tk_360 30 _ rfl) (mt_ok (k := 127) rfl).1 (chkW_in (i := 976) (by decide +kernel)) (chkW_in (i := 977) (by decide +kernel)) (chkW_in (i := 978) (by decide +kernel)) ((mt_ok (k := 127) (M := mX7_keeping) rfl).2.trans rfl) oY1 rfl rfl (Nat.zero_le _) ⟨by decide, by decide⟩ cY (fun v h q => ?_) (fun wY hy' q hnY => ?_)
  · obtain ⟨u, e, lu, -⟩ := q
    exact ⟨lu.trans (SD_len sY).symm, _, e, rfl⟩
  obtain ⟨uY, eY, lY, σ', β', sY', FY⟩ := q
  cases eY
  have kY := knd_int uY
  refine LW_pop (cdOk_spec tk_360 33 _ rfl) kY ?_
  exact LW_goto (t := 1337) (cdOk_spec tk_360 34 _ rfl) (by decide) (K _ _ ⟨ρ', α', σ', β', sX', sY', (by obtain ⟨n0, n1, n2, n3, n5, n6, n7, n13, k2, k4, k7, k8, k10, k11, k12, k13, k19, k20, k21, k23, k24, k25, k32, k33, k34, k41, k42, k43, k44, k45, k46, f0, -⟩ := FX; obtain ⟨m5, m6, m7, m12, l1, l2, l11, l12, l13, l14, l15, l16, l26, l27, l28, l30, l31, l32, l33, g0, -⟩ := FY; have W := kR_add R.2.2.2.2.1 f0 g0; unfold RA RX at R ⊢; simp only [← n0, ← n1, ← n2, ← n3, ← n5, ← n6, ← n7, ← n13, ← k2, ← k4, ← k7, ← k8, ← k10, ← k11, ← k12, ← k13, ← k19, ← k20, ← k21, ← k23, ← k24, ← k25, ← k32, ← k33, ← k34, ← k41, ← k42, ← k43, ← k44, ← k45, ← k46, ← m5, ← m6, ← m7, ← m12, ← l1, ← l2, ← l11, ← l12, ← l13, ← l14, ← l15, ← l16, ← l26, ← l27, ← l28, ← l30, ← l31, ← l32, ← l33] at R W; obtain ⟨⟨ra, rb, rc⟩, R2, R3, R4, R5, R6, R7, R8, R9⟩ := R; exact ⟨⟨ra, rb, rc⟩, R2, R3, R4, W.2, R6, R7, R8, R9⟩)⟩)
theorem case_lie {b L i : Nat} {xs : Nat → Int32} {aX aY : Nat} {hx hy : AH} (hi : i + 6 ≤ L) (hL : L ≤ 3072) (I : INV hx hy) (K : ∀ hx' hy', INV hx' hy' → LW b L xs 93 2553 1337 (nI i) [] aX aY hx' hy') : LW b L xs 93 2553 397 (nI i) [] aX aY hx hy := by
  obtain ⟨ρ, α, σ, β, sX, sY, R⟩ := I
  have cX := sx_lie sX (trivial) (xs (i + 1)) (xs (i + 2)) (xs (i + 3))
  have cY := sy_lie sY R.1.1 (xs (i + 1)) (xs (i + 2)) (xs (i + 3))
  obtain ⟨fX, oX1⟩ := SD_obj (ci := 6) sX rfl
  obtain ⟨fY, oY1⟩ := SD_obj (ci := 7) sY rfl
  refine LW_x (cdOk_spec tk_360 37 _ rfl) ?_
  refine LW_arg (n := 1) (q := i + 1) (cdOk_spec tk_360 38 _ rfl) (cdOk_spec tk_360 39 _ rfl) (cdOk_spec tk_360 40 _ rfl) (cdOk_spec tk_360 41 _ rfl) (cdOk_spec tk_360 42 _ rfl) (arg_in (n := 1) (by omega) hL) (arg_q (n := 1) (by omega) hL) ?_
  refine LW_arg (n := 2) (q := i + 2) (cdOk_spec tk_360 43 _ rfl) (cdOk_spec tk_360 44 _ rfl) (cdOk_spec tk_360 45 _ rfl) (cdOk_spec tk_360 46 _ rfl) (cdOk_spec tk_360 47 _ rfl) (arg_in (n := 2) (by omega) hL) (arg_q (n := 2) (by omega) hL) ?_
  refine LW_arg (n := 3) (q := i + 3) (cdOk_spec tk_360 48 _ rfl) (cdOk_spec tk_360 49 _ rfl) (cdOk_spec tk_360 50 _ rfl) (cdOk_spec tk_360 51 _ rfl) (cdOk_spec tk_360 52 _ rfl) (arg_in (n := 3) (by omega) hL) (arg_q (n := 3) (by omega) hL) ?_
  refine LW_callX (N := mX6_lie) (as := [.int (xs (i + 1)), .int (xs (i + 2)), .int (xs (i + 3))]) (st := []) (cdOk_spec tk_360 53 _ rfl) (mt_ok (k := 50) rfl).1 (chkW_in (i := 427) (by decide +kernel)) (chkW_in (i := 428) (by decide +kernel)) (chkW_in (i := 429) (by decide +kernel)) ((mt_ok (k := 50) (M := mX6_lie) rfl).2.trans rfl) oX1 rfl rfl (Nat.zero_le _) ⟨by decide, by decide⟩ cX (fun v h q => ?_) (fun wX hx' q hnX => ?_)
  · obtain ⟨u, e, lu, -⟩ := q
    exact ⟨lu.trans (SD_len sX).symm, _, e, rfl⟩
  obtain ⟨uX, eX, lX, ρ', α', sX', FX⟩ := q
  cases eX
  have kX := knd_int uX
  refine LW_pop (cdOk_spec tk_360 56 _ rfl) kX ?_
  refine LW_y (cdOk_spec tk_360 57 _ rfl) ?_
  refine LW_arg (n := 1) (q := i + 1) (cdOk_spec tk_360 58 _ rfl) (cdOk_spec tk_360 59 _ rfl) (cdOk_spec tk_420 0 _ rfl) (cdOk_spec tk_420 1 _ rfl) (cdOk_spec tk_420 2 _ rfl) (arg_in (n := 1) (by omega) hL) (arg_q (n := 1) (by omega) hL) ?_
  refine LW_arg (n := 2) (q := i + 2) (cdOk_spec tk_420 3 _ rfl) (cdOk_spec tk_420 4 _ rfl) (cdOk_spec tk_420 5 _ rfl) (cdOk_spec tk_420 6 _ rfl) (cdOk_spec tk_420 7 _ rfl) (arg_in (n := 2) (by omega) hL) (arg_q (n := 2) (by omega) hL) ?_
  refine LW_arg (n := 3) (q := i + 3) (cdOk_spec tk_420 8 _ rfl) (cdOk_spec tk_420 9 _ rfl) (cdOk_spec tk_420 10 _ rfl) (cdOk_spec tk_420 11 _ rfl) (cdOk_spec tk_420 12 _ rfl) (arg_in (n := 3) (by omega) hL) (arg_q (n := 3) (by omega) hL) ?_
  refine LW_callY (N := mX7_lie) (as := [.int (xs (i + 1)), .int (xs (i + 2)), .int (xs (i + 3))]) (st := []) (cdOk_spec tk_420 13 _ rfl) (mt_ok (k := 128) rfl).1 (chkW_in (i := 983) (by decide +kernel)) (chkW_in (i := 984) (by decide +kernel)) (chkW_in (i := 985) (by decide +kernel)) ((mt_ok (k := 128) (M := mX7_lie) rfl).2.trans rfl) oY1 rfl rfl (Nat.zero_le _) ⟨by decide, by decide⟩ cY (fun v h q => ?_) (fun wY hy' q hnY => ?_)
  · obtain ⟨u, e, lu, -⟩ := q
    exact ⟨lu.trans (SD_len sY).symm, _, e, rfl⟩
  obtain ⟨uY, eY, lY, σ', β', sY', FY⟩ := q
  cases eY
  have kY := knd_int uY
  refine LW_pop (cdOk_spec tk_420 16 _ rfl) kY ?_
  exact LW_goto (t := 1337) (cdOk_spec tk_420 17 _ rfl) (by decide) (K _ _ ⟨ρ', α', σ', β', sX', sY', (by obtain ⟨n0, n1, n2, n3, n4, n6, n7, n13, k2, k4, k7, k8, k10, k11, k12, k13, k15, k16, k23, k24, k25, k32, k33, k34, k41, k42, k43, k44, k45, k46, f0, -⟩ := FX; obtain ⟨m4, m6, m7, m12, l1, l2, l9, l10, l14, l15, l16, l26, l27, l28, l30, l31, l32, l33, g0, -⟩ := FY; have W := tR_add R.2.2.2.2.2.1 f0 g0; unfold RA RX at R ⊢; simp only [← n0, ← n1, ← n2, ← n3, ← n4, ← n6, ← n7, ← n13, ← k2, ← k4, ← k7, ← k8, ← k10, ← k11, ← k12, ← k13, ← k15, ← k16, ← k23, ← k24, ← k25, ← k32, ← k33, ← k34, ← k41, ← k42, ← k43, ← k44, ← k45, ← k46, ← m4, ← m6, ← m7, ← m12, ← l1, ← l2, ← l9, ← l10, ← l14, ← l15, ← l16, ← l26, ← l27, ← l28, ← l30, ← l31, ← l32, ← l33] at R W; obtain ⟨⟨ra, rb, rc⟩, R2, R3, R4, R5, R6, R7, R8, R9⟩ := R; exact ⟨⟨ra, rb, rc⟩, R2, R3, R4, R5, W.2, R7, R8, R9⟩)⟩)
theorem case_letting {b L i : Nat} {xs : Nat → Int32} {aX aY : Nat} {hx hy : AH} (hi : i + 6 ≤ L) (hL : L ≤ 3072) (I : INV hx hy) (K : ∀ hx' hy', INV hx' hy' → LW b L xs 93 2553 1337 (nI i) [] aX aY hx' hy') : LW b L xs 93 2553 440 (nI i) [] aX aY hx hy := by
  obtain ⟨ρ, α, σ, β, sX, sY, R⟩ := I
  have cX := sx_letting sX (trivial) (xs (i + 1)) (xs (i + 2)) (xs (i + 3))
  have cY := sy_letting sY R.1.1 (xs (i + 1)) (xs (i + 2)) (xs (i + 3))
  obtain ⟨fX, oX1⟩ := SD_obj (ci := 6) sX rfl
  obtain ⟨fY, oY1⟩ := SD_obj (ci := 7) sY rfl
  refine LW_x (cdOk_spec tk_420 20 _ rfl) ?_
  refine LW_arg (n := 1) (q := i + 1) (cdOk_spec tk_420 21 _ rfl) (cdOk_spec tk_420 22 _ rfl) (cdOk_spec tk_420 23 _ rfl) (cdOk_spec tk_420 24 _ rfl) (cdOk_spec tk_420 25 _ rfl) (arg_in (n := 1) (by omega) hL) (arg_q (n := 1) (by omega) hL) ?_
  refine LW_arg (n := 2) (q := i + 2) (cdOk_spec tk_420 26 _ rfl) (cdOk_spec tk_420 27 _ rfl) (cdOk_spec tk_420 28 _ rfl) (cdOk_spec tk_420 29 _ rfl) (cdOk_spec tk_420 30 _ rfl) (arg_in (n := 2) (by omega) hL) (arg_q (n := 2) (by omega) hL) ?_
  refine LW_arg (n := 3) (q := i + 3) (cdOk_spec tk_420 31 _ rfl) (cdOk_spec tk_420 32 _ rfl) (cdOk_spec tk_420 33 _ rfl) (cdOk_spec tk_420 34 _ rfl) (cdOk_spec tk_420 35 _ rfl) (arg_in (n := 3) (by omega) hL) (arg_q (n := 3) (by omega) hL) ?_
  refine LW_callX (N := mX6_letting) (as := [.int (xs (i + 1)), .int (xs (i + 2)), .int (xs (i + 3))]) (st := []) (cdOk_spec tk_420 36 _ rfl) (mt_ok (k := 51) rfl).1 (chkW_in (i := 437) (by decide +kernel)) (chkW_in (i := 438) (by decide +kernel)) (chkW_in (i := 439) (by decide +kernel)) ((mt_ok (k := 51) (M := mX6_letting) rfl).2.trans rfl) oX1 rfl rfl (Nat.zero_le _) ⟨by decide, by decide⟩ cX (fun v h q => ?_) (fun wX hx' q hnX => ?_)
  · obtain ⟨u, e, lu, -⟩ := q
    exact ⟨lu.trans (SD_len sX).symm, _, e, rfl⟩
  obtain ⟨uX, eX, lX, ρ', α', sX', FX⟩ := q
  cases eX
  have kX := knd_int uX
  refine LW_pop (cdOk_spec tk_420 39 _ rfl) kX ?_
  refine LW_y (cdOk_spec tk_420 40 _ rfl) ?_
  refine LW_arg (n := 1) (q := i + 1) (cdOk_spec tk_420 41 _ rfl) (cdOk_spec tk_420 42 _ rfl) (cdOk_spec tk_420 43 _ rfl) (cdOk_spec tk_420 44 _ rfl) (cdOk_spec tk_420 45 _ rfl) (arg_in (n := 1) (by omega) hL) (arg_q (n := 1) (by omega) hL) ?_
  refine LW_arg (n := 2) (q := i + 2) (cdOk_spec tk_420 46 _ rfl) (cdOk_spec tk_420 47 _ rfl) (cdOk_spec tk_420 48 _ rfl) (cdOk_spec tk_420 49 _ rfl) (cdOk_spec tk_420 50 _ rfl) (arg_in (n := 2) (by omega) hL) (arg_q (n := 2) (by omega) hL) ?_
  refine LW_arg (n := 3) (q := i + 3) (cdOk_spec tk_420 51 _ rfl) (cdOk_spec tk_420 52 _ rfl) (cdOk_spec tk_420 53 _ rfl) (cdOk_spec tk_420 54 _ rfl) (cdOk_spec tk_420 55 _ rfl) (arg_in (n := 3) (by omega) hL) (arg_q (n := 3) (by omega) hL) ?_
  refine LW_callY (N := mX7_letting) (as := [.int (xs (i + 1)), .int (xs (i + 2)), .int (xs (i + 3))]) (st := []) (cdOk_spec tk_420 56 _ rfl) (mt_ok (k := 129) rfl).1 (chkW_in (i := 990) (by decide +kernel)) (chkW_in (i := 991) (by decide +kernel)) (chkW_in (i := 992) (by decide +kernel)) ((mt_ok (k := 129) (M := mX7_letting) rfl).2.trans rfl) oY1 rfl rfl (Nat.zero_le _) ⟨by decide, by decide⟩ cY (fun v h q => ?_) (fun wY hy' q hnY => ?_)
  · obtain ⟨u, e, lu, -⟩ := q
    exact ⟨lu.trans (SD_len sY).symm, _, e, rfl⟩
  obtain ⟨uY, eY, lY, σ', β', sY', FY⟩ := q
  cases eY
  have kY := knd_int uY
  refine LW_pop (cdOk_spec tk_420 59 _ rfl) kY ?_
  exact LW_goto (t := 1337) (cdOk_spec tk_480 0 _ rfl) (by decide) (K _ _ ⟨ρ', α', σ', β', sX', sY', (by obtain ⟨n0, n1, n2, n3, n4, n5, n7, n13, k2, k4, k7, k8, k10, k11, k12, k13, k15, k16, k19, k20, k21, k32, k33, k34, k41, k42, k43, k44, k45, k46, f0, -⟩ := FX; obtain ⟨m4, m5, m7, m12, l1, l2, l9, l10, l11, l12, l13, l26, l27, l28, l30, l31, l32, l33, g0, -⟩ := FY; have W := tR_add R.2.2.2.2.2.2.1 f0 g0; unfold RA RX at R ⊢; simp only [← n0, ← n1, ← n2, ← n3, ← n4, ← n5, ← n7, ← n13, ← k2, ← k4, ← k7, ← k8, ← k10, ← k11, ← k12, ← k13, ← k15, ← k16, ← k19, ← k20, ← k21, ← k32, ← k33, ← k34, ← k41, ← k42, ← k43, ← k44, ← k45, ← k46, ← m4, ← m5, ← m7, ← m12, ← l1, ← l2, ← l9, ← l10, ← l11, ← l12, ← l13, ← l26, ← l27, ← l28, ← l30, ← l31, ← l32, ← l33] at R W; obtain ⟨⟨ra, rb, rc⟩, R2, R3, R4, R5, R6, R7, R8, R9⟩ := R; exact ⟨⟨ra, rb, rc⟩, R2, R3, R4, R5, R6, W.2, R8, R9⟩)⟩)
theorem case_back {b L i : Nat} {xs : Nat → Int32} {aX aY : Nat} {hx hy : AH} (hi : i + 6 ≤ L) (hL : L ≤ 3072) (I : INV hx hy) (K : ∀ hx' hy', INV hx' hy' → LW b L xs 93 2553 1337 (nI i) [] aX aY hx' hy') : LW b L xs 93 2553 483 (nI i) [] aX aY hx hy := by
  obtain ⟨ρ, α, σ, β, sX, sY, R⟩ := I
  have cX := sx_back sX (trivial) (xs (i + 1))
  have cY := sy_back sY R.1.1 (xs (i + 1))
  obtain ⟨fX, oX1⟩ := SD_obj (ci := 6) sX rfl
  obtain ⟨fY, oY1⟩ := SD_obj (ci := 7) sY rfl
  refine LW_x (cdOk_spec tk_480 3 _ rfl) ?_
  refine LW_arg (n := 1) (q := i + 1) (cdOk_spec tk_480 4 _ rfl) (cdOk_spec tk_480 5 _ rfl) (cdOk_spec tk_480 6 _ rfl) (cdOk_spec tk_480 7 _ rfl) (cdOk_spec tk_480 8 _ rfl) (arg_in (n := 1) (by omega) hL) (arg_q (n := 1) (by omega) hL) ?_
  refine LW_callX (N := mX6_back) (as := [.int (xs (i + 1))]) (st := []) (cdOk_spec tk_480 9 _ rfl) (mt_ok (k := 52) rfl).1 (chkW_in (i := 441) (by decide +kernel)) (chkW_in (i := 442) (by decide +kernel)) (chkW_in (i := 443) (by decide +kernel)) ((mt_ok (k := 52) (M := mX6_back) rfl).2.trans rfl) oX1 rfl rfl (Nat.zero_le _) ⟨by decide, by decide⟩ cX (fun v h q => ?_) (fun wX hx' q hnX => ?_)
  · obtain ⟨u, e, lu, -⟩ := q
    exact ⟨lu.trans (SD_len sX).symm, _, e, rfl⟩
  obtain ⟨uX, eX, lX, ρ', α', sX', FX⟩ := q
  cases eX
  have kX := knd_int uX
  refine LW_pop (cdOk_spec tk_480 12 _ rfl) kX ?_
  refine LW_y (cdOk_spec tk_480 13 _ rfl) ?_
  refine LW_arg (n := 1) (q := i + 1) (cdOk_spec tk_480 14 _ rfl) (cdOk_spec tk_480 15 _ rfl) (cdOk_spec tk_480 16 _ rfl) (cdOk_spec tk_480 17 _ rfl) (cdOk_spec tk_480 18 _ rfl) (arg_in (n := 1) (by omega) hL) (arg_q (n := 1) (by omega) hL) ?_
  refine LW_callY (N := mX7_back) (as := [.int (xs (i + 1))]) (st := []) (cdOk_spec tk_480 19 _ rfl) (mt_ok (k := 130) rfl).1 (chkW_in (i := 994) (by decide +kernel)) (chkW_in (i := 995) (by decide +kernel)) (chkW_in (i := 996) (by decide +kernel)) ((mt_ok (k := 130) (M := mX7_back) rfl).2.trans rfl) oY1 rfl rfl (Nat.zero_le _) ⟨by decide, by decide⟩ cY (fun v h q => ?_) (fun wY hy' q hnY => ?_)
  · obtain ⟨u, e, lu, -⟩ := q
    exact ⟨lu.trans (SD_len sY).symm, _, e, rfl⟩
  obtain ⟨uY, eY, lY, σ', β', sY', FY⟩ := q
  cases eY
  have kY := knd_int uY
  refine LW_pop (cdOk_spec tk_480 22 _ rfl) kY ?_
  exact LW_goto (t := 1337) (cdOk_spec tk_480 23 _ rfl) (by decide) (K _ _ ⟨ρ', α', σ', β', sX', sY', (by obtain ⟨n0, n1, n2, n3, n7, n13, k2, k4, k7, k8, k10, k11, k12, k13, k15, k16, k19, k20, k21, k23, k24, k25, k32, k33, k34, k41, k42, k43, k44, k45, k46, f0, -⟩ := FX; obtain ⟨m7, m12, l1, l2, l9, l10, l11, l12, l13, l14, l15, l16, l26, l27, l28, l30, l31, l32, l33, g0, -⟩ := FY; have W := ra_back R.2.2.2.2.1.1 R.2.2.2.2.2.1.1 R.2.2.2.2.2.2.1.1 f0 g0 (sX.1 4 (0, 8) rfl).1 (sX.1 5 (0, 6) rfl).1 (sX.1 6 (0, 6) rfl).1; unfold RA RX at R ⊢; simp only [← n0, ← n1, ← n2, ← n3, ← n7, ← n13, ← k2, ← k4, ← k7, ← k8, ← k10, ← k11, ← k12, ← k13, ← k15, ← k16, ← k19, ← k20, ← k21, ← k23, ← k24, ← k25, ← k32, ← k33, ← k34, ← k41, ← k42, ← k43, ← k44, ← k45, ← k46, ← m7, ← m12, ← l1, ← l2, ← l9, ← l10, ← l11, ← l12, ← l13, ← l14, ← l15, ← l16, ← l26, ← l27, ← l28, ← l30, ← l31, ← l32, ← l33] at R W; obtain ⟨⟨ra, rb, rc⟩, R2, R3, R4, R5, R6, R7, R8, R9⟩ := R; exact ⟨⟨ra, rb, rc⟩, R2, R3, R4, kR_dn R5 W.2.2.2.2.1 W.2.1, tR_dn R6 W.2.2.2.2.2.1 W.2.2.1, tR_dn R7 W.2.2.2.2.2.2 W.2.2.2.1, R8, R9⟩)⟩)
theorem case_read {b L i : Nat} {xs : Nat → Int32} {aX aY : Nat} {hx hy : AH} (hi : i + 6 ≤ L) (hL : L ≤ 3072) (I : INV hx hy) (K : ∀ hx' hy', INV hx' hy' → LW b L xs 93 2553 1337 (nI i) [] aX aY hx' hy') : LW b L xs 93 2553 506 (nI i) [] aX aY hx hy := by
  obtain ⟨ρ, α, σ, β, sX, sY, R⟩ := I
  have cX := sx_read sX (trivial) (xs (i + 1))
  have cY := sy_read sY R.1.1 (xs (i + 1))
  obtain ⟨fX, oX1⟩ := SD_obj (ci := 6) sX rfl
  obtain ⟨fY, oY1⟩ := SD_obj (ci := 7) sY rfl
  refine LW_x (cdOk_spec tk_480 26 _ rfl) ?_
  refine LW_arg (n := 1) (q := i + 1) (cdOk_spec tk_480 27 _ rfl) (cdOk_spec tk_480 28 _ rfl) (cdOk_spec tk_480 29 _ rfl) (cdOk_spec tk_480 30 _ rfl) (cdOk_spec tk_480 31 _ rfl) (arg_in (n := 1) (by omega) hL) (arg_q (n := 1) (by omega) hL) ?_
  refine LW_callX (N := mX6_read) (as := [.int (xs (i + 1))]) (st := []) (cdOk_spec tk_480 32 _ rfl) (mt_ok (k := 53) rfl).1 (chkW_in (i := 449) (by decide +kernel)) (chkW_in (i := 450) (by decide +kernel)) (chkW_in (i := 451) (by decide +kernel)) ((mt_ok (k := 53) (M := mX6_read) rfl).2.trans rfl) oX1 rfl rfl (Nat.zero_le _) ⟨by decide, by decide⟩ cX (fun v h q => ?_) (fun wX hx' q hnX => ?_)
  · obtain ⟨u, e, lu, -⟩ := q
    exact ⟨lu.trans (SD_len sX).symm, _, e, rfl⟩
  obtain ⟨uX, eX, lX, ρ', α', sX', FX⟩ := q
  cases eX
  have kX := knd_int uX
  refine LW_pop (cdOk_spec tk_480 35 _ rfl) kX ?_
  refine LW_y (cdOk_spec tk_480 36 _ rfl) ?_
  refine LW_arg (n := 1) (q := i + 1) (cdOk_spec tk_480 37 _ rfl) (cdOk_spec tk_480 38 _ rfl) (cdOk_spec tk_480 39 _ rfl) (cdOk_spec tk_480 40 _ rfl) (cdOk_spec tk_480 41 _ rfl) (arg_in (n := 1) (by omega) hL) (arg_q (n := 1) (by omega) hL) ?_
  refine LW_callY (N := mX7_read) (as := [.int (xs (i + 1))]) (st := []) (cdOk_spec tk_480 42 _ rfl) (mt_ok (k := 131) rfl).1 (chkW_in (i := 998) (by decide +kernel)) (chkW_in (i := 999) (by decide +kernel)) (chkW_in (i := 1000) (by decide +kernel)) ((mt_ok (k := 131) (M := mX7_read) rfl).2.trans rfl) oY1 rfl rfl (Nat.zero_le _) ⟨by decide, by decide⟩ cY (fun v h q => ?_) (fun wY hy' q hnY => ?_)
  · obtain ⟨u, e, lu, -⟩ := q
    exact ⟨lu.trans (SD_len sY).symm, _, e, rfl⟩
  obtain ⟨uY, eY, lY, σ', β', sY', FY⟩ := q
  cases eY
  have kY := knd_int uY
  refine LW_pop (cdOk_spec tk_480 45 _ rfl) kY ?_
  exact LW_goto (t := 1337) (cdOk_spec tk_480 46 _ rfl) (by decide) (K _ _ ⟨ρ', α', σ', β', sX', sY', (by obtain ⟨n0, n1, n2, n3, n5, n6, n7, k2, k4, k7, k8, k10, k11, k12, k13, k19, k20, k21, k23, k24, k25, k32, k33, k34, k41, k42, k43, k44, k45, k46, f0, -⟩ := FX; obtain ⟨m5, m6, m7, l1, l2, l11, l12, l13, l14, l15, l16, l26, l27, l28, l30, l31, l32, l33, g0, -⟩ := FY; have W := ra_read R.2.1 R.2.2.1 R.2.2.2.1 R.2.2.2.2.1 R.2.2.2.2.2.2.2.2 f0 g0; unfold RA RX at R ⊢; simp only [← n0, ← n1, ← n2, ← n3, ← n5, ← n6, ← n7, ← k2, ← k4, ← k7, ← k8, ← k10, ← k11, ← k12, ← k13, ← k19, ← k20, ← k21, ← k23, ← k24, ← k25, ← k32, ← k33, ← k34, ← k41, ← k42, ← k43, ← k44, ← k45, ← k46, ← m5, ← m6, ← m7, ← l1, ← l2, ← l11, ← l12, ← l13, ← l14, ← l15, ← l16, ← l26, ← l27, ← l28, ← l30, ← l31, ← l32, ← l33] at R W; obtain ⟨⟨ra, rb, rc⟩, R2, R3, R4, R5, R6, R7, R8, R9⟩ := R; exact ⟨⟨ra, rb, rc⟩, R2, R3, R4, W.2.1, R6, R7, R8, W.2.2⟩)⟩)
theorem case_coat {b L i : Nat} {xs : Nat → Int32} {aX aY : Nat} {hx hy : AH} (hi : i + 6 ≤ L) (hL : L ≤ 3072) (I : INV hx hy) (K : ∀ hx' hy', INV hx' hy' → LW b L xs 93 2553 1337 (nI i) [] aX aY hx' hy') : LW b L xs 93 2553 529 (nI i) [] aX aY hx hy := by
  obtain ⟨ρ, α, σ, β, sX, sY, R⟩ := I
  have cX := sx_coat sX (trivial) (xs (i + 1)) (xs (i + 2)) (xs (i + 3))
  have cY := sy_coat sY R.1.1 (xs (i + 1)) (xs (i + 2)) (xs (i + 3))
  obtain ⟨fX, oX1⟩ := SD_obj (ci := 6) sX rfl
  obtain ⟨fY, oY1⟩ := SD_obj (ci := 7) sY rfl
  refine LW_x (cdOk_spec tk_480 49 _ rfl) ?_
  refine LW_arg (n := 1) (q := i + 1) (cdOk_spec tk_480 50 _ rfl) (cdOk_spec tk_480 51 _ rfl) (cdOk_spec tk_480 52 _ rfl) (cdOk_spec tk_480 53 _ rfl) (cdOk_spec tk_480 54 _ rfl) (arg_in (n := 1) (by omega) hL) (arg_q (n := 1) (by omega) hL) ?_
  refine LW_arg (n := 2) (q := i + 2) (cdOk_spec tk_480 55 _ rfl) (cdOk_spec tk_480 56 _ rfl) (cdOk_spec tk_480 57 _ rfl) (cdOk_spec tk_480 58 _ rfl) (cdOk_spec tk_480 59 _ rfl) (arg_in (n := 2) (by omega) hL) (arg_q (n := 2) (by omega) hL) ?_
  refine LW_arg (n := 3) (q := i + 3) (cdOk_spec tk_540 0 _ rfl) (cdOk_spec tk_540 1 _ rfl) (cdOk_spec tk_540 2 _ rfl) (cdOk_spec tk_540 3 _ rfl) (cdOk_spec tk_540 4 _ rfl) (arg_in (n := 3) (by omega) hL) (arg_q (n := 3) (by omega) hL) ?_
  refine LW_callX (N := mX6_coat) (as := [.int (xs (i + 1)), .int (xs (i + 2)), .int (xs (i + 3))]) (st := []) (cdOk_spec tk_540 5 _ rfl) (mt_ok (k := 54) rfl).1 (chkW_in (i := 465) (by decide +kernel)) (chkW_in (i := 466) (by decide +kernel)) (chkW_in (i := 467) (by decide +kernel)) ((mt_ok (k := 54) (M := mX6_coat) rfl).2.trans rfl) oX1 rfl rfl (Nat.zero_le _) ⟨by decide, by decide⟩ cX (fun v h q => ?_) (fun wX hx' q hnX => ?_)
  · obtain ⟨u, e, lu, -⟩ := q
    exact ⟨lu.trans (SD_len sX).symm, _, e, rfl⟩
  obtain ⟨uX, eX, lX, ρ', α', sX', FX⟩ := q
  cases eX
  have kX := knd_int uX
  refine LW_pop (cdOk_spec tk_540 8 _ rfl) kX ?_
  refine LW_y (cdOk_spec tk_540 9 _ rfl) ?_
  refine LW_arg (n := 1) (q := i + 1) (cdOk_spec tk_540 10 _ rfl) (cdOk_spec tk_540 11 _ rfl) (cdOk_spec tk_540 12 _ rfl) (cdOk_spec tk_540 13 _ rfl) (cdOk_spec tk_540 14 _ rfl) (arg_in (n := 1) (by omega) hL) (arg_q (n := 1) (by omega) hL) ?_
  refine LW_arg (n := 2) (q := i + 2) (cdOk_spec tk_540 15 _ rfl) (cdOk_spec tk_540 16 _ rfl) (cdOk_spec tk_540 17 _ rfl) (cdOk_spec tk_540 18 _ rfl) (cdOk_spec tk_540 19 _ rfl) (arg_in (n := 2) (by omega) hL) (arg_q (n := 2) (by omega) hL) ?_
  refine LW_arg (n := 3) (q := i + 3) (cdOk_spec tk_540 20 _ rfl) (cdOk_spec tk_540 21 _ rfl) (cdOk_spec tk_540 22 _ rfl) (cdOk_spec tk_540 23 _ rfl) (cdOk_spec tk_540 24 _ rfl) (arg_in (n := 3) (by omega) hL) (arg_q (n := 3) (by omega) hL) ?_
  refine LW_callY (N := mX7_coat) (as := [.int (xs (i + 1)), .int (xs (i + 2)), .int (xs (i + 3))]) (st := []) (cdOk_spec tk_540 25 _ rfl) (mt_ok (k := 145) rfl).1 (chkW_in (i := 1010) (by decide +kernel)) (chkW_in (i := 1011) (by decide +kernel)) (chkW_in (i := 1012) (by decide +kernel)) ((mt_ok (k := 145) (M := mX7_coat) rfl).2.trans rfl) oY1 rfl rfl (Nat.zero_le _) ⟨by decide, by decide⟩ cY (fun v h q => ?_) (fun wY hy' q hnY => ?_)
  · obtain ⟨u, e, lu, -⟩ := q
    exact ⟨lu.trans (SD_len sY).symm, _, e, rfl⟩
  obtain ⟨uY, eY, lY, σ', β', sY', FY⟩ := q
  cases eY
  have kY := knd_int uY
  refine LW_pop (cdOk_spec tk_540 28 _ rfl) kY ?_
  exact LW_goto (t := 1337) (cdOk_spec tk_540 29 _ rfl) (by decide) (K _ _ ⟨ρ', α', σ', β', sX', sY', (by obtain ⟨n0, n1, n2, n3, n4, n5, n6, n7, n13, k2, k4, k7, k8, k10, k11, k12, k13, k15, k16, k19, k20, k21, k23, k24, k25, k32, k33, k34, k41, k42, k43, k44, k45, k46, -⟩ := FX; obtain ⟨m4, m5, m6, m7, m12, l1, l2, l9, l10, l11, l12, l13, l14, l15, l16, l26, l27, l28, l30, l31, l32, l33, -⟩ := FY; unfold RA RX at R ⊢; simp only [← n0, ← n1, ← n2, ← n3, ← n4, ← n5, ← n6, ← n7, ← n13, ← k2, ← k4, ← k7, ← k8, ← k10, ← k11, ← k12, ← k13, ← k15, ← k16, ← k19, ← k20, ← k21, ← k23, ← k24, ← k25, ← k32, ← k33, ← k34, ← k41, ← k42, ← k43, ← k44, ← k45, ← k46, ← m4, ← m5, ← m6, ← m7, ← m12, ← l1, ← l2, ← l9, ← l10, ← l11, ← l12, ← l13, ← l14, ← l15, ← l16, ← l26, ← l27, ← l28, ← l30, ← l31, ← l32, ← l33] at R; obtain ⟨⟨ra, rb, rc⟩, R2, R3, R4, R5, R6, R7, R8, R9⟩ := R; exact ⟨⟨ra, rb, rc⟩, R2, R3, R4, R5, R6, R7, R8, R9⟩)⟩)
theorem case_stands {b L i : Nat} {xs : Nat → Int32} {aX aY : Nat} {hx hy : AH} (hi : i + 6 ≤ L) (hL : L ≤ 3072) (I : INV hx hy) (K : ∀ hx' hy', INV hx' hy' → LW b L xs 93 2553 1337 (nI i) [] aX aY hx' hy') : LW b L xs 93 2553 572 (nI i) [] aX aY hx hy := by
  obtain ⟨ρ, α, σ, β, sX, sY, R⟩ := I
  have cX := sx_stands sX (trivial) (xs (i + 1)) (xs (i + 2))
  have cY := sy_stands sY R.1.1 (xs (i + 1)) (xs (i + 2))
  obtain ⟨fX, oX1⟩ := SD_obj (ci := 6) sX rfl
  obtain ⟨fY, oY1⟩ := SD_obj (ci := 7) sY rfl
  refine LW_x (cdOk_spec tk_540 32 _ rfl) ?_
  refine LW_arg (n := 1) (q := i + 1) (cdOk_spec tk_540 33 _ rfl) (cdOk_spec tk_540 34 _ rfl) (cdOk_spec tk_540 35 _ rfl) (cdOk_spec tk_540 36 _ rfl) (cdOk_spec tk_540 37 _ rfl) (arg_in (n := 1) (by omega) hL) (arg_q (n := 1) (by omega) hL) ?_
  refine LW_arg (n := 2) (q := i + 2) (cdOk_spec tk_540 38 _ rfl) (cdOk_spec tk_540 39 _ rfl) (cdOk_spec tk_540 40 _ rfl) (cdOk_spec tk_540 41 _ rfl) (cdOk_spec tk_540 42 _ rfl) (arg_in (n := 2) (by omega) hL) (arg_q (n := 2) (by omega) hL) ?_
  refine LW_callX (N := mX6_stands) (as := [.int (xs (i + 1)), .int (xs (i + 2))]) (st := []) (cdOk_spec tk_540 43 _ rfl) (mt_ok (k := 55) rfl).1 (chkW_in (i := 527) (by decide +kernel)) (chkW_in (i := 528) (by decide +kernel)) (chkW_in (i := 529) (by decide +kernel)) ((mt_ok (k := 55) (M := mX6_stands) rfl).2.trans rfl) oX1 rfl rfl (Nat.zero_le _) ⟨by decide, by decide⟩ cX (fun v h q => ?_) (fun wX hx' q hnX => ?_)
  · obtain ⟨u, e, lu, -⟩ := q
    exact ⟨lu.trans (SD_len sX).symm, _, e, rfl⟩
  obtain ⟨uX, eX, lX, ρ', α', sX', FX⟩ := q
  cases eX
  have kX := knd_int uX
  refine LW_pop (cdOk_spec tk_540 46 _ rfl) kX ?_
  refine LW_y (cdOk_spec tk_540 47 _ rfl) ?_
  refine LW_arg (n := 1) (q := i + 1) (cdOk_spec tk_540 48 _ rfl) (cdOk_spec tk_540 49 _ rfl) (cdOk_spec tk_540 50 _ rfl) (cdOk_spec tk_540 51 _ rfl) (cdOk_spec tk_540 52 _ rfl) (arg_in (n := 1) (by omega) hL) (arg_q (n := 1) (by omega) hL) ?_
  refine LW_arg (n := 2) (q := i + 2) (cdOk_spec tk_540 53 _ rfl) (cdOk_spec tk_540 54 _ rfl) (cdOk_spec tk_540 55 _ rfl) (cdOk_spec tk_540 56 _ rfl) (cdOk_spec tk_540 57 _ rfl) (arg_in (n := 2) (by omega) hL) (arg_q (n := 2) (by omega) hL) ?_
  refine LW_callY (N := mX7_stands) (as := [.int (xs (i + 1)), .int (xs (i + 2))]) (st := []) (cdOk_spec tk_540 58 _ rfl) (mt_ok (k := 147) rfl).1 (chkW_in (i := 1065) (by decide +kernel)) (chkW_in (i := 1066) (by decide +kernel)) (chkW_in (i := 1067) (by decide +kernel)) ((mt_ok (k := 147) (M := mX7_stands) rfl).2.trans rfl) oY1 rfl rfl (Nat.zero_le _) ⟨by decide, by decide⟩ cY (fun v h q => ?_) (fun wY hy' q hnY => ?_)
  · obtain ⟨u, e, lu, -⟩ := q
    exact ⟨lu.trans (SD_len sY).symm, _, e, rfl⟩
  obtain ⟨uY, eY, lY, σ', β', sY', FY⟩ := q
  cases eY
  have kY := knd_int uY
  refine LW_pop (cdOk_spec tk_600 1 _ rfl) kY ?_
  exact LW_goto (t := 1337) (cdOk_spec tk_600 2 _ rfl) (by decide) (K _ _ ⟨ρ', α', σ', β', sX', sY', (by obtain ⟨n0, n1, n2, n3, n4, n5, n6, n7, n13, k2, k4, k7, k8, k10, k11, k12, k13, k15, k16, k19, k20, k21, k23, k24, k25, k32, k33, k34, k41, k42, k43, k44, k45, k46, -⟩ := FX; obtain ⟨m4, m5, m6, m7, m12, l1, l2, l9, l10, l11, l12, l13, l14, l15, l16, l26, l27, l28, l30, l31, l32, l33, -⟩ := FY; unfold RA RX at R ⊢; simp only [← n0, ← n1, ← n2, ← n3, ← n4, ← n5, ← n6, ← n7, ← n13, ← k2, ← k4, ← k7, ← k8, ← k10, ← k11, ← k12, ← k13, ← k15, ← k16, ← k19, ← k20, ← k21, ← k23, ← k24, ← k25, ← k32, ← k33, ← k34, ← k41, ← k42, ← k43, ← k44, ← k45, ← k46, ← m4, ← m5, ← m6, ← m7, ← m12, ← l1, ← l2, ← l9, ← l10, ← l11, ← l12, ← l13, ← l14, ← l15, ← l16, ← l26, ← l27, ← l28, ← l30, ← l31, ← l32, ← l33] at R; obtain ⟨⟨ra, rb, rc⟩, R2, R3, R4, R5, R6, R7, R8, R9⟩ := R; exact ⟨⟨ra, rb, rc⟩, R2, R3, R4, R5, R6, R7, R8, R9⟩)⟩)
theorem case_neat {b L i : Nat} {xs : Nat → Int32} {aX aY : Nat} {hx hy : AH} (hi : i + 6 ≤ L) (hL : L ≤ 3072) (I : INV hx hy) (K : ∀ hx' hy', INV hx' hy' → LW b L xs 93 2553 1337 (nI i) [] aX aY hx' hy') : LW b L xs 93 2553 605 (nI i) [] aX aY hx hy := by
  obtain ⟨ρ, α, σ, β, sX, sY, R⟩ := I
  have cX := sx_neat sX (trivial) (xs (i + 1))
  have cY := sy_neat sY R.1.1 (xs (i + 1))
  obtain ⟨fX, oX1⟩ := SD_obj (ci := 6) sX rfl
  obtain ⟨fY, oY1⟩ := SD_obj (ci := 7) sY rfl
  refine LW_x (cdOk_spec tk_600 5 _ rfl) ?_
  refine LW_arg (n := 1) (q := i + 1) (cdOk_spec tk_600 6 _ rfl) (cdOk_spec tk_600 7 _ rfl) (cdOk_spec tk_600 8 _ rfl) (cdOk_spec tk_600 9 _ rfl) (cdOk_spec tk_600 10 _ rfl) (arg_in (n := 1) (by omega) hL) (arg_q (n := 1) (by omega) hL) ?_
  refine LW_callX (N := mX6_neat) (as := [.int (xs (i + 1))]) (st := []) (cdOk_spec tk_600 11 _ rfl) (mt_ok (k := 56) rfl).1 (chkW_in (i := 531) (by decide +kernel)) (chkW_in (i := 532) (by decide +kernel)) (chkW_in (i := 533) (by decide +kernel)) ((mt_ok (k := 56) (M := mX6_neat) rfl).2.trans rfl) oX1 rfl rfl (Nat.zero_le _) ⟨by decide, by decide⟩ cX (fun v h q => ?_) (fun wX hx' q hnX => ?_)
  · obtain ⟨u, e, lu, -⟩ := q
    exact ⟨lu.trans (SD_len sX).symm, _, e, rfl⟩
  obtain ⟨uX, eX, lX, ρ', α', sX', FX⟩ := q
  cases eX
  have kX := knd_int uX
  refine LW_pop (cdOk_spec tk_600 14 _ rfl) kX ?_
  refine LW_y (cdOk_spec tk_600 15 _ rfl) ?_
  refine LW_arg (n := 1) (q := i + 1) (cdOk_spec tk_600 16 _ rfl) (cdOk_spec tk_600 17 _ rfl) (cdOk_spec tk_600 18 _ rfl) (cdOk_spec tk_600 19 _ rfl) (cdOk_spec tk_600 20 _ rfl) (arg_in (n := 1) (by omega) hL) (arg_q (n := 1) (by omega) hL) ?_
  refine LW_callY (N := mX7_neat) (as := [.int (xs (i + 1))]) (st := []) (cdOk_spec tk_600 21 _ rfl) (mt_ok (k := 149) rfl).1 (chkW_in (i := 1073) (by decide +kernel)) (chkW_in (i := 1074) (by decide +kernel)) (chkW_in (i := 1075) (by decide +kernel)) ((mt_ok (k := 149) (M := mX7_neat) rfl).2.trans rfl) oY1 rfl rfl (Nat.zero_le _) ⟨by decide, by decide⟩ cY (fun v h q => ?_) (fun wY hy' q hnY => ?_)
  · obtain ⟨u, e, lu, -⟩ := q
    exact ⟨lu.trans (SD_len sY).symm, _, e, rfl⟩
  obtain ⟨uY, eY, lY, σ', β', sY', FY⟩ := q
  cases eY
  have kY := knd_int uY
  refine LW_pop (cdOk_spec tk_600 24 _ rfl) kY ?_
  exact LW_goto (t := 1337) (cdOk_spec tk_600 25 _ rfl) (by decide) (K _ _ ⟨ρ', α', σ', β', sX', sY', (by obtain ⟨n0, n1, n2, n3, n4, n5, n6, n7, n13, k2, k4, k7, k8, k10, k11, k12, k13, k15, k16, k19, k20, k21, k23, k24, k25, k32, k33, k34, k41, k42, k43, k44, k45, k46, -⟩ := FX; obtain ⟨m4, m5, m6, m7, m12, l1, l2, l9, l10, l11, l12, l13, l14, l15, l16, l26, l27, l28, l30, l31, l32, l33, -⟩ := FY; unfold RA RX at R ⊢; simp only [← n0, ← n1, ← n2, ← n3, ← n4, ← n5, ← n6, ← n7, ← n13, ← k2, ← k4, ← k7, ← k8, ← k10, ← k11, ← k12, ← k13, ← k15, ← k16, ← k19, ← k20, ← k21, ← k23, ← k24, ← k25, ← k32, ← k33, ← k34, ← k41, ← k42, ← k43, ← k44, ← k45, ← k46, ← m4, ← m5, ← m6, ← m7, ← m12, ← l1, ← l2, ← l9, ← l10, ← l11, ← l12, ← l13, ← l14, ← l15, ← l16, ← l26, ← l27, ← l28, ← l30, ← l31, ← l32, ← l33] at R; obtain ⟨⟨ra, rb, rc⟩, R2, R3, R4, R5, R6, R7, R8, R9⟩ := R; exact ⟨⟨ra, rb, rc⟩, R2, R3, R4, R5, R6, R7, R8, R9⟩)⟩)
theorem case_naked {b L i : Nat} {xs : Nat → Int32} {aX aY : Nat} {hx hy : AH} (hi : i + 6 ≤ L) (hL : L ≤ 3072) (I : INV hx hy) (K : ∀ hx' hy', INV hx' hy' → LW b L xs 93 2553 1337 (nI i) [] aX aY hx' hy') : LW b L xs 93 2553 628 (nI i) [] aX aY hx hy := by
  obtain ⟨ρ, α, σ, β, sX, sY, R⟩ := I
  have cX := sx_naked sX (trivial) (xs (i + 1))
  have cY := sy_naked sY R.1.1 (xs (i + 1))
  obtain ⟨fX, oX1⟩ := SD_obj (ci := 6) sX rfl
  obtain ⟨fY, oY1⟩ := SD_obj (ci := 7) sY rfl
  refine LW_x (cdOk_spec tk_600 28 _ rfl) ?_
  refine LW_arg (n := 1) (q := i + 1) (cdOk_spec tk_600 29 _ rfl) (cdOk_spec tk_600 30 _ rfl) (cdOk_spec tk_600 31 _ rfl) (cdOk_spec tk_600 32 _ rfl) (cdOk_spec tk_600 33 _ rfl) (arg_in (n := 1) (by omega) hL) (arg_q (n := 1) (by omega) hL) ?_
  refine LW_callX (N := mX6_naked) (as := [.int (xs (i + 1))]) (st := []) (cdOk_spec tk_600 34 _ rfl) (mt_ok (k := 57) rfl).1 (chkW_in (i := 540) (by decide +kernel)) (chkW_in (i := 541) (by decide +kernel)) (chkW_in (i := 542) (by decide +kernel)) ((mt_ok (k := 57) (M := mX6_naked) rfl).2.trans rfl) oX1 rfl rfl (Nat.zero_le _) ⟨by decide, by decide⟩ cX (fun v h q => ?_) (fun wX hx' q hnX => ?_)
  · obtain ⟨u, e, lu, -⟩ := q
    exact ⟨lu.trans (SD_len sX).symm, _, e, rfl⟩
  obtain ⟨uX, eX, lX, ρ', α', sX', FX⟩ := q
  cases eX
  have kX := knd_int uX
  refine LW_pop (cdOk_spec tk_600 37 _ rfl) kX ?_
  refine LW_y (cdOk_spec tk_600 38 _ rfl) ?_
  refine LW_arg (n := 1) (q := i + 1) (cdOk_spec tk_600 39 _ rfl) (cdOk_spec tk_600 40 _ rfl) (cdOk_spec tk_600 41 _ rfl) (cdOk_spec tk_600 42 _ rfl) (cdOk_spec tk_600 43 _ rfl) (arg_in (n := 1) (by omega) hL) (arg_q (n := 1) (by omega) hL) ?_
  refine LW_callY (N := mX7_naked) (as := [.int (xs (i + 1))]) (st := []) (cdOk_spec tk_600 44 _ rfl) (mt_ok (k := 152) rfl).1 (chkW_in (i := 1081) (by decide +kernel)) (chkW_in (i := 1082) (by decide +kernel)) (chkW_in (i := 1083) (by decide +kernel)) ((mt_ok (k := 152) (M := mX7_naked) rfl).2.trans rfl) oY1 rfl rfl (Nat.zero_le _) ⟨by decide, by decide⟩ cY (fun v h q => ?_) (fun wY hy' q hnY => ?_)
  · obtain ⟨u, e, lu, -⟩ := q
    exact ⟨lu.trans (SD_len sY).symm, _, e, rfl⟩
  obtain ⟨uY, eY, lY, σ', β', sY', FY⟩ := q
  cases eY
  have kY := knd_int uY
  refine LW_pop (cdOk_spec tk_600 47 _ rfl) kY ?_
  exact LW_goto (t := 1337) (cdOk_spec tk_600 48 _ rfl) (by decide) (K _ _ ⟨ρ', α', σ', β', sX', sY', (by obtain ⟨n0, n1, n2, n3, n4, n5, n6, n7, n13, k2, k4, k7, k8, k10, k11, k12, k13, k15, k16, k19, k20, k21, k23, k24, k25, k32, k33, k34, k41, k42, k43, k44, k45, k46, -⟩ := FX; obtain ⟨m4, m5, m6, m7, m12, l1, l2, l9, l10, l11, l12, l13, l14, l15, l16, l26, l27, l28, l30, l31, l32, l33, -⟩ := FY; unfold RA RX at R ⊢; simp only [← n0, ← n1, ← n2, ← n3, ← n4, ← n5, ← n6, ← n7, ← n13, ← k2, ← k4, ← k7, ← k8, ← k10, ← k11, ← k12, ← k13, ← k15, ← k16, ← k19, ← k20, ← k21, ← k23, ← k24, ← k25, ← k32, ← k33, ← k34, ← k41, ← k42, ← k43, ← k44, ← k45, ← k46, ← m4, ← m5, ← m6, ← m7, ← m12, ← l1, ← l2, ← l9, ← l10, ← l11, ← l12, ← l13, ← l14, ← l15, ← l16, ← l26, ← l27, ← l28, ← l30, ← l31, ← l32, ← l33] at R; obtain ⟨⟨ra, rb, rc⟩, R2, R3, R4, R5, R6, R7, R8, R9⟩ := R; exact ⟨⟨ra, rb, rc⟩, R2, R3, R4, R5, R6, R7, R8, R9⟩)⟩)
theorem case_longest {b L i : Nat} {xs : Nat → Int32} {aX aY : Nat} {hx hy : AH} (hi : i + 6 ≤ L) (hL : L ≤ 3072) (I : INV hx hy) (K : ∀ hx' hy', INV hx' hy' → LW b L xs 93 2553 1337 (nI i) [] aX aY hx' hy') : LW b L xs 93 2553 651 (nI i) [] aX aY hx hy := by
  obtain ⟨ρ, α, σ, β, sX, sY, R⟩ := I
  have cX := sx_longest sX (trivial) (xs (i + 1))
  have cY := sy_longest sY R.1.1 (xs (i + 1))
  obtain ⟨fX, oX1⟩ := SD_obj (ci := 6) sX rfl
  obtain ⟨fY, oY1⟩ := SD_obj (ci := 7) sY rfl
  refine LW_x (cdOk_spec tk_600 51 _ rfl) ?_
  refine LW_arg (n := 1) (q := i + 1) (cdOk_spec tk_600 52 _ rfl) (cdOk_spec tk_600 53 _ rfl) (cdOk_spec tk_600 54 _ rfl) (cdOk_spec tk_600 55 _ rfl) (cdOk_spec tk_600 56 _ rfl) (arg_in (n := 1) (by omega) hL) (arg_q (n := 1) (by omega) hL) ?_
  refine LW_callX (N := mX6_longest) (as := [.int (xs (i + 1))]) (st := []) (cdOk_spec tk_600 57 _ rfl) (mt_ok (k := 58) rfl).1 (chkW_in (i := 548) (by decide +kernel)) (chkW_in (i := 549) (by decide +kernel)) (chkW_in (i := 550) (by decide +kernel)) ((mt_ok (k := 58) (M := mX6_longest) rfl).2.trans rfl) oX1 rfl rfl (Nat.zero_le _) ⟨by decide, by decide⟩ cX (fun v h q => ?_) (fun wX hx' q hnX => ?_)
  · obtain ⟨u, e, lu, -⟩ := q
    exact ⟨lu.trans (SD_len sX).symm, _, e, rfl⟩
  obtain ⟨uX, eX, lX, ρ', α', sX', FX⟩ := q
  cases eX
  have kX := knd_int uX
  refine LW_pop (cdOk_spec tk_660 0 _ rfl) kX ?_
  refine LW_y (cdOk_spec tk_660 1 _ rfl) ?_
  refine LW_arg (n := 1) (q := i + 1) (cdOk_spec tk_660 2 _ rfl) (cdOk_spec tk_660 3 _ rfl) (cdOk_spec tk_660 4 _ rfl) (cdOk_spec tk_660 5 _ rfl) (cdOk_spec tk_660 6 _ rfl) (arg_in (n := 1) (by omega) hL) (arg_q (n := 1) (by omega) hL) ?_
  refine LW_callY (N := mX7_longest) (as := [.int (xs (i + 1))]) (st := []) (cdOk_spec tk_660 7 _ rfl) (mt_ok (k := 154) rfl).1 (chkW_in (i := 1093) (by decide +kernel)) (chkW_in (i := 1094) (by decide +kernel)) (chkW_in (i := 1095) (by decide +kernel)) ((mt_ok (k := 154) (M := mX7_longest) rfl).2.trans rfl) oY1 rfl rfl (Nat.zero_le _) ⟨by decide, by decide⟩ cY (fun v h q => ?_) (fun wY hy' q hnY => ?_)
  · obtain ⟨u, e, lu, -⟩ := q
    exact ⟨lu.trans (SD_len sY).symm, _, e, rfl⟩
  obtain ⟨uY, eY, lY, σ', β', sY', FY⟩ := q
  cases eY
  have kY := knd_int uY
  refine LW_pop (cdOk_spec tk_660 10 _ rfl) kY ?_
  exact LW_goto (t := 1337) (cdOk_spec tk_660 11 _ rfl) (by decide) (K _ _ ⟨ρ', α', σ', β', sX', sY', (by obtain ⟨n0, n1, n2, n3, n4, n5, n6, n7, n13, k2, k4, k7, k8, k10, k11, k12, k13, k15, k16, k19, k20, k21, k23, k24, k25, k32, k33, k34, k41, k42, k43, k44, k45, k46, -⟩ := FX; obtain ⟨m4, m5, m6, m7, m12, l1, l2, l9, l10, l11, l12, l13, l14, l15, l16, l26, l27, l28, l30, l31, l32, l33, -⟩ := FY; unfold RA RX at R ⊢; simp only [← n0, ← n1, ← n2, ← n3, ← n4, ← n5, ← n6, ← n7, ← n13, ← k2, ← k4, ← k7, ← k8, ← k10, ← k11, ← k12, ← k13, ← k15, ← k16, ← k19, ← k20, ← k21, ← k23, ← k24, ← k25, ← k32, ← k33, ← k34, ← k41, ← k42, ← k43, ← k44, ← k45, ← k46, ← m4, ← m5, ← m6, ← m7, ← m12, ← l1, ← l2, ← l9, ← l10, ← l11, ← l12, ← l13, ← l14, ← l15, ← l16, ← l26, ← l27, ← l28, ← l30, ← l31, ← l32, ← l33] at R; obtain ⟨⟨ra, rb, rc⟩, R2, R3, R4, R5, R6, R7, R8, R9⟩ := R; exact ⟨⟨ra, rb, rc⟩, R2, R3, R4, R5, R6, R7, R8, R9⟩)⟩)
theorem case_splits {b L i : Nat} {xs : Nat → Int32} {aX aY : Nat} {hx hy : AH} (hi : i + 6 ≤ L) (hL : L ≤ 3072) (I : INV hx hy) (K : ∀ hx' hy', INV hx' hy' → LW b L xs 93 2553 1337 (nI i) [] aX aY hx' hy') : LW b L xs 93 2553 674 (nI i) [] aX aY hx hy := by
  obtain ⟨ρ, α, σ, β, sX, sY, R⟩ := I
  have cX := sx_splits sX (trivial) 
  have cY := sy_splits sY R.1.1 
  obtain ⟨fX, oX1⟩ := SD_obj (ci := 6) sX rfl
  obtain ⟨fY, oY1⟩ := SD_obj (ci := 7) sY rfl
  refine LW_x (cdOk_spec tk_660 14 _ rfl) ?_
  refine LW_callX (N := mX6_splits) (as := []) (st := []) (cdOk_spec tk_660 15 _ rfl) (mt_ok (k := 59) rfl).1 (chkW_in (i := 552) (by decide +kernel)) (chkW_in (i := 553) (by decide +kernel)) (chkW_in (i := 554) (by decide +kernel)) ((mt_ok (k := 59) (M := mX6_splits) rfl).2.trans rfl) oX1 rfl rfl (Nat.zero_le _) ⟨by decide, by decide⟩ cX (fun v h q => ?_) (fun wX hx' q hnX => ?_)
  · obtain ⟨u, e, lu, -⟩ := q
    exact ⟨lu.trans (SD_len sX).symm, _, e, rfl⟩
  obtain ⟨uX, eX, lX, ρ', α', sX', FX⟩ := q
  cases eX
  have kX := knd_int uX
  refine LW_pop (cdOk_spec tk_660 18 _ rfl) kX ?_
  refine LW_y (cdOk_spec tk_660 19 _ rfl) ?_
  refine LW_callY (N := mX7_splits) (as := []) (st := []) (cdOk_spec tk_660 20 _ rfl) (mt_ok (k := 157) rfl).1 (chkW_in (i := 1101) (by decide +kernel)) (chkW_in (i := 1102) (by decide +kernel)) (chkW_in (i := 1103) (by decide +kernel)) ((mt_ok (k := 157) (M := mX7_splits) rfl).2.trans rfl) oY1 rfl rfl (Nat.zero_le _) ⟨by decide, by decide⟩ cY (fun v h q => ?_) (fun wY hy' q hnY => ?_)
  · obtain ⟨u, e, lu, -⟩ := q
    exact ⟨lu.trans (SD_len sY).symm, _, e, rfl⟩
  obtain ⟨uY, eY, lY, σ', β', sY', FY⟩ := q
  cases eY
  have kY := knd_int uY
  refine LW_pop (cdOk_spec tk_660 23 _ rfl) kY ?_
  exact LW_goto (t := 1337) (cdOk_spec tk_660 24 _ rfl) (by decide) (K _ _ ⟨ρ', α', σ', β', sX', sY', (by obtain ⟨n0, n1, n2, n3, n4, n5, n6, n7, n13, k2, k4, k7, k8, k10, k11, k12, k13, k15, k16, k19, k20, k21, k23, k24, k25, k32, k33, k34, k41, k42, k43, k44, k45, k46, -⟩ := FX; obtain ⟨m4, m5, m6, m7, m12, l1, l2, l9, l10, l11, l12, l13, l14, l15, l16, l26, l27, l28, l30, l31, l32, l33, -⟩ := FY; unfold RA RX at R ⊢; simp only [← n0, ← n1, ← n2, ← n3, ← n4, ← n5, ← n6, ← n7, ← n13, ← k2, ← k4, ← k7, ← k8, ← k10, ← k11, ← k12, ← k13, ← k15, ← k16, ← k19, ← k20, ← k21, ← k23, ← k24, ← k25, ← k32, ← k33, ← k34, ← k41, ← k42, ← k43, ← k44, ← k45, ← k46, ← m4, ← m5, ← m6, ← m7, ← m12, ← l1, ← l2, ← l9, ← l10, ← l11, ← l12, ← l13, ← l14, ← l15, ← l16, ← l26, ← l27, ← l28, ← l30, ← l31, ← l32, ← l33] at R; obtain ⟨⟨ra, rb, rc⟩, R2, R3, R4, R5, R6, R7, R8, R9⟩ := R; exact ⟨⟨ra, rb, rc⟩, R2, R3, R4, R5, R6, R7, R8, R9⟩)⟩)
theorem case_best {b L i : Nat} {xs : Nat → Int32} {aX aY : Nat} {hx hy : AH} (hi : i + 6 ≤ L) (hL : L ≤ 3072) (I : INV hx hy) (K : ∀ hx' hy', INV hx' hy' → LW b L xs 93 2553 1337 (nI i) [] aX aY hx' hy') : LW b L xs 93 2553 687 (nI i) [] aX aY hx hy := by
  obtain ⟨ρ, α, σ, β, sX, sY, R⟩ := I
  have cX := sx_best sX (trivial) 
  have cY := sy_best sY R.1.1 
  obtain ⟨fX, oX1⟩ := SD_obj (ci := 6) sX rfl
  obtain ⟨fY, oY1⟩ := SD_obj (ci := 7) sY rfl
  refine LW_x (cdOk_spec tk_660 27 _ rfl) ?_
  refine LW_callX (N := mX6_best) (as := []) (st := []) (cdOk_spec tk_660 28 _ rfl) (mt_ok (k := 60) rfl).1 (chkW_in (i := 560) (by decide +kernel)) (chkW_in (i := 561) (by decide +kernel)) (chkW_in (i := 562) (by decide +kernel)) ((mt_ok (k := 60) (M := mX6_best) rfl).2.trans rfl) oX1 rfl rfl (Nat.zero_le _) ⟨by decide, by decide⟩ cX (fun v h q => ?_) (fun wX hx' q hnX => ?_)
  · obtain ⟨u, e, lu, -⟩ := q
    exact ⟨lu.trans (SD_len sX).symm, _, e, rfl⟩
  obtain ⟨uX, eX, lX, ρ', α', sX', FX⟩ := q
  cases eX
  have kX := knd_int uX
  refine LW_pop (cdOk_spec tk_660 31 _ rfl) kX ?_
  refine LW_y (cdOk_spec tk_660 32 _ rfl) ?_
  refine LW_callY (N := mX7_best) (as := []) (st := []) (cdOk_spec tk_660 33 _ rfl) (mt_ok (k := 159) rfl).1 (chkW_in (i := 1113) (by decide +kernel)) (chkW_in (i := 1114) (by decide +kernel)) (chkW_in (i := 1115) (by decide +kernel)) ((mt_ok (k := 159) (M := mX7_best) rfl).2.trans rfl) oY1 rfl rfl (Nat.zero_le _) ⟨by decide, by decide⟩ cY (fun v h q => ?_) (fun wY hy' q hnY => ?_)
  · obtain ⟨u, e, lu, -⟩ := q
    exact ⟨lu.trans (SD_len sY).symm, _, e, rfl⟩
  obtain ⟨uY, eY, lY, σ', β', sY', FY⟩ := q
  cases eY
  have kY := knd_int uY
  refine LW_pop (cdOk_spec tk_660 36 _ rfl) kY ?_
  exact LW_goto (t := 1337) (cdOk_spec tk_660 37 _ rfl) (by decide) (K _ _ ⟨ρ', α', σ', β', sX', sY', (by obtain ⟨n0, n1, n2, n3, n4, n5, n6, n7, n13, k2, k4, k7, k8, k10, k11, k12, k13, k15, k16, k19, k20, k21, k23, k24, k25, k32, k33, k34, k41, k42, k43, k44, k45, k46, -⟩ := FX; obtain ⟨m4, m5, m6, m7, m12, l1, l2, l9, l10, l11, l12, l13, l14, l15, l16, l26, l27, l28, l30, l31, l32, l33, -⟩ := FY; unfold RA RX at R ⊢; simp only [← n0, ← n1, ← n2, ← n3, ← n4, ← n5, ← n6, ← n7, ← n13, ← k2, ← k4, ← k7, ← k8, ← k10, ← k11, ← k12, ← k13, ← k15, ← k16, ← k19, ← k20, ← k21, ← k23, ← k24, ← k25, ← k32, ← k33, ← k34, ← k41, ← k42, ← k43, ← k44, ← k45, ← k46, ← m4, ← m5, ← m6, ← m7, ← m12, ← l1, ← l2, ← l9, ← l10, ← l11, ← l12, ← l13, ← l14, ← l15, ← l16, ← l26, ← l27, ← l28, ← l30, ← l31, ← l32, ← l33] at R; obtain ⟨⟨ra, rb, rc⟩, R2, R3, R4, R5, R6, R7, R8, R9⟩ := R; exact ⟨⟨ra, rb, rc⟩, R2, R3, R4, R5, R6, R7, R8, R9⟩)⟩)
theorem case_swear {b L i : Nat} {xs : Nat → Int32} {aX aY : Nat} {hx hy : AH} (hi : i + 6 ≤ L) (hL : L ≤ 3072) (I : INV hx hy) (K : ∀ hx' hy', INV hx' hy' → LW b L xs 93 2553 1337 (nI i) [] aX aY hx' hy') : LW b L xs 93 2553 700 (nI i) [] aX aY hx hy := by
  obtain ⟨ρ, α, σ, β, sX, sY, R⟩ := I
  have cX := sx_swear sX (trivial) (xs (i + 1)) (xs (i + 2))
  have cY := sy_swear sY R.1.1 (xs (i + 1)) (xs (i + 2))
  obtain ⟨fX, oX1⟩ := SD_obj (ci := 6) sX rfl
  obtain ⟨fY, oY1⟩ := SD_obj (ci := 7) sY rfl
  refine LW_x (cdOk_spec tk_660 40 _ rfl) ?_
  refine LW_arg (n := 1) (q := i + 1) (cdOk_spec tk_660 41 _ rfl) (cdOk_spec tk_660 42 _ rfl) (cdOk_spec tk_660 43 _ rfl) (cdOk_spec tk_660 44 _ rfl) (cdOk_spec tk_660 45 _ rfl) (arg_in (n := 1) (by omega) hL) (arg_q (n := 1) (by omega) hL) ?_
  refine LW_arg (n := 2) (q := i + 2) (cdOk_spec tk_660 46 _ rfl) (cdOk_spec tk_660 47 _ rfl) (cdOk_spec tk_660 48 _ rfl) (cdOk_spec tk_660 49 _ rfl) (cdOk_spec tk_660 50 _ rfl) (arg_in (n := 2) (by omega) hL) (arg_q (n := 2) (by omega) hL) ?_
  refine LW_callX (N := mX6_swear) (as := [.int (xs (i + 1)), .int (xs (i + 2))]) (st := []) (cdOk_spec tk_660 51 _ rfl) (mt_ok (k := 61) rfl).1 (chkW_in (i := 570) (by decide +kernel)) (chkW_in (i := 571) (by decide +kernel)) (chkW_in (i := 572) (by decide +kernel)) ((mt_ok (k := 61) (M := mX6_swear) rfl).2.trans rfl) oX1 rfl rfl (Nat.zero_le _) ⟨by decide, by decide⟩ cX (fun v h q => ?_) (fun wX hx' q hnX => ?_)
  · obtain ⟨u, e, lu, -⟩ := q
    exact ⟨lu.trans (SD_len sX).symm, _, e, rfl⟩
  obtain ⟨uX, eX, lX, ρ', α', sX', FX⟩ := q
  cases eX
  have kX := knd_int uX
  refine LW_pop (cdOk_spec tk_660 54 _ rfl) kX ?_
  refine LW_y (cdOk_spec tk_660 55 _ rfl) ?_
  refine LW_arg (n := 1) (q := i + 1) (cdOk_spec tk_660 56 _ rfl) (cdOk_spec tk_660 57 _ rfl) (cdOk_spec tk_660 58 _ rfl) (cdOk_spec tk_660 59 _ rfl) (cdOk_spec tk_720 0 _ rfl) (arg_in (n := 1) (by omega) hL) (arg_q (n := 1) (by omega) hL) ?_
  refine LW_arg (n := 2) (q := i + 2) (cdOk_spec tk_720 1 _ rfl) (cdOk_spec tk_720 2 _ rfl) (cdOk_spec tk_720 3 _ rfl) (cdOk_spec tk_720 4 _ rfl) (cdOk_spec tk_720 5 _ rfl) (arg_in (n := 2) (by omega) hL) (arg_q (n := 2) (by omega) hL) ?_
  refine LW_callY (N := mX7_swear) (as := [.int (xs (i + 1)), .int (xs (i + 2))]) (st := []) (cdOk_spec tk_720 6 _ rfl) (mt_ok (k := 161) rfl).1 (chkW_in (i := 1125) (by decide +kernel)) (chkW_in (i := 1126) (by decide +kernel)) (chkW_in (i := 1127) (by decide +kernel)) ((mt_ok (k := 161) (M := mX7_swear) rfl).2.trans rfl) oY1 rfl rfl (Nat.zero_le _) ⟨by decide, by decide⟩ cY (fun v h q => ?_) (fun wY hy' q hnY => ?_)
  · obtain ⟨u, e, lu, -⟩ := q
    exact ⟨lu.trans (SD_len sY).symm, _, e, rfl⟩
  obtain ⟨uY, eY, lY, σ', β', sY', FY⟩ := q
  cases eY
  have kY := knd_int uY
  refine LW_pop (cdOk_spec tk_720 9 _ rfl) kY ?_
  exact LW_goto (t := 1337) (cdOk_spec tk_720 10 _ rfl) (by decide) (K _ _ ⟨ρ', α', σ', β', sX', sY', (by obtain ⟨n0, n1, n2, n3, n4, n5, n6, n7, n13, k2, k4, k7, k8, k15, k16, k19, k20, k21, k23, k24, k25, k32, k33, k34, k41, k42, k43, k44, k45, k46, f0, f1, f2, f3, -⟩ := FX; obtain ⟨m4, m5, m6, m7, m12, l1, l2, l9, l10, l11, l12, l13, l14, l15, l16, l26, l27, l28, l30, l31, l32, l33, -⟩ := FY; unfold RA RX at R ⊢; simp only [← n0, ← n1, ← n2, ← n3, ← n4, ← n5, ← n6, ← n7, ← n13, ← k2, ← k4, ← k7, ← k8, ← k15, ← k16, ← k19, ← k20, ← k21, ← k23, ← k24, ← k25, ← k32, ← k33, ← k34, ← k41, ← k42, ← k43, ← k44, ← k45, ← k46, ← m4, ← m5, ← m6, ← m7, ← m12, ← l1, ← l2, ← l9, ← l10, ← l11, ← l12, ← l13, ← l14, ← l15, ← l16, ← l26, ← l27, ← l28, ← l30, ← l31, ← l32, ← l33] at R f0 f1 f2 f3; obtain ⟨⟨ra, rb, rc⟩, R2, R3, R4, R5, R6, R7, R8, R9⟩ := R; exact ⟨⟨ra, XT_al rb f0 f1 f2 f3, rc⟩, R2, R3, R4, R5, R6, R7, R8, R9⟩)⟩)
theorem case_keep {b L i : Nat} {xs : Nat → Int32} {aX aY : Nat} {hx hy : AH} (hi : i + 6 ≤ L) (hL : L ≤ 3072) (I : INV hx hy) (K : ∀ hx' hy', INV hx' hy' → LW b L xs 93 2553 1337 (nI i) [] aX aY hx' hy') : LW b L xs 93 2553 733 (nI i) [] aX aY hx hy := by
  obtain ⟨ρ, α, σ, β, sX, sY, R⟩ := I
  have cX := sx_keep sX (trivial) (xs (i + 1)) (xs (i + 2))
  have cY := sy_keep sY R.1.1 (xs (i + 1)) (xs (i + 2))
  obtain ⟨fX, oX1⟩ := SD_obj (ci := 6) sX rfl
  obtain ⟨fY, oY1⟩ := SD_obj (ci := 7) sY rfl
  refine LW_x (cdOk_spec tk_720 13 _ rfl) ?_
  refine LW_arg (n := 1) (q := i + 1) (cdOk_spec tk_720 14 _ rfl) (cdOk_spec tk_720 15 _ rfl) (cdOk_spec tk_720 16 _ rfl) (cdOk_spec tk_720 17 _ rfl) (cdOk_spec tk_720 18 _ rfl) (arg_in (n := 1) (by omega) hL) (arg_q (n := 1) (by omega) hL) ?_
  refine LW_arg (n := 2) (q := i + 2) (cdOk_spec tk_720 19 _ rfl) (cdOk_spec tk_720 20 _ rfl) (cdOk_spec tk_720 21 _ rfl) (cdOk_spec tk_720 22 _ rfl) (cdOk_spec tk_720 23 _ rfl) (arg_in (n := 2) (by omega) hL) (arg_q (n := 2) (by omega) hL) ?_
  refine LW_callX (N := mX6_keep) (as := [.int (xs (i + 1)), .int (xs (i + 2))]) (st := []) (cdOk_spec tk_720 24 _ rfl) (mt_ok (k := 62) rfl).1 (chkW_in (i := 579) (by decide +kernel)) (chkW_in (i := 580) (by decide +kernel)) (chkW_in (i := 581) (by decide +kernel)) ((mt_ok (k := 62) (M := mX6_keep) rfl).2.trans rfl) oX1 rfl rfl (Nat.zero_le _) ⟨by decide, by decide⟩ cX (fun v h q => ?_) (fun wX hx' q hnX => ?_)
  · obtain ⟨u, e, lu, -⟩ := q
    exact ⟨lu.trans (SD_len sX).symm, _, e, rfl⟩
  obtain ⟨uX, eX, lX, ρ', α', sX', FX⟩ := q
  cases eX
  have kX := knd_int uX
  refine LW_pop (cdOk_spec tk_720 27 _ rfl) kX ?_
  refine LW_y (cdOk_spec tk_720 28 _ rfl) ?_
  refine LW_arg (n := 1) (q := i + 1) (cdOk_spec tk_720 29 _ rfl) (cdOk_spec tk_720 30 _ rfl) (cdOk_spec tk_720 31 _ rfl) (cdOk_spec tk_720 32 _ rfl) (cdOk_spec tk_720 33 _ rfl) (arg_in (n := 1) (by omega) hL) (arg_q (n := 1) (by omega) hL) ?_
  refine LW_arg (n := 2) (q := i + 2) (cdOk_spec tk_720 34 _ rfl) (cdOk_spec tk_720 35 _ rfl) (cdOk_spec tk_720 36 _ rfl) (cdOk_spec tk_720 37 _ rfl) (cdOk_spec tk_720 38 _ rfl) (arg_in (n := 2) (by omega) hL) (arg_q (n := 2) (by omega) hL) ?_
  refine LW_callY (N := mX7_keep) (as := [.int (xs (i + 1)), .int (xs (i + 2))]) (st := []) (cdOk_spec tk_720 39 _ rfl) (mt_ok (k := 163) rfl).1 (chkW_in (i := 1133) (by decide +kernel)) (chkW_in (i := 1134) (by decide +kernel)) (chkW_in (i := 1135) (by decide +kernel)) ((mt_ok (k := 163) (M := mX7_keep) rfl).2.trans rfl) oY1 rfl rfl (Nat.zero_le _) ⟨by decide, by decide⟩ cY (fun v h q => ?_) (fun wY hy' q hnY => ?_)
  · obtain ⟨u, e, lu, -⟩ := q
    exact ⟨lu.trans (SD_len sY).symm, _, e, rfl⟩
  obtain ⟨uY, eY, lY, σ', β', sY', FY⟩ := q
  cases eY
  have kY := knd_int uY
  refine LW_pop (cdOk_spec tk_720 42 _ rfl) kY ?_
  exact LW_goto (t := 1337) (cdOk_spec tk_720 43 _ rfl) (by decide) (K _ _ ⟨ρ', α', σ', β', sX', sY', (by obtain ⟨n0, n1, n2, n3, n4, n5, n6, n7, n13, k2, k4, k7, k8, k10, k11, k12, k13, k19, k20, k21, k23, k24, k25, k32, k33, k34, k41, k42, k43, k44, k45, k46, f0, f1, -⟩ := FX; obtain ⟨m4, m5, m6, m7, m12, l1, l2, l9, l10, l11, l12, l13, l14, l15, l16, l26, l27, l28, l30, l31, l32, l33, -⟩ := FY; unfold RA RX at R ⊢; simp only [← n0, ← n1, ← n2, ← n3, ← n4, ← n5, ← n6, ← n7, ← n13, ← k2, ← k4, ← k7, ← k8, ← k10, ← k11, ← k12, ← k13, ← k19, ← k20, ← k21, ← k23, ← k24, ← k25, ← k32, ← k33, ← k34, ← k41, ← k42, ← k43, ← k44, ← k45, ← k46, ← m4, ← m5, ← m6, ← m7, ← m12, ← l1, ← l2, ← l9, ← l10, ← l11, ← l12, ← l13, ← l14, ← l15, ← l16, ← l26, ← l27, ← l28, ← l30, ← l31, ← l32, ← l33] at R f0 f1; obtain ⟨⟨ra, rb, rc⟩, R2, R3, R4, R5, R6, R7, R8, R9⟩ := R; exact ⟨⟨ra, rb, rc⟩, R2, R3, R4, kR_al R5 f0 f1, R6, R7, R8, R9⟩)⟩)
theorem case_due {b L i : Nat} {xs : Nat → Int32} {aX aY : Nat} {hx hy : AH} (hi : i + 6 ≤ L) (hL : L ≤ 3072) (I : INV hx hy) (K : ∀ hx' hy', INV hx' hy' → LW b L xs 93 2553 1337 (nI i) [] aX aY hx' hy') : LW b L xs 93 2553 766 (nI i) [] aX aY hx hy := by
  obtain ⟨ρ, α, σ, β, sX, sY, R⟩ := I
  have cX := sx_due sX (trivial) (xs (i + 1)) (xs (i + 2))
  have cY := sy_due sY R.1.1 (xs (i + 1)) (xs (i + 2))
  obtain ⟨fX, oX1⟩ := SD_obj (ci := 6) sX rfl
  obtain ⟨fY, oY1⟩ := SD_obj (ci := 7) sY rfl
  refine LW_x (cdOk_spec tk_720 46 _ rfl) ?_
  refine LW_arg (n := 1) (q := i + 1) (cdOk_spec tk_720 47 _ rfl) (cdOk_spec tk_720 48 _ rfl) (cdOk_spec tk_720 49 _ rfl) (cdOk_spec tk_720 50 _ rfl) (cdOk_spec tk_720 51 _ rfl) (arg_in (n := 1) (by omega) hL) (arg_q (n := 1) (by omega) hL) ?_
  refine LW_arg (n := 2) (q := i + 2) (cdOk_spec tk_720 52 _ rfl) (cdOk_spec tk_720 53 _ rfl) (cdOk_spec tk_720 54 _ rfl) (cdOk_spec tk_720 55 _ rfl) (cdOk_spec tk_720 56 _ rfl) (arg_in (n := 2) (by omega) hL) (arg_q (n := 2) (by omega) hL) ?_
  refine LW_callX (N := mX6_due) (as := [.int (xs (i + 1)), .int (xs (i + 2))]) (st := []) (cdOk_spec tk_720 57 _ rfl) (mt_ok (k := 63) rfl).1 (chkW_in (i := 583) (by decide +kernel)) (chkW_in (i := 584) (by decide +kernel)) (chkW_in (i := 585) (by decide +kernel)) ((mt_ok (k := 63) (M := mX6_due) rfl).2.trans rfl) oX1 rfl rfl (Nat.zero_le _) ⟨by decide, by decide⟩ cX (fun v h q => ?_) (fun wX hx' q hnX => ?_)
  · obtain ⟨u, e, lu, -⟩ := q
    exact ⟨lu.trans (SD_len sX).symm, _, e, rfl⟩
  obtain ⟨uX, eX, lX, ρ', α', sX', FX⟩ := q
  cases eX
  have kX := knd_int uX
  refine LW_pop (cdOk_spec tk_780 0 _ rfl) kX ?_
  refine LW_y (cdOk_spec tk_780 1 _ rfl) ?_
  refine LW_arg (n := 1) (q := i + 1) (cdOk_spec tk_780 2 _ rfl) (cdOk_spec tk_780 3 _ rfl) (cdOk_spec tk_780 4 _ rfl) (cdOk_spec tk_780 5 _ rfl) (cdOk_spec tk_780 6 _ rfl) (arg_in (n := 1) (by omega) hL) (arg_q (n := 1) (by omega) hL) ?_
  refine LW_arg (n := 2) (q := i + 2) (cdOk_spec tk_780 7 _ rfl) (cdOk_spec tk_780 8 _ rfl) (cdOk_spec tk_780 9 _ rfl) (cdOk_spec tk_780 10 _ rfl) (cdOk_spec tk_780 11 _ rfl) (arg_in (n := 2) (by omega) hL) (arg_q (n := 2) (by omega) hL) ?_
  refine LW_callY (N := mX7_due) (as := [.int (xs (i + 1)), .int (xs (i + 2))]) (st := []) (cdOk_spec tk_780 12 _ rfl) (mt_ok (k := 165) rfl).1 (chkW_in (i := 1141) (by decide +kernel)) (chkW_in (i := 1142) (by decide +kernel)) (chkW_in (i := 1143) (by decide +kernel)) ((mt_ok (k := 165) (M := mX7_due) rfl).2.trans rfl) oY1 rfl rfl (Nat.zero_le _) ⟨by decide, by decide⟩ cY (fun v h q => ?_) (fun wY hy' q hnY => ?_)
  · obtain ⟨u, e, lu, -⟩ := q
    exact ⟨lu.trans (SD_len sY).symm, _, e, rfl⟩
  obtain ⟨uY, eY, lY, σ', β', sY', FY⟩ := q
  cases eY
  have kY := knd_int uY
  refine LW_pop (cdOk_spec tk_780 15 _ rfl) kY ?_
  exact LW_goto (t := 1337) (cdOk_spec tk_780 16 _ rfl) (by decide) (K _ _ ⟨ρ', α', σ', β', sX', sY', (by obtain ⟨n0, n1, n2, n3, n4, n5, n6, n7, n13, k2, k4, k7, k8, k10, k11, k12, k15, k16, k19, k20, k21, k23, k24, k25, k32, k33, k34, k41, k42, k43, k44, k45, k46, f0, -⟩ := FX; obtain ⟨m4, m5, m6, m7, m12, l1, l2, l9, l10, l11, l12, l13, l14, l15, l16, l26, l27, l28, l30, l31, l32, l33, -⟩ := FY; unfold RA RX at R ⊢; simp only [← n0, ← n1, ← n2, ← n3, ← n4, ← n5, ← n6, ← n7, ← n13, ← k2, ← k4, ← k7, ← k8, ← k10, ← k11, ← k12, ← k15, ← k16, ← k19, ← k20, ← k21, ← k23, ← k24, ← k25, ← k32, ← k33, ← k34, ← k41, ← k42, ← k43, ← k44, ← k45, ← k46, ← m4, ← m5, ← m6, ← m7, ← m12, ← l1, ← l2, ← l9, ← l10, ← l11, ← l12, ← l13, ← l14, ← l15, ← l16, ← l26, ← l27, ← l28, ← l30, ← l31, ← l32, ← l33, ← f0] at R; obtain ⟨⟨ra, rb, rc⟩, R2, R3, R4, R5, R6, R7, R8, R9⟩ := R; exact ⟨⟨ra, rb, rc⟩, R2, R3, R4, R5, R6, R7, R8, R9⟩)⟩)
theorem case_hush {b L i : Nat} {xs : Nat → Int32} {aX aY : Nat} {hx hy : AH} (hi : i + 6 ≤ L) (hL : L ≤ 3072) (I : INV hx hy) (K : ∀ hx' hy', INV hx' hy' → LW b L xs 93 2553 1337 (nI i) [] aX aY hx' hy') : LW b L xs 93 2553 799 (nI i) [] aX aY hx hy := by
  obtain ⟨ρ, α, σ, β, sX, sY, R⟩ := I
  have cX := sx_hush sX (trivial) (xs (i + 1))
  have cY := sy_hush sY R.1.1 (xs (i + 1))
  obtain ⟨fX, oX1⟩ := SD_obj (ci := 6) sX rfl
  obtain ⟨fY, oY1⟩ := SD_obj (ci := 7) sY rfl
  refine LW_x (cdOk_spec tk_780 19 _ rfl) ?_
  refine LW_arg (n := 1) (q := i + 1) (cdOk_spec tk_780 20 _ rfl) (cdOk_spec tk_780 21 _ rfl) (cdOk_spec tk_780 22 _ rfl) (cdOk_spec tk_780 23 _ rfl) (cdOk_spec tk_780 24 _ rfl) (arg_in (n := 1) (by omega) hL) (arg_q (n := 1) (by omega) hL) ?_
  refine LW_callX (N := mX6_hush) (as := [.int (xs (i + 1))]) (st := []) (cdOk_spec tk_780 25 _ rfl) (mt_ok (k := 64) rfl).1 (chkW_in (i := 587) (by decide +kernel)) (chkW_in (i := 588) (by decide +kernel)) (chkW_in (i := 589) (by decide +kernel)) ((mt_ok (k := 64) (M := mX6_hush) rfl).2.trans rfl) oX1 rfl rfl (Nat.zero_le _) ⟨by decide, by decide⟩ cX (fun v h q => ?_) (fun wX hx' q hnX => ?_)
  · obtain ⟨u, e, lu, -⟩ := q
    exact ⟨lu.trans (SD_len sX).symm, _, e, rfl⟩
  obtain ⟨uX, eX, lX, ρ', α', sX', FX⟩ := q
  cases eX
  have kX := knd_int uX
  refine LW_pop (cdOk_spec tk_780 28 _ rfl) kX ?_
  refine LW_y (cdOk_spec tk_780 29 _ rfl) ?_
  refine LW_arg (n := 1) (q := i + 1) (cdOk_spec tk_780 30 _ rfl) (cdOk_spec tk_780 31 _ rfl) (cdOk_spec tk_780 32 _ rfl) (cdOk_spec tk_780 33 _ rfl) (cdOk_spec tk_780 34 _ rfl) (arg_in (n := 1) (by omega) hL) (arg_q (n := 1) (by omega) hL) ?_
  refine LW_callY (N := mX7_hush) (as := [.int (xs (i + 1))]) (st := []) (cdOk_spec tk_780 35 _ rfl) (mt_ok (k := 169) rfl).1 (chkW_in (i := 1149) (by decide +kernel)) (chkW_in (i := 1150) (by decide +kernel)) (chkW_in (i := 1151) (by decide +kernel)) ((mt_ok (k := 169) (M := mX7_hush) rfl).2.trans rfl) oY1 rfl rfl (Nat.zero_le _) ⟨by decide, by decide⟩ cY (fun v h q => ?_) (fun wY hy' q hnY => ?_)
  · obtain ⟨u, e, lu, -⟩ := q
    exact ⟨lu.trans (SD_len sY).symm, _, e, rfl⟩
  obtain ⟨uY, eY, lY, σ', β', sY', FY⟩ := q
  cases eY
  have kY := knd_int uY
  refine LW_pop (cdOk_spec tk_780 38 _ rfl) kY ?_
  exact LW_goto (t := 1337) (cdOk_spec tk_780 39 _ rfl) (by decide) (K _ _ ⟨ρ', α', σ', β', sX', sY', (by obtain ⟨n0, n1, n2, n3, n4, n5, n6, n7, n13, k2, k4, k7, k8, k10, k11, k12, k13, k15, k16, k19, k20, k21, k23, k24, k25, k32, k33, k34, k41, k42, k43, k44, k45, k46, -⟩ := FX; obtain ⟨m4, m5, m6, m7, m12, l1, l2, l9, l10, l11, l12, l13, l14, l15, l16, l26, l27, l28, l30, l31, l32, l33, -⟩ := FY; unfold RA RX at R ⊢; simp only [← n0, ← n1, ← n2, ← n3, ← n4, ← n5, ← n6, ← n7, ← n13, ← k2, ← k4, ← k7, ← k8, ← k10, ← k11, ← k12, ← k13, ← k15, ← k16, ← k19, ← k20, ← k21, ← k23, ← k24, ← k25, ← k32, ← k33, ← k34, ← k41, ← k42, ← k43, ← k44, ← k45, ← k46, ← m4, ← m5, ← m6, ← m7, ← m12, ← l1, ← l2, ← l9, ← l10, ← l11, ← l12, ← l13, ← l14, ← l15, ← l16, ← l26, ← l27, ← l28, ← l30, ← l31, ← l32, ← l33] at R; obtain ⟨⟨ra, rb, rc⟩, R2, R3, R4, R5, R6, R7, R8, R9⟩ := R; exact ⟨⟨ra, rb, rc⟩, R2, R3, R4, R5, R6, R7, R8, R9⟩)⟩)
theorem case_seen {b L i : Nat} {xs : Nat → Int32} {aX aY : Nat} {hx hy : AH} (hi : i + 6 ≤ L) (hL : L ≤ 3072) (I : INV hx hy) (K : ∀ hx' hy', INV hx' hy' → LW b L xs 93 2553 1337 (nI i) [] aX aY hx' hy') : LW b L xs 93 2553 822 (nI i) [] aX aY hx hy := by
  obtain ⟨ρ, α, σ, β, sX, sY, R⟩ := I
  have cX := sx_seen sX (trivial) (xs (i + 1)) (xs (i + 2)) (xs (i + 3))
  have cY := sy_seen sY R.1.1 (xs (i + 1)) (xs (i + 2)) (xs (i + 3))
  obtain ⟨fX, oX1⟩ := SD_obj (ci := 6) sX rfl
  obtain ⟨fY, oY1⟩ := SD_obj (ci := 7) sY rfl
  refine LW_x (cdOk_spec tk_780 42 _ rfl) ?_
  refine LW_arg (n := 1) (q := i + 1) (cdOk_spec tk_780 43 _ rfl) (cdOk_spec tk_780 44 _ rfl) (cdOk_spec tk_780 45 _ rfl) (cdOk_spec tk_780 46 _ rfl) (cdOk_spec tk_780 47 _ rfl) (arg_in (n := 1) (by omega) hL) (arg_q (n := 1) (by omega) hL) ?_
  refine LW_arg (n := 2) (q := i + 2) (cdOk_spec tk_780 48 _ rfl) (cdOk_spec tk_780 49 _ rfl) (cdOk_spec tk_780 50 _ rfl) (cdOk_spec tk_780 51 _ rfl) (cdOk_spec tk_780 52 _ rfl) (arg_in (n := 2) (by omega) hL) (arg_q (n := 2) (by omega) hL) ?_
  refine LW_arg (n := 3) (q := i + 3) (cdOk_spec tk_780 53 _ rfl) (cdOk_spec tk_780 54 _ rfl) (cdOk_spec tk_780 55 _ rfl) (cdOk_spec tk_780 56 _ rfl) (cdOk_spec tk_780 57 _ rfl) (arg_in (n := 3) (by omega) hL) (arg_q (n := 3) (by omega) hL) ?_
  refine LW_callX (N := mX6_seen) (as := [.int (xs (i + 1)), .int (xs (i + 2)), .int (xs (i + 3))]) (st := []) (cdOk_spec tk_780 58 _ rfl) (mt_ok (k := 65) rfl).1 (chkW_in (i := 603) (by decide +kernel)) (chkW_in (i := 604) (by decide +kernel)) (chkW_in (i := 605) (by decide +kernel)) ((mt_ok (k := 65) (M := mX6_seen) rfl).2.trans rfl) oX1 rfl rfl (Nat.zero_le _) ⟨by decide, by decide⟩ cX (fun v h q => ?_) (fun wX hx' q hnX => ?_)
  · obtain ⟨u, e, lu, -⟩ := q
    exact ⟨lu.trans (SD_len sX).symm, _, e, rfl⟩
  obtain ⟨uX, eX, lX, ρ', α', sX', FX⟩ := q
  cases eX
  have kX := knd_int uX
  refine LW_pop (cdOk_spec tk_840 1 _ rfl) kX ?_
  refine LW_y (cdOk_spec tk_840 2 _ rfl) ?_
  refine LW_arg (n := 1) (q := i + 1) (cdOk_spec tk_840 3 _ rfl) (cdOk_spec tk_840 4 _ rfl) (cdOk_spec tk_840 5 _ rfl) (cdOk_spec tk_840 6 _ rfl) (cdOk_spec tk_840 7 _ rfl) (arg_in (n := 1) (by omega) hL) (arg_q (n := 1) (by omega) hL) ?_
  refine LW_arg (n := 2) (q := i + 2) (cdOk_spec tk_840 8 _ rfl) (cdOk_spec tk_840 9 _ rfl) (cdOk_spec tk_840 10 _ rfl) (cdOk_spec tk_840 11 _ rfl) (cdOk_spec tk_840 12 _ rfl) (arg_in (n := 2) (by omega) hL) (arg_q (n := 2) (by omega) hL) ?_
  refine LW_arg (n := 3) (q := i + 3) (cdOk_spec tk_840 13 _ rfl) (cdOk_spec tk_840 14 _ rfl) (cdOk_spec tk_840 15 _ rfl) (cdOk_spec tk_840 16 _ rfl) (cdOk_spec tk_840 17 _ rfl) (arg_in (n := 3) (by omega) hL) (arg_q (n := 3) (by omega) hL) ?_
  refine LW_callY (N := mX7_seen) (as := [.int (xs (i + 1)), .int (xs (i + 2)), .int (xs (i + 3))]) (st := []) (cdOk_spec tk_840 18 _ rfl) (mt_ok (k := 170) rfl).1 (chkW_in (i := 1165) (by decide +kernel)) (chkW_in (i := 1166) (by decide +kernel)) (chkW_in (i := 1167) (by decide +kernel)) ((mt_ok (k := 170) (M := mX7_seen) rfl).2.trans rfl) oY1 rfl rfl (Nat.zero_le _) ⟨by decide, by decide⟩ cY (fun v h q => ?_) (fun wY hy' q hnY => ?_)
  · obtain ⟨u, e, lu, -⟩ := q
    exact ⟨lu.trans (SD_len sY).symm, _, e, rfl⟩
  obtain ⟨uY, eY, lY, σ', β', sY', FY⟩ := q
  cases eY
  have kY := knd_int uY
  refine LW_pop (cdOk_spec tk_840 21 _ rfl) kY ?_
  exact LW_goto (t := 1337) (cdOk_spec tk_840 22 _ rfl) (by decide) (K _ _ ⟨ρ', α', σ', β', sX', sY', (by obtain ⟨n0, n1, n2, n3, n4, n5, n6, n13, k2, k4, k7, k8, k10, k11, k12, k13, k15, k16, k19, k20, k21, k23, k24, k25, k41, k42, k43, k44, k45, k46, f0, -⟩ := FX; obtain ⟨m4, m5, m6, m12, l1, l2, l9, l10, l11, l12, l13, l14, l15, l16, l30, l31, l32, l33, g0, -⟩ := FY; have W := tR_see R.2.2.2.2.2.2.2.1 f0 g0; unfold RA RX at R ⊢; simp only [← n0, ← n1, ← n2, ← n3, ← n4, ← n5, ← n6, ← n13, ← k2, ← k4, ← k7, ← k8, ← k10, ← k11, ← k12, ← k13, ← k15, ← k16, ← k19, ← k20, ← k21, ← k23, ← k24, ← k25, ← k41, ← k42, ← k43, ← k44, ← k45, ← k46, ← m4, ← m5, ← m6, ← m12, ← l1, ← l2, ← l9, ← l10, ← l11, ← l12, ← l13, ← l14, ← l15, ← l16, ← l30, ← l31, ← l32, ← l33] at R W; obtain ⟨⟨ra, rb, rc⟩, R2, R3, R4, R5, R6, R7, R8, R9⟩ := R; exact ⟨⟨ra, rb, rc⟩, R2, R3, R4, R5, R6, R7, W.2, R9⟩)⟩)
theorem case_forget {b L i : Nat} {xs : Nat → Int32} {aX aY : Nat} {hx hy : AH} (hi : i + 6 ≤ L) (hL : L ≤ 3072) (I : INV hx hy) (K : ∀ hx' hy', INV hx' hy' → LW b L xs 93 2553 1337 (nI i) [] aX aY hx' hy') : LW b L xs 93 2553 865 (nI i) [] aX aY hx hy := by
  obtain ⟨ρ, α, σ, β, sX, sY, R⟩ := I
  have cX := sx_forget sX (trivial) 
  have cY := sy_forget sY R.1.1 
  obtain ⟨fX, oX1⟩ := SD_obj (ci := 6) sX rfl
  obtain ⟨fY, oY1⟩ := SD_obj (ci := 7) sY rfl
  refine LW_x (cdOk_spec tk_840 25 _ rfl) ?_
  refine LW_callX (N := mX6_forget) (as := []) (st := []) (cdOk_spec tk_840 26 _ rfl) (mt_ok (k := 66) rfl).1 (chkW_in (i := 607) (by decide +kernel)) (chkW_in (i := 608) (by decide +kernel)) (chkW_in (i := 609) (by decide +kernel)) ((mt_ok (k := 66) (M := mX6_forget) rfl).2.trans rfl) oX1 rfl rfl (Nat.zero_le _) ⟨by decide, by decide⟩ cX (fun v h q => ?_) (fun wX hx' q hnX => ?_)
  · obtain ⟨u, e, lu, -⟩ := q
    exact ⟨lu.trans (SD_len sX).symm, _, e, rfl⟩
  obtain ⟨uX, eX, lX, ρ', α', sX', FX⟩ := q
  cases eX
  have kX := knd_int uX
  refine LW_pop (cdOk_spec tk_840 29 _ rfl) kX ?_
  refine LW_y (cdOk_spec tk_840 30 _ rfl) ?_
  refine LW_callY (N := mX7_forget) (as := []) (st := []) (cdOk_spec tk_840 31 _ rfl) (mt_ok (k := 171) rfl).1 (chkW_in (i := 1169) (by decide +kernel)) (chkW_in (i := 1170) (by decide +kernel)) (chkW_in (i := 1171) (by decide +kernel)) ((mt_ok (k := 171) (M := mX7_forget) rfl).2.trans rfl) oY1 rfl rfl (Nat.zero_le _) ⟨by decide, by decide⟩ cY (fun v h q => ?_) (fun wY hy' q hnY => ?_)
  · obtain ⟨u, e, lu, -⟩ := q
    exact ⟨lu.trans (SD_len sY).symm, _, e, rfl⟩
  obtain ⟨uY, eY, lY, σ', β', sY', FY⟩ := q
  cases eY
  have kY := knd_int uY
  refine LW_pop (cdOk_spec tk_840 34 _ rfl) kY ?_
  exact LW_goto (t := 1337) (cdOk_spec tk_840 35 _ rfl) (by decide) (K _ _ ⟨ρ', α', σ', β', sX', sY', (by obtain ⟨n0, n1, n2, n3, n4, n5, n6, n13, k2, k4, k7, k8, k10, k11, k12, k13, k15, k16, k19, k20, k21, k23, k24, k25, k32, k33, k34, k41, k42, k43, k44, k45, k46, f0, -⟩ := FX; obtain ⟨m4, m5, m6, m12, l1, l2, l9, l10, l11, l12, l13, l14, l15, l16, l26, l27, l28, l30, l31, l32, l33, g0, -⟩ := FY; have W := ra_forget R.2.2.2.2.2.2.2.1.1 f0 g0 (sX.1 7 (0, 8) rfl).1; unfold RA RX at R ⊢; simp only [← n0, ← n1, ← n2, ← n3, ← n4, ← n5, ← n6, ← n13, ← k2, ← k4, ← k7, ← k8, ← k10, ← k11, ← k12, ← k13, ← k15, ← k16, ← k19, ← k20, ← k21, ← k23, ← k24, ← k25, ← k32, ← k33, ← k34, ← k41, ← k42, ← k43, ← k44, ← k45, ← k46, ← m4, ← m5, ← m6, ← m12, ← l1, ← l2, ← l9, ← l10, ← l11, ← l12, ← l13, ← l14, ← l15, ← l16, ← l26, ← l27, ← l28, ← l30, ← l31, ← l32, ← l33] at R W; obtain ⟨⟨ra, rb, rc⟩, R2, R3, R4, R5, R6, R7, R8, R9⟩ := R; exact ⟨⟨ra, rb, rc⟩, R2, R3, R4, R5, R6, R7, tR_dn R8 W.2.2 W.2.1, R9⟩)⟩)
theorem case_never {b L i : Nat} {xs : Nat → Int32} {aX aY : Nat} {hx hy : AH} (hi : i + 6 ≤ L) (hL : L ≤ 3072) (I : INV hx hy) (K : ∀ hx' hy', INV hx' hy' → LW b L xs 93 2553 1337 (nI i) [] aX aY hx' hy') : LW b L xs 93 2553 878 (nI i) [] aX aY hx hy := by
  obtain ⟨ρ, α, σ, β, sX, sY, R⟩ := I
  have cX := sx_never sX (trivial) 
  have cY := sy_never sY R.1.1 
  obtain ⟨fX, oX1⟩ := SD_obj (ci := 6) sX rfl
  obtain ⟨fY, oY1⟩ := SD_obj (ci := 7) sY rfl
  refine LW_x (cdOk_spec tk_840 38 _ rfl) ?_
  refine LW_callX (N := mX6_never) (as := []) (st := []) (cdOk_spec tk_840 39 _ rfl) (mt_ok (k := 67) rfl).1 (chkW_in (i := 611) (by decide +kernel)) (chkW_in (i := 612) (by decide +kernel)) (chkW_in (i := 613) (by decide +kernel)) ((mt_ok (k := 67) (M := mX6_never) rfl).2.trans rfl) oX1 rfl rfl (Nat.zero_le _) ⟨by decide, by decide⟩ cX (fun v h q => ?_) (fun wX hx' q hnX => ?_)
  · obtain ⟨u, e, lu, -⟩ := q
    exact ⟨lu.trans (SD_len sX).symm, _, e, rfl⟩
  obtain ⟨uX, eX, lX, ρ', α', sX', FX⟩ := q
  cases eX
  have kX := knd_int uX
  refine LW_y (cdOk_spec tk_840 42 _ rfl) ?_
  refine LW_callY (N := mX7_never) (as := []) (st := [.int uX]) (cdOk_spec tk_840 43 _ rfl) (mt_ok (k := 174) rfl).1 (chkW_in (i := 1173) (by decide +kernel)) (chkW_in (i := 1174) (by decide +kernel)) (chkW_in (i := 1175) (by decide +kernel)) ((mt_ok (k := 174) (M := mX7_never) rfl).2.trans rfl) oY1 rfl rfl (knd_cat (knd_int uX)) ⟨by decide, by decide⟩ cY (fun v h q => ?_) (fun wY hy' q hnY => ?_)
  · obtain ⟨u, e, lu, -⟩ := q
    exact ⟨lu.trans (SD_len sY).symm, _, e, rfl⟩
  obtain ⟨uY, eY, lY, σ', β', sY', FY⟩ := q
  cases eY
  have kY := knd_int uY
  exact LW_eqi (t := 1337) (cdOk_spec tk_840 46 _ rfl) (by decide) (Int32.toInt_inj.mp ((by obtain ⟨n0, n1, n2, n3, n4, n5, n6, n7, n13, k2, k4, k7, k8, k10, k11, k12, k13, k15, k16, k19, k20, k21, k23, k24, k25, k32, k33, k34, k41, k42, k43, k44, k45, k46, f0, -⟩ := FX; obtain ⟨m4, m5, m6, m7, m12, l1, l2, l9, l10, l11, l12, l13, l14, l15, l16, l26, l27, l28, l30, l31, l32, l33, g0, -⟩ := FY; exact eq_never R f0 g0))) (K _ _ ⟨ρ', α', σ', β', sX', sY', (by obtain ⟨n0, n1, n2, n3, n4, n5, n6, n7, n13, k2, k4, k7, k8, k10, k11, k12, k13, k15, k16, k19, k20, k21, k23, k24, k25, k32, k33, k34, k41, k42, k43, k44, k45, k46, f0, -⟩ := FX; obtain ⟨m4, m5, m6, m7, m12, l1, l2, l9, l10, l11, l12, l13, l14, l15, l16, l26, l27, l28, l30, l31, l32, l33, g0, -⟩ := FY; unfold RA RX at R ⊢; simp only [← n0, ← n1, ← n2, ← n3, ← n4, ← n5, ← n6, ← n7, ← n13, ← k2, ← k4, ← k7, ← k8, ← k10, ← k11, ← k12, ← k13, ← k15, ← k16, ← k19, ← k20, ← k21, ← k23, ← k24, ← k25, ← k32, ← k33, ← k34, ← k41, ← k42, ← k43, ← k44, ← k45, ← k46, ← m4, ← m5, ← m6, ← m7, ← m12, ← l1, ← l2, ← l9, ← l10, ← l11, ← l12, ← l13, ← l14, ← l15, ← l16, ← l26, ← l27, ← l28, ← l30, ← l31, ← l32, ← l33] at R; obtain ⟨⟨ra, rb, rc⟩, R2, R3, R4, R5, R6, R7, R8, R9⟩ := R; exact ⟨⟨ra, rb, rc⟩, R2, R3, R4, R5, R6, R7, R8, R9⟩)⟩)
theorem case_was {b L i : Nat} {xs : Nat → Int32} {aX aY : Nat} {hx hy : AH} (hi : i + 6 ≤ L) (hL : L ≤ 3072) (I : INV hx hy) (K : ∀ hx' hy', INV hx' hy' → LW b L xs 93 2553 1337 (nI i) [] aX aY hx' hy') : LW b L xs 93 2553 891 (nI i) [] aX aY hx hy := by
  obtain ⟨ρ, α, σ, β, sX, sY, R⟩ := I
  have cX := sx_was sX (trivial) (xs (i + 1)) (xs (i + 2))
  have cY := sy_was sY R.1.1 (xs (i + 1)) (xs (i + 2))
  obtain ⟨fX, oX1⟩ := SD_obj (ci := 6) sX rfl
  obtain ⟨fY, oY1⟩ := SD_obj (ci := 7) sY rfl
  refine LW_x (cdOk_spec tk_840 51 _ rfl) ?_
  refine LW_arg (n := 1) (q := i + 1) (cdOk_spec tk_840 52 _ rfl) (cdOk_spec tk_840 53 _ rfl) (cdOk_spec tk_840 54 _ rfl) (cdOk_spec tk_840 55 _ rfl) (cdOk_spec tk_840 56 _ rfl) (arg_in (n := 1) (by omega) hL) (arg_q (n := 1) (by omega) hL) ?_
  refine LW_arg (n := 2) (q := i + 2) (cdOk_spec tk_840 57 _ rfl) (cdOk_spec tk_840 58 _ rfl) (cdOk_spec tk_840 59 _ rfl) (cdOk_spec tk_900 0 _ rfl) (cdOk_spec tk_900 1 _ rfl) (arg_in (n := 2) (by omega) hL) (arg_q (n := 2) (by omega) hL) ?_
  refine LW_callX (N := mX6_was) (as := [.int (xs (i + 1)), .int (xs (i + 2))]) (st := []) (cdOk_spec tk_900 2 _ rfl) (mt_ok (k := 68) rfl).1 (chkW_in (i := 625) (by decide +kernel)) (chkW_in (i := 626) (by decide +kernel)) (chkW_in (i := 627) (by decide +kernel)) ((mt_ok (k := 68) (M := mX6_was) rfl).2.trans rfl) oX1 rfl rfl (Nat.zero_le _) ⟨by decide, by decide⟩ cX (fun v h q => ?_) (fun wX hx' q hnX => ?_)
  · obtain ⟨u, e, lu, -⟩ := q
    exact ⟨lu.trans (SD_len sX).symm, _, e, rfl⟩
  obtain ⟨uX, eX, lX, ρ', α', sX', FX⟩ := q
  cases eX
  have kX := knd_int uX
  refine LW_pop (cdOk_spec tk_900 5 _ rfl) kX ?_
  refine LW_y (cdOk_spec tk_900 6 _ rfl) ?_
  refine LW_arg (n := 1) (q := i + 1) (cdOk_spec tk_900 7 _ rfl) (cdOk_spec tk_900 8 _ rfl) (cdOk_spec tk_900 9 _ rfl) (cdOk_spec tk_900 10 _ rfl) (cdOk_spec tk_900 11 _ rfl) (arg_in (n := 1) (by omega) hL) (arg_q (n := 1) (by omega) hL) ?_
  refine LW_arg (n := 2) (q := i + 2) (cdOk_spec tk_900 12 _ rfl) (cdOk_spec tk_900 13 _ rfl) (cdOk_spec tk_900 14 _ rfl) (cdOk_spec tk_900 15 _ rfl) (cdOk_spec tk_900 16 _ rfl) (arg_in (n := 2) (by omega) hL) (arg_q (n := 2) (by omega) hL) ?_
  refine LW_callY (N := mX7_was) (as := [.int (xs (i + 1)), .int (xs (i + 2))]) (st := []) (cdOk_spec tk_900 17 _ rfl) (mt_ok (k := 177) rfl).1 (chkW_in (i := 1185) (by decide +kernel)) (chkW_in (i := 1186) (by decide +kernel)) (chkW_in (i := 1187) (by decide +kernel)) ((mt_ok (k := 177) (M := mX7_was) rfl).2.trans rfl) oY1 rfl rfl (Nat.zero_le _) ⟨by decide, by decide⟩ cY (fun v h q => ?_) (fun wY hy' q hnY => ?_)
  · obtain ⟨u, e, lu, -⟩ := q
    exact ⟨lu.trans (SD_len sY).symm, _, e, rfl⟩
  obtain ⟨uY, eY, lY, σ', β', sY', FY⟩ := q
  cases eY
  have kY := knd_int uY
  refine LW_pop (cdOk_spec tk_900 20 _ rfl) kY ?_
  exact LW_goto (t := 1337) (cdOk_spec tk_900 21 _ rfl) (by decide) (K _ _ ⟨ρ', α', σ', β', sX', sY', (by obtain ⟨n0, n1, n2, n3, n4, n5, n6, n7, n13, k2, k4, k10, k11, k12, k13, k15, k16, k19, k20, k21, k23, k24, k25, k32, k33, k34, k41, k42, k43, k44, k45, k46, f0, f1, -⟩ := FX; obtain ⟨m4, m5, m6, m7, m12, l1, l2, l9, l10, l11, l12, l13, l14, l15, l16, l26, l27, l28, l30, l31, l32, l33, -⟩ := FY; unfold RA RX at R ⊢; simp only [← n0, ← n1, ← n2, ← n3, ← n4, ← n5, ← n6, ← n7, ← n13, ← k2, ← k4, ← k10, ← k11, ← k12, ← k13, ← k15, ← k16, ← k19, ← k20, ← k21, ← k23, ← k24, ← k25, ← k32, ← k33, ← k34, ← k41, ← k42, ← k43, ← k44, ← k45, ← k46, ← m4, ← m5, ← m6, ← m7, ← m12, ← l1, ← l2, ← l9, ← l10, ← l11, ← l12, ← l13, ← l14, ← l15, ← l16, ← l26, ← l27, ← l28, ← l30, ← l31, ← l32, ← l33, ← f0, ← f1] at R; obtain ⟨⟨ra, rb, rc⟩, R2, R3, R4, R5, R6, R7, R8, R9⟩ := R; exact ⟨⟨ra, rb, rc⟩, R2, R3, R4, R5, R6, R7, R8, R9⟩)⟩)
theorem case_ask {b L i : Nat} {xs : Nat → Int32} {aX aY : Nat} {hx hy : AH} (hi : i + 6 ≤ L) (hL : L ≤ 3072) (I : INV hx hy) (K : ∀ hx' hy', INV hx' hy' → LW b L xs 93 2553 1337 (nI i) [] aX aY hx' hy') : LW b L xs 93 2553 924 (nI i) [] aX aY hx hy := by
  obtain ⟨ρ, α, σ, β, sX, sY, R⟩ := I
  have cX := sx_ask sX (trivial) (xs (i + 1))
  have cY := sy_ask sY R.1.1 (xs (i + 1))
  obtain ⟨fX, oX1⟩ := SD_obj (ci := 6) sX rfl
  obtain ⟨fY, oY1⟩ := SD_obj (ci := 7) sY rfl
  refine LW_x (cdOk_spec tk_900 24 _ rfl) ?_
  refine LW_arg (n := 1) (q := i + 1) (cdOk_spec tk_900 25 _ rfl) (cdOk_spec tk_900 26 _ rfl) (cdOk_spec tk_900 27 _ rfl) (cdOk_spec tk_900 28 _ rfl) (cdOk_spec tk_900 29 _ rfl) (arg_in (n := 1) (by omega) hL) (arg_q (n := 1) (by omega) hL) ?_
  refine LW_callX (N := mX6_ask) (as := [.int (xs (i + 1))]) (st := []) (cdOk_spec tk_900 30 _ rfl) (mt_ok (k := 69) rfl).1 (chkW_in (i := 633) (by decide +kernel)) (chkW_in (i := 634) (by decide +kernel)) (chkW_in (i := 635) (by decide +kernel)) ((mt_ok (k := 69) (M := mX6_ask) rfl).2.trans rfl) oX1 rfl rfl (Nat.zero_le _) ⟨by decide, by decide⟩ cX (fun v h q => ?_) (fun wX hx' q hnX => ?_)
  · obtain ⟨u, e, lu, -⟩ := q
    exact ⟨lu.trans (SD_len sX).symm, _, e, rfl⟩
  obtain ⟨uX, eX, lX, ρ', α', sX', FX⟩ := q
  cases eX
  have kX := knd_int uX
  refine LW_pop (cdOk_spec tk_900 33 _ rfl) kX ?_
  refine LW_y (cdOk_spec tk_900 34 _ rfl) ?_
  refine LW_arg (n := 1) (q := i + 1) (cdOk_spec tk_900 35 _ rfl) (cdOk_spec tk_900 36 _ rfl) (cdOk_spec tk_900 37 _ rfl) (cdOk_spec tk_900 38 _ rfl) (cdOk_spec tk_900 39 _ rfl) (arg_in (n := 1) (by omega) hL) (arg_q (n := 1) (by omega) hL) ?_
  refine LW_callY (N := mX7_ask) (as := [.int (xs (i + 1))]) (st := []) (cdOk_spec tk_900 40 _ rfl) (mt_ok (k := 179) rfl).1 (chkW_in (i := 1197) (by decide +kernel)) (chkW_in (i := 1198) (by decide +kernel)) (chkW_in (i := 1199) (by decide +kernel)) ((mt_ok (k := 179) (M := mX7_ask) rfl).2.trans rfl) oY1 rfl rfl (Nat.zero_le _) ⟨by decide, by decide⟩ cY (fun v h q => ?_) (fun wY hy' q hnY => ?_)
  · obtain ⟨u, e, lu, -⟩ := q
    exact ⟨lu.trans (SD_len sY).symm, _, e, rfl⟩
  obtain ⟨uY, eY, lY, σ', β', sY', FY⟩ := q
  cases eY
  have kY := knd_int uY
  refine LW_pop (cdOk_spec tk_900 43 _ rfl) kY ?_
  exact LW_goto (t := 1337) (cdOk_spec tk_900 44 _ rfl) (by decide) (K _ _ ⟨ρ', α', σ', β', sX', sY', (by obtain ⟨n0, n1, n2, n3, n4, n5, n6, n7, n13, k2, k4, k7, k10, k11, k12, k13, k15, k16, k19, k20, k21, k23, k24, k25, k32, k33, k34, k41, k42, k43, k44, k45, k46, f0, -⟩ := FX; obtain ⟨m4, m5, m6, m7, m12, l1, l2, l9, l10, l11, l12, l13, l14, l15, l16, l26, l27, l28, l30, l31, l32, l33, -⟩ := FY; unfold RA RX at R ⊢; simp only [← n0, ← n1, ← n2, ← n3, ← n4, ← n5, ← n6, ← n7, ← n13, ← k2, ← k4, ← k7, ← k10, ← k11, ← k12, ← k13, ← k15, ← k16, ← k19, ← k20, ← k21, ← k23, ← k24, ← k25, ← k32, ← k33, ← k34, ← k41, ← k42, ← k43, ← k44, ← k45, ← k46, ← m4, ← m5, ← m6, ← m7, ← m12, ← l1, ← l2, ← l9, ← l10, ← l11, ← l12, ← l13, ← l14, ← l15, ← l16, ← l26, ← l27, ← l28, ← l30, ← l31, ← l32, ← l33, ← f0] at R; obtain ⟨⟨ra, rb, rc⟩, R2, R3, R4, R5, R6, R7, R8, R9⟩ := R; exact ⟨⟨ra, rb, rc⟩, R2, R3, R4, R5, R6, R7, R8, R9⟩)⟩)
theorem case_word {b L i : Nat} {xs : Nat → Int32} {aX aY : Nat} {hx hy : AH} (hi : i + 6 ≤ L) (hL : L ≤ 3072) (I : INV hx hy) (K : ∀ hx' hy', INV hx' hy' → LW b L xs 93 2553 1337 (nI i) [] aX aY hx' hy') : LW b L xs 93 2553 947 (nI i) [] aX aY hx hy := by
  obtain ⟨ρ, α, σ, β, sX, sY, R⟩ := I
  have cX := sx_word sX (trivial) (xs (i + 1)) (xs (i + 2)) (xs (i + 3)) (xs (i + 4))
  have cY := sy_word sY R.1.1 (xs (i + 1)) (xs (i + 2)) (xs (i + 3)) (xs (i + 4))
  obtain ⟨fX, oX1⟩ := SD_obj (ci := 6) sX rfl
  obtain ⟨fY, oY1⟩ := SD_obj (ci := 7) sY rfl
  refine LW_x (cdOk_spec tk_900 47 _ rfl) ?_
  refine LW_arg (n := 1) (q := i + 1) (cdOk_spec tk_900 48 _ rfl) (cdOk_spec tk_900 49 _ rfl) (cdOk_spec tk_900 50 _ rfl) (cdOk_spec tk_900 51 _ rfl) (cdOk_spec tk_900 52 _ rfl) (arg_in (n := 1) (by omega) hL) (arg_q (n := 1) (by omega) hL) ?_
  refine LW_arg (n := 2) (q := i + 2) (cdOk_spec tk_900 53 _ rfl) (cdOk_spec tk_900 54 _ rfl) (cdOk_spec tk_900 55 _ rfl) (cdOk_spec tk_900 56 _ rfl) (cdOk_spec tk_900 57 _ rfl) (arg_in (n := 2) (by omega) hL) (arg_q (n := 2) (by omega) hL) ?_
  refine LW_arg (n := 3) (q := i + 3) (cdOk_spec tk_900 58 _ rfl) (cdOk_spec tk_900 59 _ rfl) (cdOk_spec tk_960 0 _ rfl) (cdOk_spec tk_960 1 _ rfl) (cdOk_spec tk_960 2 _ rfl) (arg_in (n := 3) (by omega) hL) (arg_q (n := 3) (by omega) hL) ?_
  refine LW_arg (n := 4) (q := i + 4) (cdOk_spec tk_960 3 _ rfl) (cdOk_spec tk_960 4 _ rfl) (cdOk_spec tk_960 5 _ rfl) (cdOk_spec tk_960 6 _ rfl) (cdOk_spec tk_960 7 _ rfl) (arg_in (n := 4) (by omega) hL) (arg_q (n := 4) (by omega) hL) ?_
  refine LW_callX (N := mX6_word) (as := [.int (xs (i + 1)), .int (xs (i + 2)), .int (xs (i + 3)), .int (xs (i + 4))]) (st := []) (cdOk_spec tk_960 8 _ rfl) (mt_ok (k := 70) rfl).1 (chkW_in (i := 646) (by decide +kernel)) (chkW_in (i := 647) (by decide +kernel)) (chkW_in (i := 648) (by decide +kernel)) ((mt_ok (k := 70) (M := mX6_word) rfl).2.trans rfl) oX1 rfl rfl (Nat.zero_le _) ⟨by decide, by decide⟩ cX (fun v h q => ?_) (fun wX hx' q hnX => ?_)
  · obtain ⟨u, e, lu, -⟩ := q
    exact ⟨lu.trans (SD_len sX).symm, _, e, rfl⟩
  obtain ⟨uX, eX, lX, ρ', α', sX', FX⟩ := q
  cases eX
  have kX := knd_long uX
  refine LW_pop2 (cdOk_spec tk_960 11 _ rfl) kX ?_
  refine LW_y (cdOk_spec tk_960 12 _ rfl) ?_
  refine LW_arg (n := 1) (q := i + 1) (cdOk_spec tk_960 13 _ rfl) (cdOk_spec tk_960 14 _ rfl) (cdOk_spec tk_960 15 _ rfl) (cdOk_spec tk_960 16 _ rfl) (cdOk_spec tk_960 17 _ rfl) (arg_in (n := 1) (by omega) hL) (arg_q (n := 1) (by omega) hL) ?_
  refine LW_arg (n := 2) (q := i + 2) (cdOk_spec tk_960 18 _ rfl) (cdOk_spec tk_960 19 _ rfl) (cdOk_spec tk_960 20 _ rfl) (cdOk_spec tk_960 21 _ rfl) (cdOk_spec tk_960 22 _ rfl) (arg_in (n := 2) (by omega) hL) (arg_q (n := 2) (by omega) hL) ?_
  refine LW_arg (n := 3) (q := i + 3) (cdOk_spec tk_960 23 _ rfl) (cdOk_spec tk_960 24 _ rfl) (cdOk_spec tk_960 25 _ rfl) (cdOk_spec tk_960 26 _ rfl) (cdOk_spec tk_960 27 _ rfl) (arg_in (n := 3) (by omega) hL) (arg_q (n := 3) (by omega) hL) ?_
  refine LW_arg (n := 4) (q := i + 4) (cdOk_spec tk_960 28 _ rfl) (cdOk_spec tk_960 29 _ rfl) (cdOk_spec tk_960 30 _ rfl) (cdOk_spec tk_960 31 _ rfl) (cdOk_spec tk_960 32 _ rfl) (arg_in (n := 4) (by omega) hL) (arg_q (n := 4) (by omega) hL) ?_
  refine LW_callY (N := mX7_word) (as := [.int (xs (i + 1)), .int (xs (i + 2)), .int (xs (i + 3)), .int (xs (i + 4))]) (st := []) (cdOk_spec tk_960 33 _ rfl) (mt_ok (k := 181) rfl).1 (chkW_in (i := 1205) (by decide +kernel)) (chkW_in (i := 1206) (by decide +kernel)) (chkW_in (i := 1207) (by decide +kernel)) ((mt_ok (k := 181) (M := mX7_word) rfl).2.trans rfl) oY1 rfl rfl (Nat.zero_le _) ⟨by decide, by decide⟩ cY (fun v h q => ?_) (fun wY hy' q hnY => ?_)
  · obtain ⟨u, e, lu, -⟩ := q
    exact ⟨lu.trans (SD_len sY).symm, _, e, rfl⟩
  obtain ⟨uY, eY, lY, σ', β', sY', FY⟩ := q
  cases eY
  have kY := knd_long uY
  refine LW_pop2 (cdOk_spec tk_960 36 _ rfl) kY ?_
  exact LW_goto (t := 1337) (cdOk_spec tk_960 37 _ rfl) (by decide) (K _ _ ⟨ρ', α', σ', β', sX', sY', (by obtain ⟨n0, n1, n2, n3, n4, n5, n6, n7, n13, k2, k4, k7, k8, k10, k11, k12, k13, k15, k16, k19, k20, k21, k23, k24, k25, k32, k33, k34, k41, k42, k43, k44, k45, k46, -⟩ := FX; obtain ⟨m4, m5, m6, m7, m12, l1, l2, l9, l10, l11, l12, l13, l14, l15, l16, l26, l27, l28, l30, l31, l32, l33, -⟩ := FY; unfold RA RX at R ⊢; simp only [← n0, ← n1, ← n2, ← n3, ← n4, ← n5, ← n6, ← n7, ← n13, ← k2, ← k4, ← k7, ← k8, ← k10, ← k11, ← k12, ← k13, ← k15, ← k16, ← k19, ← k20, ← k21, ← k23, ← k24, ← k25, ← k32, ← k33, ← k34, ← k41, ← k42, ← k43, ← k44, ← k45, ← k46, ← m4, ← m5, ← m6, ← m7, ← m12, ← l1, ← l2, ← l9, ← l10, ← l11, ← l12, ← l13, ← l14, ← l15, ← l16, ← l26, ← l27, ← l28, ← l30, ← l31, ← l32, ← l33] at R; obtain ⟨⟨ra, rb, rc⟩, R2, R3, R4, R5, R6, R7, R8, R9⟩ := R; exact ⟨⟨ra, rb, rc⟩, R2, R3, R4, R5, R6, R7, R8, R9⟩)⟩)
theorem case_year {b L i : Nat} {xs : Nat → Int32} {aX aY : Nat} {hx hy : AH} (hi : i + 6 ≤ L) (hL : L ≤ 3072) (I : INV hx hy) (K : ∀ hx' hy', INV hx' hy' → LW b L xs 93 2553 1337 (nI i) [] aX aY hx' hy') : LW b L xs 93 2553 1000 (nI i) [] aX aY hx hy := by
  obtain ⟨ρ, α, σ, β, sX, sY, R⟩ := I
  have cX := sx_year sX (trivial) (xs (i + 1)) (xs (i + 2)) (xs (i + 3))
  have cY := sy_year sY R.1.1 (xs (i + 1)) (xs (i + 2)) (xs (i + 3))
  obtain ⟨fX, oX1⟩ := SD_obj (ci := 6) sX rfl
  obtain ⟨fY, oY1⟩ := SD_obj (ci := 7) sY rfl
  refine LW_x (cdOk_spec tk_960 40 _ rfl) ?_
  refine LW_arg (n := 1) (q := i + 1) (cdOk_spec tk_960 41 _ rfl) (cdOk_spec tk_960 42 _ rfl) (cdOk_spec tk_960 43 _ rfl) (cdOk_spec tk_960 44 _ rfl) (cdOk_spec tk_960 45 _ rfl) (arg_in (n := 1) (by omega) hL) (arg_q (n := 1) (by omega) hL) ?_
  refine LW_arg (n := 2) (q := i + 2) (cdOk_spec tk_960 46 _ rfl) (cdOk_spec tk_960 47 _ rfl) (cdOk_spec tk_960 48 _ rfl) (cdOk_spec tk_960 49 _ rfl) (cdOk_spec tk_960 50 _ rfl) (arg_in (n := 2) (by omega) hL) (arg_q (n := 2) (by omega) hL) ?_
  refine LW_arg (n := 3) (q := i + 3) (cdOk_spec tk_960 51 _ rfl) (cdOk_spec tk_960 52 _ rfl) (cdOk_spec tk_960 53 _ rfl) (cdOk_spec tk_960 54 _ rfl) (cdOk_spec tk_960 55 _ rfl) (arg_in (n := 3) (by omega) hL) (arg_q (n := 3) (by omega) hL) ?_
  refine LW_callX (N := mX6_year) (as := [.int (xs (i + 1)), .int (xs (i + 2)), .int (xs (i + 3))]) (st := []) (cdOk_spec tk_960 56 _ rfl) (mt_ok (k := 71) rfl).1 (chkW_in (i := 658) (by decide +kernel)) (chkW_in (i := 659) (by decide +kernel)) (chkW_in (i := 660) (by decide +kernel)) ((mt_ok (k := 71) (M := mX6_year) rfl).2.trans rfl) oX1 rfl rfl (Nat.zero_le _) ⟨by decide, by decide⟩ cX (fun v h q => ?_) (fun wX hx' q hnX => ?_)
  · obtain ⟨u, e, lu, -⟩ := q
    exact ⟨lu.trans (SD_len sX).symm, _, e, rfl⟩
  obtain ⟨uX, eX, lX, ρ', α', sX', FX⟩ := q
  cases eX
  have kX := knd_int uX
  refine LW_pop (cdOk_spec tk_960 59 _ rfl) kX ?_
  refine LW_y (cdOk_spec tk_1020 0 _ rfl) ?_
  refine LW_arg (n := 1) (q := i + 1) (cdOk_spec tk_1020 1 _ rfl) (cdOk_spec tk_1020 2 _ rfl) (cdOk_spec tk_1020 3 _ rfl) (cdOk_spec tk_1020 4 _ rfl) (cdOk_spec tk_1020 5 _ rfl) (arg_in (n := 1) (by omega) hL) (arg_q (n := 1) (by omega) hL) ?_
  refine LW_arg (n := 2) (q := i + 2) (cdOk_spec tk_1020 6 _ rfl) (cdOk_spec tk_1020 7 _ rfl) (cdOk_spec tk_1020 8 _ rfl) (cdOk_spec tk_1020 9 _ rfl) (cdOk_spec tk_1020 10 _ rfl) (arg_in (n := 2) (by omega) hL) (arg_q (n := 2) (by omega) hL) ?_
  refine LW_arg (n := 3) (q := i + 3) (cdOk_spec tk_1020 11 _ rfl) (cdOk_spec tk_1020 12 _ rfl) (cdOk_spec tk_1020 13 _ rfl) (cdOk_spec tk_1020 14 _ rfl) (cdOk_spec tk_1020 15 _ rfl) (arg_in (n := 3) (by omega) hL) (arg_q (n := 3) (by omega) hL) ?_
  refine LW_callY (N := mX7_year) (as := [.int (xs (i + 1)), .int (xs (i + 2)), .int (xs (i + 3))]) (st := []) (cdOk_spec tk_1020 16 _ rfl) (mt_ok (k := 183) rfl).1 (chkW_in (i := 1220) (by decide +kernel)) (chkW_in (i := 1221) (by decide +kernel)) (chkW_in (i := 1222) (by decide +kernel)) ((mt_ok (k := 183) (M := mX7_year) rfl).2.trans rfl) oY1 rfl rfl (Nat.zero_le _) ⟨by decide, by decide⟩ cY (fun v h q => ?_) (fun wY hy' q hnY => ?_)
  · obtain ⟨u, e, lu, -⟩ := q
    exact ⟨lu.trans (SD_len sY).symm, _, e, rfl⟩
  obtain ⟨uY, eY, lY, σ', β', sY', FY⟩ := q
  cases eY
  have kY := knd_int uY
  refine LW_pop (cdOk_spec tk_1020 19 _ rfl) kY ?_
  exact LW_goto (t := 1337) (cdOk_spec tk_1020 20 _ rfl) (by decide) (K _ _ ⟨ρ', α', σ', β', sX', sY', (by obtain ⟨n0, n1, n2, n3, n4, n5, n6, n7, n13, k2, k4, k7, k8, k10, k11, k12, k13, k15, k16, k19, k20, k21, k23, k24, k25, k32, k33, k34, k41, k42, k43, k44, k45, k46, -⟩ := FX; obtain ⟨m4, m5, m6, m7, m12, l1, l2, l9, l10, l11, l12, l13, l14, l15, l16, l26, l27, l28, l30, l31, l32, l33, -⟩ := FY; unfold RA RX at R ⊢; simp only [← n0, ← n1, ← n2, ← n3, ← n4, ← n5, ← n6, ← n7, ← n13, ← k2, ← k4, ← k7, ← k8, ← k10, ← k11, ← k12, ← k13, ← k15, ← k16, ← k19, ← k20, ← k21, ← k23, ← k24, ← k25, ← k32, ← k33, ← k34, ← k41, ← k42, ← k43, ← k44, ← k45, ← k46, ← m4, ← m5, ← m6, ← m7, ← m12, ← l1, ← l2, ← l9, ← l10, ← l11, ← l12, ← l13, ← l14, ← l15, ← l16, ← l26, ← l27, ← l28, ← l30, ← l31, ← l32, ← l33] at R; obtain ⟨⟨ra, rb, rc⟩, R2, R3, R4, R5, R6, R7, R8, R9⟩ := R; exact ⟨⟨ra, rb, rc⟩, R2, R3, R4, R5, R6, R7, R8, R9⟩)⟩)
theorem case_sheet {b L i : Nat} {xs : Nat → Int32} {aX aY : Nat} {hx hy : AH} (hi : i + 6 ≤ L) (hL : L ≤ 3072) (I : INV hx hy) (K : ∀ hx' hy', INV hx' hy' → LW b L xs 93 2553 1337 (nI i) [] aX aY hx' hy') : LW b L xs 93 2553 1043 (nI i) [] aX aY hx hy := by
  obtain ⟨ρ, α, σ, β, sX, sY, R⟩ := I
  have cX := sx_sheet sX (trivial) (xs (i + 1)) (xs (i + 2)) (xs (i + 3))
  have cY := sy_sheet sY R.1.1 (xs (i + 1)) (xs (i + 2)) (xs (i + 3))
  obtain ⟨fX, oX1⟩ := SD_obj (ci := 6) sX rfl
  obtain ⟨fY, oY1⟩ := SD_obj (ci := 7) sY rfl
  refine LW_x (cdOk_spec tk_1020 23 _ rfl) ?_
  refine LW_arg (n := 1) (q := i + 1) (cdOk_spec tk_1020 24 _ rfl) (cdOk_spec tk_1020 25 _ rfl) (cdOk_spec tk_1020 26 _ rfl) (cdOk_spec tk_1020 27 _ rfl) (cdOk_spec tk_1020 28 _ rfl) (arg_in (n := 1) (by omega) hL) (arg_q (n := 1) (by omega) hL) ?_
  refine LW_arg (n := 2) (q := i + 2) (cdOk_spec tk_1020 29 _ rfl) (cdOk_spec tk_1020 30 _ rfl) (cdOk_spec tk_1020 31 _ rfl) (cdOk_spec tk_1020 32 _ rfl) (cdOk_spec tk_1020 33 _ rfl) (arg_in (n := 2) (by omega) hL) (arg_q (n := 2) (by omega) hL) ?_
  refine LW_arg (n := 3) (q := i + 3) (cdOk_spec tk_1020 34 _ rfl) (cdOk_spec tk_1020 35 _ rfl) (cdOk_spec tk_1020 36 _ rfl) (cdOk_spec tk_1020 37 _ rfl) (cdOk_spec tk_1020 38 _ rfl) (arg_in (n := 3) (by omega) hL) (arg_q (n := 3) (by omega) hL) ?_
  refine LW_callX (N := mX6_sheet) (as := [.int (xs (i + 1)), .int (xs (i + 2)), .int (xs (i + 3))]) (st := []) (cdOk_spec tk_1020 39 _ rfl) (mt_ok (k := 72) rfl).1 (chkW_in (i := 670) (by decide +kernel)) (chkW_in (i := 671) (by decide +kernel)) (chkW_in (i := 672) (by decide +kernel)) ((mt_ok (k := 72) (M := mX6_sheet) rfl).2.trans rfl) oX1 rfl rfl (Nat.zero_le _) ⟨by decide, by decide⟩ cX (fun v h q => ?_) (fun wX hx' q hnX => ?_)
  · obtain ⟨u, e, lu, -⟩ := q
    exact ⟨lu.trans (SD_len sX).symm, _, e, rfl⟩
  obtain ⟨uX, eX, lX, ρ', α', sX', FX⟩ := q
  cases eX
  have kX := knd_int uX
  refine LW_pop (cdOk_spec tk_1020 42 _ rfl) kX ?_
  refine LW_y (cdOk_spec tk_1020 43 _ rfl) ?_
  refine LW_arg (n := 1) (q := i + 1) (cdOk_spec tk_1020 44 _ rfl) (cdOk_spec tk_1020 45 _ rfl) (cdOk_spec tk_1020 46 _ rfl) (cdOk_spec tk_1020 47 _ rfl) (cdOk_spec tk_1020 48 _ rfl) (arg_in (n := 1) (by omega) hL) (arg_q (n := 1) (by omega) hL) ?_
  refine LW_arg (n := 2) (q := i + 2) (cdOk_spec tk_1020 49 _ rfl) (cdOk_spec tk_1020 50 _ rfl) (cdOk_spec tk_1020 51 _ rfl) (cdOk_spec tk_1020 52 _ rfl) (cdOk_spec tk_1020 53 _ rfl) (arg_in (n := 2) (by omega) hL) (arg_q (n := 2) (by omega) hL) ?_
  refine LW_arg (n := 3) (q := i + 3) (cdOk_spec tk_1020 54 _ rfl) (cdOk_spec tk_1020 55 _ rfl) (cdOk_spec tk_1020 56 _ rfl) (cdOk_spec tk_1020 57 _ rfl) (cdOk_spec tk_1020 58 _ rfl) (arg_in (n := 3) (by omega) hL) (arg_q (n := 3) (by omega) hL) ?_
  refine LW_callY (N := mX7_sheet) (as := [.int (xs (i + 1)), .int (xs (i + 2)), .int (xs (i + 3))]) (st := []) (cdOk_spec tk_1020 59 _ rfl) (mt_ok (k := 186) rfl).1 (chkW_in (i := 1229) (by decide +kernel)) (chkW_in (i := 1230) (by decide +kernel)) (chkW_in (i := 1231) (by decide +kernel)) ((mt_ok (k := 186) (M := mX7_sheet) rfl).2.trans rfl) oY1 rfl rfl (Nat.zero_le _) ⟨by decide, by decide⟩ cY (fun v h q => ?_) (fun wY hy' q hnY => ?_)
  · obtain ⟨u, e, lu, -⟩ := q
    exact ⟨lu.trans (SD_len sY).symm, _, e, rfl⟩
  obtain ⟨uY, eY, lY, σ', β', sY', FY⟩ := q
  cases eY
  have kY := knd_int uY
  refine LW_pop (cdOk_spec tk_1080 2 _ rfl) kY ?_
  exact LW_goto (t := 1337) (cdOk_spec tk_1080 3 _ rfl) (by decide) (K _ _ ⟨ρ', α', σ', β', sX', sY', (by obtain ⟨n0, n1, n2, n3, n4, n5, n6, n7, k2, k4, k7, k8, k10, k11, k12, k13, k15, k16, k19, k20, k21, k23, k24, k25, k32, k33, k34, f0, -⟩ := FX; obtain ⟨m4, m5, m6, m7, l1, l2, l9, l10, l11, l12, l13, l14, l15, l16, l26, l27, l28, g0, -⟩ := FY; have W := And.intro (sh_sheet R.2.1 f0 g0) (con_sheet R.2.2.1 R.2.2.2.1 R.2.2.2.2.2.2.2.2 f0 g0); unfold RA RX at R ⊢; simp only [← n0, ← n1, ← n2, ← n3, ← n4, ← n5, ← n6, ← n7, ← k2, ← k4, ← k7, ← k8, ← k10, ← k11, ← k12, ← k13, ← k15, ← k16, ← k19, ← k20, ← k21, ← k23, ← k24, ← k25, ← k32, ← k33, ← k34, ← m4, ← m5, ← m6, ← m7, ← l1, ← l2, ← l9, ← l10, ← l11, ← l12, ← l13, ← l14, ← l15, ← l16, ← l26, ← l27, ← l28] at R W; obtain ⟨⟨ra, rb, rc⟩, R2, R3, R4, R5, R6, R7, R8, R9⟩ := R; exact ⟨⟨ra, rb, rc⟩, W.1.2, W.2.1, W.2.2.1, R5, R6, R7, R8, W.2.2.2⟩)⟩)
theorem case_lose {b L i : Nat} {xs : Nat → Int32} {aX aY : Nat} {hx hy : AH} (hi : i + 6 ≤ L) (hL : L ≤ 3072) (I : INV hx hy) (K : ∀ hx' hy', INV hx' hy' → LW b L xs 93 2553 1337 (nI i) [] aX aY hx' hy') : LW b L xs 93 2553 1086 (nI i) [] aX aY hx hy := by
  obtain ⟨ρ, α, σ, β, sX, sY, R⟩ := I
  have cX := sx_lose sX (trivial) (xs (i + 1))
  have cY := sy_lose sY R.1.1 (xs (i + 1))
  obtain ⟨fX, oX1⟩ := SD_obj (ci := 6) sX rfl
  obtain ⟨fY, oY1⟩ := SD_obj (ci := 7) sY rfl
  refine LW_x (cdOk_spec tk_1080 6 _ rfl) ?_
  refine LW_arg (n := 1) (q := i + 1) (cdOk_spec tk_1080 7 _ rfl) (cdOk_spec tk_1080 8 _ rfl) (cdOk_spec tk_1080 9 _ rfl) (cdOk_spec tk_1080 10 _ rfl) (cdOk_spec tk_1080 11 _ rfl) (arg_in (n := 1) (by omega) hL) (arg_q (n := 1) (by omega) hL) ?_
  refine LW_callX (N := mX6_lose) (as := [.int (xs (i + 1))]) (st := []) (cdOk_spec tk_1080 12 _ rfl) (mt_ok (k := 73) rfl).1 (chkW_in (i := 681) (by decide +kernel)) (chkW_in (i := 682) (by decide +kernel)) (chkW_in (i := 683) (by decide +kernel)) ((mt_ok (k := 73) (M := mX6_lose) rfl).2.trans rfl) oX1 rfl rfl (Nat.zero_le _) ⟨by decide, by decide⟩ cX (fun v h q => ?_) (fun wX hx' q hnX => ?_)
  · obtain ⟨u, e, lu, -⟩ := q
    exact ⟨lu.trans (SD_len sX).symm, _, e, rfl⟩
  obtain ⟨uX, eX, lX, ρ', α', sX', FX⟩ := q
  cases eX
  have kX := knd_int uX
  refine LW_pop (cdOk_spec tk_1080 15 _ rfl) kX ?_
  refine LW_y (cdOk_spec tk_1080 16 _ rfl) ?_
  refine LW_arg (n := 1) (q := i + 1) (cdOk_spec tk_1080 17 _ rfl) (cdOk_spec tk_1080 18 _ rfl) (cdOk_spec tk_1080 19 _ rfl) (cdOk_spec tk_1080 20 _ rfl) (cdOk_spec tk_1080 21 _ rfl) (arg_in (n := 1) (by omega) hL) (arg_q (n := 1) (by omega) hL) ?_
  refine LW_callY (N := mX7_lose) (as := [.int (xs (i + 1))]) (st := []) (cdOk_spec tk_1080 22 _ rfl) (mt_ok (k := 187) rfl).1 (chkW_in (i := 1233) (by decide +kernel)) (chkW_in (i := 1234) (by decide +kernel)) (chkW_in (i := 1235) (by decide +kernel)) ((mt_ok (k := 187) (M := mX7_lose) rfl).2.trans rfl) oY1 rfl rfl (Nat.zero_le _) ⟨by decide, by decide⟩ cY (fun v h q => ?_) (fun wY hy' q hnY => ?_)
  · obtain ⟨u, e, lu, -⟩ := q
    exact ⟨lu.trans (SD_len sY).symm, _, e, rfl⟩
  obtain ⟨uY, eY, lY, σ', β', sY', FY⟩ := q
  cases eY
  have kY := knd_int uY
  refine LW_pop (cdOk_spec tk_1080 25 _ rfl) kY ?_
  exact LW_goto (t := 1337) (cdOk_spec tk_1080 26 _ rfl) (by decide) (K _ _ ⟨ρ', α', σ', β', sX', sY', (by obtain ⟨n0, n1, n2, n3, n4, n5, n6, n7, k2, k4, k7, k8, k10, k11, k12, k13, k15, k16, k19, k20, k21, k23, k24, k25, k32, k33, k34, k41, k42, k43, k44, k45, f0, -⟩ := FX; obtain ⟨m4, m5, m6, m7, l1, l2, l9, l10, l11, l12, l13, l14, l15, l16, l26, l27, l28, l31, l32, l33, g0, -⟩ := FY; have W := And.intro (sh_lose R.2.1 f0 g0) (lo_fin R.2.1 R.2.2.2.2.2.2.2.2 f0 g0); unfold RA RX at R ⊢; simp only [← n0, ← n1, ← n2, ← n3, ← n4, ← n5, ← n6, ← n7, ← k2, ← k4, ← k7, ← k8, ← k10, ← k11, ← k12, ← k13, ← k15, ← k16, ← k19, ← k20, ← k21, ← k23, ← k24, ← k25, ← k32, ← k33, ← k34, ← k41, ← k42, ← k43, ← k44, ← k45, ← m4, ← m5, ← m6, ← m7, ← l1, ← l2, ← l9, ← l10, ← l11, ← l12, ← l13, ← l14, ← l15, ← l16, ← l26, ← l27, ← l28, ← l31, ← l32, ← l33] at R W; obtain ⟨⟨ra, rb, rc⟩, R2, R3, R4, R5, R6, R7, R8, R9⟩ := R; exact ⟨⟨ra, rb, rc⟩, W.1.2, R3, R4, R5, R6, R7, R8, W.2⟩)⟩)
theorem case_put {b L i : Nat} {xs : Nat → Int32} {aX aY : Nat} {hx hy : AH} (hi : i + 6 ≤ L) (hL : L ≤ 3072) (I : INV hx hy) (K : ∀ hx' hy', INV hx' hy' → LW b L xs 93 2553 1337 (nI i) [] aX aY hx' hy') : LW b L xs 93 2553 1109 (nI i) [] aX aY hx hy := by
  obtain ⟨ρ, α, σ, β, sX, sY, R⟩ := I
  have cX := sx_put sX (trivial) (xs (i + 1)) (xs (i + 2)) (xs (i + 3)) (xs (i + 4))
  have cY := sy_put sY R.1.1 (xs (i + 1)) (xs (i + 2)) (xs (i + 3)) (xs (i + 4))
  obtain ⟨fX, oX1⟩ := SD_obj (ci := 6) sX rfl
  obtain ⟨fY, oY1⟩ := SD_obj (ci := 7) sY rfl
  refine LW_x (cdOk_spec tk_1080 29 _ rfl) ?_
  refine LW_arg (n := 1) (q := i + 1) (cdOk_spec tk_1080 30 _ rfl) (cdOk_spec tk_1080 31 _ rfl) (cdOk_spec tk_1080 32 _ rfl) (cdOk_spec tk_1080 33 _ rfl) (cdOk_spec tk_1080 34 _ rfl) (arg_in (n := 1) (by omega) hL) (arg_q (n := 1) (by omega) hL) ?_
  refine LW_arg (n := 2) (q := i + 2) (cdOk_spec tk_1080 35 _ rfl) (cdOk_spec tk_1080 36 _ rfl) (cdOk_spec tk_1080 37 _ rfl) (cdOk_spec tk_1080 38 _ rfl) (cdOk_spec tk_1080 39 _ rfl) (arg_in (n := 2) (by omega) hL) (arg_q (n := 2) (by omega) hL) ?_
  refine LW_arg (n := 3) (q := i + 3) (cdOk_spec tk_1080 40 _ rfl) (cdOk_spec tk_1080 41 _ rfl) (cdOk_spec tk_1080 42 _ rfl) (cdOk_spec tk_1080 43 _ rfl) (cdOk_spec tk_1080 44 _ rfl) (arg_in (n := 3) (by omega) hL) (arg_q (n := 3) (by omega) hL) ?_
  refine LW_arg (n := 4) (q := i + 4) (cdOk_spec tk_1080 45 _ rfl) (cdOk_spec tk_1080 46 _ rfl) (cdOk_spec tk_1080 47 _ rfl) (cdOk_spec tk_1080 48 _ rfl) (cdOk_spec tk_1080 49 _ rfl) (arg_in (n := 4) (by omega) hL) (arg_q (n := 4) (by omega) hL) ?_
  refine LW_callX (N := mX6_put) (as := [.int (xs (i + 1)), .int (xs (i + 2)), .int (xs (i + 3)), .int (xs (i + 4))]) (st := []) (cdOk_spec tk_1080 50 _ rfl) (mt_ok (k := 74) rfl).1 (chkW_in (i := 685) (by decide +kernel)) (chkW_in (i := 686) (by decide +kernel)) (chkW_in (i := 687) (by decide +kernel)) ((mt_ok (k := 74) (M := mX6_put) rfl).2.trans rfl) oX1 rfl rfl (Nat.zero_le _) ⟨by decide, by decide⟩ cX (fun v h q => ?_) (fun wX hx' q hnX => ?_)
  · obtain ⟨u, e, lu, -⟩ := q
    exact ⟨lu.trans (SD_len sX).symm, _, e, rfl⟩
  obtain ⟨uX, eX, lX, ρ', α', sX', FX⟩ := q
  cases eX
  have kX := knd_int uX
  refine LW_pop (cdOk_spec tk_1080 53 _ rfl) kX ?_
  refine LW_y (cdOk_spec tk_1080 54 _ rfl) ?_
  refine LW_arg (n := 1) (q := i + 1) (cdOk_spec tk_1080 55 _ rfl) (cdOk_spec tk_1080 56 _ rfl) (cdOk_spec tk_1080 57 _ rfl) (cdOk_spec tk_1080 58 _ rfl) (cdOk_spec tk_1080 59 _ rfl) (arg_in (n := 1) (by omega) hL) (arg_q (n := 1) (by omega) hL) ?_
  refine LW_arg (n := 2) (q := i + 2) (cdOk_spec tk_1140 0 _ rfl) (cdOk_spec tk_1140 1 _ rfl) (cdOk_spec tk_1140 2 _ rfl) (cdOk_spec tk_1140 3 _ rfl) (cdOk_spec tk_1140 4 _ rfl) (arg_in (n := 2) (by omega) hL) (arg_q (n := 2) (by omega) hL) ?_
  refine LW_arg (n := 3) (q := i + 3) (cdOk_spec tk_1140 5 _ rfl) (cdOk_spec tk_1140 6 _ rfl) (cdOk_spec tk_1140 7 _ rfl) (cdOk_spec tk_1140 8 _ rfl) (cdOk_spec tk_1140 9 _ rfl) (arg_in (n := 3) (by omega) hL) (arg_q (n := 3) (by omega) hL) ?_
  refine LW_arg (n := 4) (q := i + 4) (cdOk_spec tk_1140 10 _ rfl) (cdOk_spec tk_1140 11 _ rfl) (cdOk_spec tk_1140 12 _ rfl) (cdOk_spec tk_1140 13 _ rfl) (cdOk_spec tk_1140 14 _ rfl) (arg_in (n := 4) (by omega) hL) (arg_q (n := 4) (by omega) hL) ?_
  refine LW_callY (N := mX7_put) (as := [.int (xs (i + 1)), .int (xs (i + 2)), .int (xs (i + 3)), .int (xs (i + 4))]) (st := []) (cdOk_spec tk_1140 15 _ rfl) (mt_ok (k := 190) rfl).1 (chkW_in (i := 1237) (by decide +kernel)) (chkW_in (i := 1238) (by decide +kernel)) (chkW_in (i := 1239) (by decide +kernel)) ((mt_ok (k := 190) (M := mX7_put) rfl).2.trans rfl) oY1 rfl rfl (Nat.zero_le _) ⟨by decide, by decide⟩ cY (fun v h q => ?_) (fun wY hy' q hnY => ?_)
  · obtain ⟨u, e, lu, -⟩ := q
    exact ⟨lu.trans (SD_len sY).symm, _, e, rfl⟩
  obtain ⟨uY, eY, lY, σ', β', sY', FY⟩ := q
  cases eY
  have kY := knd_int uY
  refine LW_pop (cdOk_spec tk_1140 18 _ rfl) kY ?_
  exact LW_goto (t := 1337) (cdOk_spec tk_1140 19 _ rfl) (by decide) (K _ _ ⟨ρ', α', σ', β', sX', sY', (by obtain ⟨n0, n1, n2, n3, n4, n5, n6, n7, k2, k4, k7, k8, k10, k11, k12, k13, k15, k16, k19, k20, k21, k23, k24, k25, k32, k33, k34, k45, k46, f0, -⟩ := FX; obtain ⟨m4, m5, m6, m7, l1, l2, l9, l10, l11, l12, l13, l14, l15, l16, l26, l27, l28, l30, l31, l32, g0, -⟩ := FY; have W := And.intro (sh_put R.2.1 f0 g0) (con_put R.2.1 R.2.2.1 R.2.2.2.1 R.2.2.2.2.2.2.2.2 f0 g0); unfold RA RX at R ⊢; simp only [← n0, ← n1, ← n2, ← n3, ← n4, ← n5, ← n6, ← n7, ← k2, ← k4, ← k7, ← k8, ← k10, ← k11, ← k12, ← k13, ← k15, ← k16, ← k19, ← k20, ← k21, ← k23, ← k24, ← k25, ← k32, ← k33, ← k34, ← k45, ← k46, ← m4, ← m5, ← m6, ← m7, ← l1, ← l2, ← l9, ← l10, ← l11, ← l12, ← l13, ← l14, ← l15, ← l16, ← l26, ← l27, ← l28, ← l30, ← l31, ← l32] at R W; obtain ⟨⟨ra, rb, rc⟩, R2, R3, R4, R5, R6, R7, R8, R9⟩ := R; exact ⟨⟨ra, rb, rc⟩, R2, R3, W.2.1, R5, R6, R7, R8, W.2.2⟩)⟩)
theorem case_get {b L i : Nat} {xs : Nat → Int32} {aX aY : Nat} {hx hy : AH} (hi : i + 6 ≤ L) (hL : L ≤ 3072) (I : INV hx hy) (K : ∀ hx' hy', INV hx' hy' → LW b L xs 93 2553 1337 (nI i) [] aX aY hx' hy') : LW b L xs 93 2553 1162 (nI i) [] aX aY hx hy := by
  obtain ⟨ρ, α, σ, β, sX, sY, R⟩ := I
  have cX := sx_get sX (trivial) (xs (i + 1)) (xs (i + 2)) (xs (i + 3))
  have cY := sy_get sY R.1.1 (xs (i + 1)) (xs (i + 2)) (xs (i + 3))
  obtain ⟨fX, oX1⟩ := SD_obj (ci := 6) sX rfl
  obtain ⟨fY, oY1⟩ := SD_obj (ci := 7) sY rfl
  refine LW_x (cdOk_spec tk_1140 22 _ rfl) ?_
  refine LW_arg (n := 1) (q := i + 1) (cdOk_spec tk_1140 23 _ rfl) (cdOk_spec tk_1140 24 _ rfl) (cdOk_spec tk_1140 25 _ rfl) (cdOk_spec tk_1140 26 _ rfl) (cdOk_spec tk_1140 27 _ rfl) (arg_in (n := 1) (by omega) hL) (arg_q (n := 1) (by omega) hL) ?_
  refine LW_arg (n := 2) (q := i + 2) (cdOk_spec tk_1140 28 _ rfl) (cdOk_spec tk_1140 29 _ rfl) (cdOk_spec tk_1140 30 _ rfl) (cdOk_spec tk_1140 31 _ rfl) (cdOk_spec tk_1140 32 _ rfl) (arg_in (n := 2) (by omega) hL) (arg_q (n := 2) (by omega) hL) ?_
  refine LW_arg (n := 3) (q := i + 3) (cdOk_spec tk_1140 33 _ rfl) (cdOk_spec tk_1140 34 _ rfl) (cdOk_spec tk_1140 35 _ rfl) (cdOk_spec tk_1140 36 _ rfl) (cdOk_spec tk_1140 37 _ rfl) (arg_in (n := 3) (by omega) hL) (arg_q (n := 3) (by omega) hL) ?_
  refine LW_callX (N := mX6_get) (as := [.int (xs (i + 1)), .int (xs (i + 2)), .int (xs (i + 3))]) (st := []) (cdOk_spec tk_1140 38 _ rfl) (mt_ok (k := 75) rfl).1 (chkW_in (i := 702) (by decide +kernel)) (chkW_in (i := 703) (by decide +kernel)) (chkW_in (i := 704) (by decide +kernel)) ((mt_ok (k := 75) (M := mX6_get) rfl).2.trans rfl) oX1 rfl rfl (Nat.zero_le _) ⟨by decide, by decide⟩ cX (fun v h q => ?_) (fun wX hx' q hnX => ?_)
  · obtain ⟨u, e, lu, -⟩ := q
    exact ⟨lu.trans (SD_len sX).symm, _, e, rfl⟩
  obtain ⟨uX, eX, lX, ρ', α', sX', FX⟩ := q
  cases eX
  have kX := knd_int uX
  refine LW_pop (cdOk_spec tk_1140 41 _ rfl) kX ?_
  refine LW_y (cdOk_spec tk_1140 42 _ rfl) ?_
  refine LW_arg (n := 1) (q := i + 1) (cdOk_spec tk_1140 43 _ rfl) (cdOk_spec tk_1140 44 _ rfl) (cdOk_spec tk_1140 45 _ rfl) (cdOk_spec tk_1140 46 _ rfl) (cdOk_spec tk_1140 47 _ rfl) (arg_in (n := 1) (by omega) hL) (arg_q (n := 1) (by omega) hL) ?_
  refine LW_arg (n := 2) (q := i + 2) (cdOk_spec tk_1140 48 _ rfl) (cdOk_spec tk_1140 49 _ rfl) (cdOk_spec tk_1140 50 _ rfl) (cdOk_spec tk_1140 51 _ rfl) (cdOk_spec tk_1140 52 _ rfl) (arg_in (n := 2) (by omega) hL) (arg_q (n := 2) (by omega) hL) ?_
  refine LW_arg (n := 3) (q := i + 3) (cdOk_spec tk_1140 53 _ rfl) (cdOk_spec tk_1140 54 _ rfl) (cdOk_spec tk_1140 55 _ rfl) (cdOk_spec tk_1140 56 _ rfl) (cdOk_spec tk_1140 57 _ rfl) (arg_in (n := 3) (by omega) hL) (arg_q (n := 3) (by omega) hL) ?_
  refine LW_callY (N := mX7_get) (as := [.int (xs (i + 1)), .int (xs (i + 2)), .int (xs (i + 3))]) (st := []) (cdOk_spec tk_1140 58 _ rfl) (mt_ok (k := 191) rfl).1 (chkW_in (i := 1249) (by decide +kernel)) (chkW_in (i := 1250) (by decide +kernel)) (chkW_in (i := 1251) (by decide +kernel)) ((mt_ok (k := 191) (M := mX7_get) rfl).2.trans rfl) oY1 rfl rfl (Nat.zero_le _) ⟨by decide, by decide⟩ cY (fun v h q => ?_) (fun wY hy' q hnY => ?_)
  · obtain ⟨u, e, lu, -⟩ := q
    exact ⟨lu.trans (SD_len sY).symm, _, e, rfl⟩
  obtain ⟨uY, eY, lY, σ', β', sY', FY⟩ := q
  cases eY
  have kY := knd_int uY
  refine LW_pop (cdOk_spec tk_1200 1 _ rfl) kY ?_
  exact LW_goto (t := 1337) (cdOk_spec tk_1200 2 _ rfl) (by decide) (K _ _ ⟨ρ', α', σ', β', sX', sY', (by obtain ⟨n0, n1, n2, n3, n4, n5, n6, n7, k2, k4, k7, k8, k10, k11, k12, k13, k15, k16, k19, k20, k21, k23, k24, k25, k32, k33, k34, k41, k42, k43, k44, k45, k46, f0, -⟩ := FX; obtain ⟨m4, m5, m6, m7, l1, l2, l9, l10, l11, l12, l13, l14, l15, l16, l26, l27, l28, l30, l31, l32, l33, g0, -⟩ := FY; have W := ra_get R.2.1 R.2.2.1 R.2.2.2.1 R.2.2.2.2.2.2.2.2 f0 g0; unfold RA RX at R ⊢; simp only [← n0, ← n1, ← n2, ← n3, ← n4, ← n5, ← n6, ← n7, ← k2, ← k4, ← k7, ← k8, ← k10, ← k11, ← k12, ← k13, ← k15, ← k16, ← k19, ← k20, ← k21, ← k23, ← k24, ← k25, ← k32, ← k33, ← k34, ← k41, ← k42, ← k43, ← k44, ← k45, ← k46, ← m4, ← m5, ← m6, ← m7, ← l1, ← l2, ← l9, ← l10, ← l11, ← l12, ← l13, ← l14, ← l15, ← l16, ← l26, ← l27, ← l28, ← l30, ← l31, ← l32, ← l33] at R W; obtain ⟨⟨ra, rb, rc⟩, R2, R3, R4, R5, R6, R7, R8, R9⟩ := R; exact ⟨⟨ra, rb, rc⟩, R2, R3, R4, R5, R6, R7, R8, W.2⟩)⟩)
theorem case_copy {b L i : Nat} {xs : Nat → Int32} {aX aY : Nat} {hx hy : AH} (hi : i + 6 ≤ L) (hL : L ≤ 3072) (I : INV hx hy) (K : ∀ hx' hy', INV hx' hy' → LW b L xs 93 2553 1337 (nI i) [] aX aY hx' hy') : LW b L xs 93 2553 1205 (nI i) [] aX aY hx hy := by
  obtain ⟨ρ, α, σ, β, sX, sY, R⟩ := I
  have cX := sx_copy sX (trivial) (xs (i + 1)) (xs (i + 2)) (xs (i + 3)) (xs (i + 4)) (xs (i + 5))
  have cY := sy_copy sY R.1.1 (xs (i + 1)) (xs (i + 2)) (xs (i + 3)) (xs (i + 4)) (xs (i + 5))
  obtain ⟨fX, oX1⟩ := SD_obj (ci := 6) sX rfl
  obtain ⟨fY, oY1⟩ := SD_obj (ci := 7) sY rfl
  refine LW_x (cdOk_spec tk_1200 5 _ rfl) ?_
  refine LW_arg (n := 1) (q := i + 1) (cdOk_spec tk_1200 6 _ rfl) (cdOk_spec tk_1200 7 _ rfl) (cdOk_spec tk_1200 8 _ rfl) (cdOk_spec tk_1200 9 _ rfl) (cdOk_spec tk_1200 10 _ rfl) (arg_in (n := 1) (by omega) hL) (arg_q (n := 1) (by omega) hL) ?_
  refine LW_arg (n := 2) (q := i + 2) (cdOk_spec tk_1200 11 _ rfl) (cdOk_spec tk_1200 12 _ rfl) (cdOk_spec tk_1200 13 _ rfl) (cdOk_spec tk_1200 14 _ rfl) (cdOk_spec tk_1200 15 _ rfl) (arg_in (n := 2) (by omega) hL) (arg_q (n := 2) (by omega) hL) ?_
  refine LW_arg (n := 3) (q := i + 3) (cdOk_spec tk_1200 16 _ rfl) (cdOk_spec tk_1200 17 _ rfl) (cdOk_spec tk_1200 18 _ rfl) (cdOk_spec tk_1200 19 _ rfl) (cdOk_spec tk_1200 20 _ rfl) (arg_in (n := 3) (by omega) hL) (arg_q (n := 3) (by omega) hL) ?_
  refine LW_arg (n := 4) (q := i + 4) (cdOk_spec tk_1200 21 _ rfl) (cdOk_spec tk_1200 22 _ rfl) (cdOk_spec tk_1200 23 _ rfl) (cdOk_spec tk_1200 24 _ rfl) (cdOk_spec tk_1200 25 _ rfl) (arg_in (n := 4) (by omega) hL) (arg_q (n := 4) (by omega) hL) ?_
  refine LW_arg (n := 5) (q := i + 5) (cdOk_spec tk_1200 26 _ rfl) (cdOk_spec tk_1200 27 _ rfl) (cdOk_spec tk_1200 28 _ rfl) (cdOk_spec tk_1200 29 _ rfl) (cdOk_spec tk_1200 30 _ rfl) (arg_in (n := 5) (by omega) hL) (arg_q (n := 5) (by omega) hL) ?_
  refine LW_callX (N := mX6_copy) (as := [.int (xs (i + 1)), .int (xs (i + 2)), .int (xs (i + 3)), .int (xs (i + 4)), .int (xs (i + 5))]) (st := []) (cdOk_spec tk_1200 31 _ rfl) (mt_ok (k := 76) rfl).1 (chkW_in (i := 707) (by decide +kernel)) (chkW_in (i := 708) (by decide +kernel)) (chkW_in (i := 709) (by decide +kernel)) ((mt_ok (k := 76) (M := mX6_copy) rfl).2.trans rfl) oX1 rfl rfl (Nat.zero_le _) ⟨by decide, by decide⟩ cX (fun v h q => ?_) (fun wX hx' q hnX => ?_)
  · obtain ⟨u, e, lu, -⟩ := q
    exact ⟨lu.trans (SD_len sX).symm, _, e, rfl⟩
  obtain ⟨uX, eX, lX, ρ', α', sX', FX⟩ := q
  cases eX
  have kX := knd_int uX
  refine LW_pop (cdOk_spec tk_1200 34 _ rfl) kX ?_
  refine LW_y (cdOk_spec tk_1200 35 _ rfl) ?_
  refine LW_arg (n := 1) (q := i + 1) (cdOk_spec tk_1200 36 _ rfl) (cdOk_spec tk_1200 37 _ rfl) (cdOk_spec tk_1200 38 _ rfl) (cdOk_spec tk_1200 39 _ rfl) (cdOk_spec tk_1200 40 _ rfl) (arg_in (n := 1) (by omega) hL) (arg_q (n := 1) (by omega) hL) ?_
  refine LW_arg (n := 2) (q := i + 2) (cdOk_spec tk_1200 41 _ rfl) (cdOk_spec tk_1200 42 _ rfl) (cdOk_spec tk_1200 43 _ rfl) (cdOk_spec tk_1200 44 _ rfl) (cdOk_spec tk_1200 45 _ rfl) (arg_in (n := 2) (by omega) hL) (arg_q (n := 2) (by omega) hL) ?_
  refine LW_arg (n := 3) (q := i + 3) (cdOk_spec tk_1200 46 _ rfl) (cdOk_spec tk_1200 47 _ rfl) (cdOk_spec tk_1200 48 _ rfl) (cdOk_spec tk_1200 49 _ rfl) (cdOk_spec tk_1200 50 _ rfl) (arg_in (n := 3) (by omega) hL) (arg_q (n := 3) (by omega) hL) ?_
  refine LW_arg (n := 4) (q := i + 4) (cdOk_spec tk_1200 51 _ rfl) (cdOk_spec tk_1200 52 _ rfl) (cdOk_spec tk_1200 53 _ rfl) (cdOk_spec tk_1200 54 _ rfl) (cdOk_spec tk_1200 55 _ rfl) (arg_in (n := 4) (by omega) hL) (arg_q (n := 4) (by omega) hL) ?_
  refine LW_arg (n := 5) (q := i + 5) (cdOk_spec tk_1200 56 _ rfl) (cdOk_spec tk_1200 57 _ rfl) (cdOk_spec tk_1200 58 _ rfl) (cdOk_spec tk_1200 59 _ rfl) (cdOk_spec tk_1260 0 _ rfl) (arg_in (n := 5) (by omega) hL) (arg_q (n := 5) (by omega) hL) ?_
  refine LW_callY (N := mX7_copy) (as := [.int (xs (i + 1)), .int (xs (i + 2)), .int (xs (i + 3)), .int (xs (i + 4)), .int (xs (i + 5))]) (st := []) (cdOk_spec tk_1260 1 _ rfl) (mt_ok (k := 192) rfl).1 (chkW_in (i := 1254) (by decide +kernel)) (chkW_in (i := 1255) (by decide +kernel)) (chkW_in (i := 1256) (by decide +kernel)) ((mt_ok (k := 192) (M := mX7_copy) rfl).2.trans rfl) oY1 rfl rfl (Nat.zero_le _) ⟨by decide, by decide⟩ cY (fun v h q => ?_) (fun wY hy' q hnY => ?_)
  · obtain ⟨u, e, lu, -⟩ := q
    exact ⟨lu.trans (SD_len sY).symm, _, e, rfl⟩
  obtain ⟨uY, eY, lY, σ', β', sY', FY⟩ := q
  cases eY
  have kY := knd_int uY
  refine LW_pop (cdOk_spec tk_1260 4 _ rfl) kY ?_
  exact LW_goto (t := 1337) (cdOk_spec tk_1260 5 _ rfl) (by decide) (K _ _ ⟨ρ', α', σ', β', sX', sY', (by obtain ⟨n0, n1, n2, n3, n4, n5, n6, n7, k2, k4, k7, k8, k10, k11, k12, k13, k15, k16, k19, k20, k21, k23, k24, k25, k32, k33, k34, k45, k46, f0, -⟩ := FX; obtain ⟨m4, m5, m6, m7, l1, l2, l9, l10, l11, l12, l13, l14, l15, l16, l26, l27, l28, l30, l31, l32, g0, -⟩ := FY; have W := And.intro (sh_copy R.2.1 f0 g0) (con_copy R.2.1 R.2.2.1 R.2.2.2.1 R.2.2.2.2.2.2.2.2 f0 g0); unfold RA RX at R ⊢; simp only [← n0, ← n1, ← n2, ← n3, ← n4, ← n5, ← n6, ← n7, ← k2, ← k4, ← k7, ← k8, ← k10, ← k11, ← k12, ← k13, ← k15, ← k16, ← k19, ← k20, ← k21, ← k23, ← k24, ← k25, ← k32, ← k33, ← k34, ← k45, ← k46, ← m4, ← m5, ← m6, ← m7, ← l1, ← l2, ← l9, ← l10, ← l11, ← l12, ← l13, ← l14, ← l15, ← l16, ← l26, ← l27, ← l28, ← l30, ← l31, ← l32] at R W; obtain ⟨⟨ra, rb, rc⟩, R2, R3, R4, R5, R6, R7, R8, R9⟩ := R; exact ⟨⟨ra, rb, rc⟩, R2, R3, W.2.1, R5, R6, R7, R8, W.2.2⟩)⟩)
theorem case_write {b L i : Nat} {xs : Nat → Int32} {aX aY : Nat} {hx hy : AH} (hi : i + 6 ≤ L) (hL : L ≤ 3072) (I : INV hx hy) (K : ∀ hx' hy', INV hx' hy' → LW b L xs 93 2553 1337 (nI i) [] aX aY hx' hy') : LW b L xs 93 2553 1268 (nI i) [] aX aY hx hy := by
  obtain ⟨ρ, α, σ, β, sX, sY, R⟩ := I
  have cX := sx_write sX (trivial) (xs (i + 1)) (xs (i + 2))
  have cY := sy_write sY R.1.1 (xs (i + 1)) (xs (i + 2))
  obtain ⟨fX, oX1⟩ := SD_obj (ci := 6) sX rfl
  obtain ⟨fY, oY1⟩ := SD_obj (ci := 7) sY rfl
  refine LW_x (cdOk_spec tk_1260 8 _ rfl) ?_
  refine LW_arg (n := 1) (q := i + 1) (cdOk_spec tk_1260 9 _ rfl) (cdOk_spec tk_1260 10 _ rfl) (cdOk_spec tk_1260 11 _ rfl) (cdOk_spec tk_1260 12 _ rfl) (cdOk_spec tk_1260 13 _ rfl) (arg_in (n := 1) (by omega) hL) (arg_q (n := 1) (by omega) hL) ?_
  refine LW_arg (n := 2) (q := i + 2) (cdOk_spec tk_1260 14 _ rfl) (cdOk_spec tk_1260 15 _ rfl) (cdOk_spec tk_1260 16 _ rfl) (cdOk_spec tk_1260 17 _ rfl) (cdOk_spec tk_1260 18 _ rfl) (arg_in (n := 2) (by omega) hL) (arg_q (n := 2) (by omega) hL) ?_
  refine LW_callX (N := mX6_write) (as := [.int (xs (i + 1)), .int (xs (i + 2))]) (st := []) (cdOk_spec tk_1260 19 _ rfl) (mt_ok (k := 77) rfl).1 (chkW_in (i := 713) (by decide +kernel)) (chkW_in (i := 714) (by decide +kernel)) (chkW_in (i := 715) (by decide +kernel)) ((mt_ok (k := 77) (M := mX6_write) rfl).2.trans rfl) oX1 rfl rfl (Nat.zero_le _) ⟨by decide, by decide⟩ cX (fun v h q => ?_) (fun wX hx' q hnX => ?_)
  · obtain ⟨u, e, lu, -⟩ := q
    exact ⟨lu.trans (SD_len sX).symm, _, e, rfl⟩
  obtain ⟨uX, eX, lX, ρ', α', sX', FX⟩ := q
  cases eX
  have kX := knd_int uX
  refine LW_pop (cdOk_spec tk_1260 22 _ rfl) kX ?_
  refine LW_y (cdOk_spec tk_1260 23 _ rfl) ?_
  refine LW_arg (n := 1) (q := i + 1) (cdOk_spec tk_1260 24 _ rfl) (cdOk_spec tk_1260 25 _ rfl) (cdOk_spec tk_1260 26 _ rfl) (cdOk_spec tk_1260 27 _ rfl) (cdOk_spec tk_1260 28 _ rfl) (arg_in (n := 1) (by omega) hL) (arg_q (n := 1) (by omega) hL) ?_
  refine LW_arg (n := 2) (q := i + 2) (cdOk_spec tk_1260 29 _ rfl) (cdOk_spec tk_1260 30 _ rfl) (cdOk_spec tk_1260 31 _ rfl) (cdOk_spec tk_1260 32 _ rfl) (cdOk_spec tk_1260 33 _ rfl) (arg_in (n := 2) (by omega) hL) (arg_q (n := 2) (by omega) hL) ?_
  refine LW_callY (N := mX7_write) (as := [.int (xs (i + 1)), .int (xs (i + 2))]) (st := []) (cdOk_spec tk_1260 34 _ rfl) (mt_ok (k := 193) rfl).1 (chkW_in (i := 1258) (by decide +kernel)) (chkW_in (i := 1259) (by decide +kernel)) (chkW_in (i := 1260) (by decide +kernel)) ((mt_ok (k := 193) (M := mX7_write) rfl).2.trans rfl) oY1 rfl rfl (Nat.zero_le _) ⟨by decide, by decide⟩ cY (fun v h q => ?_) (fun wY hy' q hnY => ?_)
  · obtain ⟨u, e, lu, -⟩ := q
    exact ⟨lu.trans (SD_len sY).symm, _, e, rfl⟩
  obtain ⟨uY, eY, lY, σ', β', sY', FY⟩ := q
  cases eY
  have kY := knd_int uY
  refine LW_pop (cdOk_spec tk_1260 37 _ rfl) kY ?_
  exact LW_goto (t := 1337) (cdOk_spec tk_1260 38 _ rfl) (by decide) (K _ _ ⟨ρ', α', σ', β', sX', sY', (by obtain ⟨n0, n1, n2, n3, n4, n5, n6, n7, k2, k4, k7, k8, k10, k11, k12, k13, k15, k16, k19, k20, k21, k23, k24, k25, k32, k33, k34, k45, k46, f0, -⟩ := FX; obtain ⟨m4, m5, m6, m7, l1, l2, l9, l10, l11, l12, l13, l14, l15, l16, l26, l27, l28, l30, l31, l32, g0, -⟩ := FY; have W := ra_write R R.2.2.2.2.2.2.2.2 f0 g0; unfold RA RX at R ⊢; simp only [← n0, ← n1, ← n2, ← n3, ← n4, ← n5, ← n6, ← n7, ← k2, ← k4, ← k7, ← k8, ← k10, ← k11, ← k12, ← k13, ← k15, ← k16, ← k19, ← k20, ← k21, ← k23, ← k24, ← k25, ← k32, ← k33, ← k34, ← k45, ← k46, ← m4, ← m5, ← m6, ← m7, ← l1, ← l2, ← l9, ← l10, ← l11, ← l12, ← l13, ← l14, ← l15, ← l16, ← l26, ← l27, ← l28, ← l30, ← l31, ← l32] at R W; obtain ⟨⟨ra, rb, rc⟩, R2, R3, R4, R5, R6, R7, R8, R9⟩ := R; exact ⟨⟨ra, rb, rc⟩, R2, R3, W.2.1, R5, R6, R7, R8, W.2.2⟩)⟩)
theorem case_count {b L i : Nat} {xs : Nat → Int32} {aX aY : Nat} {hx hy : AH} (hi : i + 6 ≤ L) (hL : L ≤ 3072) (I : INV hx hy) (K : ∀ hx' hy', INV hx' hy' → LW b L xs 93 2553 1337 (nI i) [] aX aY hx' hy') : LW b L xs 93 2553 1301 (nI i) [] aX aY hx hy := by
  obtain ⟨ρ, α, σ, β, sX, sY, R⟩ := I
  have cX := sx_count sX (trivial) (xs (i + 1))
  have cY := sy_count sY R.1.1 (xs (i + 1))
  obtain ⟨fX, oX1⟩ := SD_obj (ci := 6) sX rfl
  obtain ⟨fY, oY1⟩ := SD_obj (ci := 7) sY rfl
  refine LW_x (cdOk_spec tk_1260 41 _ rfl) ?_
  refine LW_arg (n := 1) (q := i + 1) (cdOk_spec tk_1260 42 _ rfl) (cdOk_spec tk_1260 43 _ rfl) (cdOk_spec tk_1260 44 _ rfl) (cdOk_spec tk_1260 45 _ rfl) (cdOk_spec tk_1260 46 _ rfl) (arg_in (n := 1) (by omega) hL) (arg_q (n := 1) (by omega) hL) ?_
  refine LW_callX (N := mX6_count) (as := [.int (xs (i + 1))]) (st := []) (cdOk_spec tk_1260 47 _ rfl) (mt_ok (k := 78) rfl).1 (chkW_in (i := 718) (by decide +kernel)) (chkW_in (i := 719) (by decide +kernel)) (chkW_in (i := 720) (by decide +kernel)) ((mt_ok (k := 78) (M := mX6_count) rfl).2.trans rfl) oX1 rfl rfl (Nat.zero_le _) ⟨by decide, by decide⟩ cX (fun v h q => ?_) (fun wX hx' q hnX => ?_)
  · obtain ⟨u, e, lu, -⟩ := q
    exact ⟨lu.trans (SD_len sX).symm, _, e, rfl⟩
  obtain ⟨uX, eX, lX, ρ', α', sX', FX⟩ := q
  cases eX
  have kX := knd_int uX
  refine LW_pop (cdOk_spec tk_1260 50 _ rfl) kX ?_
  refine LW_y (cdOk_spec tk_1260 51 _ rfl) ?_
  refine LW_arg (n := 1) (q := i + 1) (cdOk_spec tk_1260 52 _ rfl) (cdOk_spec tk_1260 53 _ rfl) (cdOk_spec tk_1260 54 _ rfl) (cdOk_spec tk_1260 55 _ rfl) (cdOk_spec tk_1260 56 _ rfl) (arg_in (n := 1) (by omega) hL) (arg_q (n := 1) (by omega) hL) ?_
  refine LW_callY (N := mX7_count) (as := [.int (xs (i + 1))]) (st := []) (cdOk_spec tk_1260 57 _ rfl) (mt_ok (k := 195) rfl).1 (chkW_in (i := 1262) (by decide +kernel)) (chkW_in (i := 1263) (by decide +kernel)) (chkW_in (i := 1264) (by decide +kernel)) ((mt_ok (k := 195) (M := mX7_count) rfl).2.trans rfl) oY1 rfl rfl (Nat.zero_le _) ⟨by decide, by decide⟩ cY (fun v h q => ?_) (fun wY hy' q hnY => ?_)
  · obtain ⟨u, e, lu, -⟩ := q
    exact ⟨lu.trans (SD_len sY).symm, _, e, rfl⟩
  obtain ⟨uY, eY, lY, σ', β', sY', FY⟩ := q
  cases eY
  have kY := knd_int uY
  refine LW_pop (cdOk_spec tk_1320 0 _ rfl) kY ?_
  exact LW_goto (t := 1337) (cdOk_spec tk_1320 1 _ rfl) (by decide) (K _ _ ⟨ρ', α', σ', β', sX', sY', (by obtain ⟨n0, n1, n2, n3, n4, n5, n6, n7, n13, k2, k4, k7, k8, k10, k11, k12, k13, k15, k16, k19, k20, k21, k23, k24, k25, k32, k33, k34, k41, k42, k43, k44, k45, k46, -⟩ := FX; obtain ⟨m4, m5, m6, m7, m12, l1, l2, l9, l10, l11, l12, l13, l14, l15, l16, l26, l27, l28, l30, l31, l32, l33, -⟩ := FY; unfold RA RX at R ⊢; simp only [← n0, ← n1, ← n2, ← n3, ← n4, ← n5, ← n6, ← n7, ← n13, ← k2, ← k4, ← k7, ← k8, ← k10, ← k11, ← k12, ← k13, ← k15, ← k16, ← k19, ← k20, ← k21, ← k23, ← k24, ← k25, ← k32, ← k33, ← k34, ← k41, ← k42, ← k43, ← k44, ← k45, ← k46, ← m4, ← m5, ← m6, ← m7, ← m12, ← l1, ← l2, ← l9, ← l10, ← l11, ← l12, ← l13, ← l14, ← l15, ← l16, ← l26, ← l27, ← l28, ← l30, ← l31, ← l32, ← l33] at R; obtain ⟨⟨ra, rb, rc⟩, R2, R3, R4, R5, R6, R7, R8, R9⟩ := R; exact ⟨⟨ra, rb, rc⟩, R2, R3, R4, R5, R6, R7, R8, R9⟩)⟩)
theorem case_digest {b L i : Nat} {xs : Nat → Int32} {aX aY : Nat} {hx hy : AH} (hi : i + 6 ≤ L) (hL : L ≤ 3072) (I : INV hx hy) (K : ∀ hx' hy', INV hx' hy' → LW b L xs 93 2553 1337 (nI i) [] aX aY hx' hy') : LW b L xs 93 2553 1324 (nI i) [] aX aY hx hy := by
  obtain ⟨ρ, α, σ, β, sX, sY, R⟩ := I
  have cX := sx_digest sX (trivial) 
  have cY := sy_digest sY R.1.1 
  obtain ⟨fX, oX1⟩ := SD_obj (ci := 6) sX rfl
  obtain ⟨fY, oY1⟩ := SD_obj (ci := 7) sY rfl
  refine LW_x (cdOk_spec tk_1320 4 _ rfl) ?_
  refine LW_callX (N := mX6_digest) (as := []) (st := []) (cdOk_spec tk_1320 5 _ rfl) (mt_ok (k := 79) rfl).1 (chkW_in (i := 722) (by decide +kernel)) (chkW_in (i := 723) (by decide +kernel)) (chkW_in (i := 724) (by decide +kernel)) ((mt_ok (k := 79) (M := mX6_digest) rfl).2.trans rfl) oX1 rfl rfl (Nat.zero_le _) ⟨by decide, by decide⟩ cX (fun v h q => ?_) (fun wX hx' q hnX => ?_)
  · obtain ⟨u, e, lu, -⟩ := q
    exact ⟨lu.trans (SD_len sX).symm, _, e, rfl⟩
  obtain ⟨uX, eX, lX, ρ', α', sX', FX⟩ := q
  cases eX
  have kX := knd_long uX
  refine LW_pop2 (cdOk_spec tk_1320 8 _ rfl) kX ?_
  refine LW_y (cdOk_spec tk_1320 9 _ rfl) ?_
  refine LW_callY (N := mX7_digest) (as := []) (st := []) (cdOk_spec tk_1320 10 _ rfl) (mt_ok (k := 199) rfl).1 (chkW_in (i := 1270) (by decide +kernel)) (chkW_in (i := 1271) (by decide +kernel)) (chkW_in (i := 1272) (by decide +kernel)) ((mt_ok (k := 199) (M := mX7_digest) rfl).2.trans rfl) oY1 rfl rfl (Nat.zero_le _) ⟨by decide, by decide⟩ cY (fun v h q => ?_) (fun wY hy' q hnY => ?_)
  · obtain ⟨u, e, lu, -⟩ := q
    exact ⟨lu.trans (SD_len sY).symm, _, e, rfl⟩
  obtain ⟨uY, eY, lY, σ', β', sY', FY⟩ := q
  cases eY
  have kY := knd_long uY
  refine LW_pop2 (cdOk_spec tk_1320 13 _ rfl) kY ?_
  exact LW_goto (t := 1337) (cdOk_spec tk_1320 14 _ rfl) (by decide) (K _ _ ⟨ρ', α', σ', β', sX', sY', (by obtain ⟨n0, n1, n2, n3, n4, n5, n6, n7, n13, k2, k4, k19, k20, k21, k23, k24, k25, k32, k33, k34, k41, k42, k43, k44, k45, k46, f0, f1, f2, f3, f4, f5, f6, f7, -⟩ := FX; obtain ⟨m4, m5, m6, m7, m12, l1, l2, l9, l10, l11, l12, l13, l14, l15, l16, l26, l27, l28, l30, l31, l32, l33, -⟩ := FY; unfold RA RX at R ⊢; simp only [← n0, ← n1, ← n2, ← n3, ← n4, ← n5, ← n6, ← n7, ← n13, ← k2, ← k4, ← k19, ← k20, ← k21, ← k23, ← k24, ← k25, ← k32, ← k33, ← k34, ← k41, ← k42, ← k43, ← k44, ← k45, ← k46, ← m4, ← m5, ← m6, ← m7, ← m12, ← l1, ← l2, ← l9, ← l10, ← l11, ← l12, ← l13, ← l14, ← l15, ← l16, ← l26, ← l27, ← l28, ← l30, ← l31, ← l32, ← l33, ← f0, ← f1] at R f2 f3 f4 f5 f6 f7; obtain ⟨⟨ra, rb, rc⟩, R2, R3, R4, R5, R6, R7, R8, R9⟩ := R; exact ⟨⟨ra, XT_al rb f2 f3 f4 f5, rc⟩, R2, R3, R4, kR_al R5 f6 f7, R6, R7, R8, R9⟩)⟩)
def swTg : List Nat := [196, 229, 252, 275, 298, 331, 364, 397, 440, 483, 506, 529, 572, 605, 628, 651, 674, 687, 700, 733, 766, 799, 822, 865, 878, 891, 924, 947, 1000, 1043, 1086, 1109, 1162, 1205, 1268, 1301, 1324]
set_option maxRecDepth 100000 in
theorem sw_all : (List.range 64).all (fun j => decide (swT 1304 0 36 #[163, 196, 219, 242, 265, 298, 331, 364, 407, 450, 473, 496, 539, 572, 595, 618, 641, 654, 667, 700, 733, 766, 789, 832, 845, 858, 891, 914, 967, 1010, 1053, 1076, 1129, 1172, 1235, 1268, 1291] 33 (nI j) = some (swTg.getD j 1337))) = true := by decide +kernel
theorem LW_all {b L i : Nat} {xs : Nat → Int32} {aX aY : Nat} {hx hy : AH} (hi : i + 6 ≤ L) (hL : L ≤ 3072) (I : INV hx hy) (K : ∀ hx' hy', INV hx' hy' → LW b L xs 93 2553 1337 (nI i) [] aX aY hx' hy') : ∀ j, j < 64 → LW b L xs 93 2553 (swTg.getD j 1337) (nI i) [] aX aY hx hy
  | 0, _ => case_type hi hL I K
  | 1, _ => case_wipe hi hL I K
  | 2, _ => case_undo hi hL I K
  | 3, _ => case_fault hi hL I K
  | 4, _ => case_person hi hL I K
  | 5, _ => case_promise hi hL I K
  | 6, _ => case_keeping hi hL I K
  | 7, _ => case_lie hi hL I K
  | 8, _ => case_letting hi hL I K
  | 9, _ => case_back hi hL I K
  | 10, _ => case_read hi hL I K
  | 11, _ => case_coat hi hL I K
  | 12, _ => case_stands hi hL I K
  | 13, _ => case_neat hi hL I K
  | 14, _ => case_naked hi hL I K
  | 15, _ => case_longest hi hL I K
  | 16, _ => case_splits hi hL I K
  | 17, _ => case_best hi hL I K
  | 18, _ => case_swear hi hL I K
  | 19, _ => case_keep hi hL I K
  | 20, _ => case_due hi hL I K
  | 21, _ => case_hush hi hL I K
  | 22, _ => case_seen hi hL I K
  | 23, _ => case_forget hi hL I K
  | 24, _ => case_never hi hL I K
  | 25, _ => case_was hi hL I K
  | 26, _ => case_ask hi hL I K
  | 27, _ => case_word hi hL I K
  | 28, _ => case_year hi hL I K
  | 29, _ => case_sheet hi hL I K
  | 30, _ => case_lose hi hL I K
  | 31, _ => case_put hi hL I K
  | 32, _ => case_get hi hL I K
  | 33, _ => case_copy hi hL I K
  | 34, _ => case_write hi hL I K
  | 35, _ => case_count hi hL I K
  | 36, _ => case_digest hi hL I K
  | n + 37, h => by
    have e : swTg.getD (n + 37) 1337 = 1337 := by
      rw [List.getD_eq_getElem?_getD, List.getElem?_eq_none (by show 37 ≤ n + 37; omega)]; rfl
    rw [e]
    exact K _ _ I
theorem sub6 {L : Nat} (h : L ≤ 3072) : (nI L - 6).toInt = (L : Int) - 6 := by
  have e : (6 : Int32).toInt = 6 := by decide
  rw [toInt_sub_in (by rw [nI_toInt (by omega), e]; omega) (by rw [nI_toInt (by omega), e]; omega), nI_toInt (by omega), e]
theorem LW_loop' {b L : Nat} {xs : Nat → Int32} {aX aY : Nat} (hL : L ≤ 3072) : ∀ (r i : Nat) (hx hy : AH), L < i + r → i ≤ L + 6 → INV hx hy → LW b L xs 93 2553 18 (nI i) [] aX aY hx hy := by
  intro r
  induction r with
  | zero =>
    intro i hx hy h1 h2 I
    refine LW_head (t := 1343) (cdOk_spec tk_0 18 _ rfl) (cdOk_spec tk_0 19 _ rfl) (cdOk_spec tk_0 20 _ rfl) (cdOk_spec tk_0 21 _ rfl) (cdOk_spec tk_0 23 _ rfl) (cdOk_spec tk_0 24 _ rfl) (by decide) (fun _ => ?_) (fun h => ?_)
    · exact LW_exit (cdOk_spec tk_1320 23 _ rfl) (cdOk_spec tk_1320 24 _ rfl) ⟨by decide, by decide⟩
    · refine absurd ?_ h
      rw [Int32.lt_iff_toInt_lt, sub6 hL, nI_toInt (by omega)]
      omega
  | succ r ih =>
    intro i hx hy h1 h2 I
    refine LW_head (t := 1343) (cdOk_spec tk_0 18 _ rfl) (cdOk_spec tk_0 19 _ rfl) (cdOk_spec tk_0 20 _ rfl) (cdOk_spec tk_0 21 _ rfl) (cdOk_spec tk_0 23 _ rfl) (cdOk_spec tk_0 24 _ rfl) (by decide) (fun _ => ?_) (fun h => ?_)
    · exact LW_exit (cdOk_spec tk_1320 23 _ rfl) (cdOk_spec tk_1320 24 _ rfl) ⟨by decide, by decide⟩
    · rw [Int32.lt_iff_toInt_lt, sub6 hL, nI_toInt (by omega)] at h
      have hi : i + 6 ≤ L := by omega
      refine LW_sw (cdOk_spec tk_0 27 _ rfl) (cdOk_spec tk_0 28 _ rfl) (cdOk_spec tk_0 29 _ rfl) (cdOk_spec tk_0 30 _ rfl) (cdOk_spec tk_0 32 _ rfl) (cdOk_spec tk_0 33 _ rfl) (vp_in_iff.mpr (by rw [nI_toInt (by omega)]; omega)) ?_
      obtain ⟨j, hj, e⟩ := and63 (xs (nI i).toNatClampNeg)
      refine ⟨_, ?_, LW_all hi hL I (fun hx' hy' I' => ?_) j hj⟩
      · rw [e]
        exact of_decide_eq_true (List.all_eq_true.mp sw_all j (List.mem_range.mpr hj))
      · refine LW_next (t := 18) (cdOk_spec tk_1320 17 _ rfl) (cdOk_spec tk_1320 20 _ rfl) (by decide) ?_
        have e6 : nI i + 6 = nI (i + 6) := nI_add i 6
        rw [e6]
        exact ih (i + 6) hx' hy' (by omega) (by omega) I'
theorem LW_loop {b L : Nat} {xs : Nat → Int32} {aX aY : Nat} (hL : L ≤ 3072) : LW b L xs 93 2553 18 0 [] aX aY hX0 hY0 := LW_loop' hL (L + 1) 0 hX0 hY0 (by omega) (by omega) inv0
theorem dfs_cv (ad : List Nat) (ci : Nat) : (dfs ci).map (cv ad) = dfs ci := by
  unfold dfs
  split
  · rw [List.map_map]; exact List.map_congr_left (fun j _ => cv_dflt ad _)
  · rfl
set_option maxRecDepth 100000 in
theorem dfs_6 : ∀ j, j < 13 → defaultValue (tyX6 j) = vp_V (dfs 6) j := by decide +kernel
set_option maxRecDepth 100000 in
theorem dfs_7 : ∀ j, j < 45 → defaultValue (tyX7 j) = vp_V (dfs 7) j := by decide +kernel
set_option maxHeartbeats 4000000 in
theorem law_K {s : State} {b : Nat} (htb : ∀ w ∈ tb, w.before #[Value.ref b] s = true) (hxN : xN s) : ∃ (D : va_G) (cA : FieldType → ClassId), va_K D clsL (tysL cA) s := by
  obtain ⟨c0, i0, k0⟩ := u_known (C := RX0) (T := TX0) (N := 15) (n := 15) htb inT0 (htb (.instantiable RX0 15) (chkW_in (i := 123) (by decide +kernel)))
  obtain ⟨c1, i1, k1⟩ := u_known (C := RX1) (T := TX1) (N := 3) (n := 3) htb inT1 (htb (.instantiable RX1 3) (chkW_in (i := 129) (by decide +kernel)))
  obtain ⟨c2, i2, k2⟩ := u_known (C := RX2) (T := TX2) (N := 3) (n := 3) htb inT2 (htb (.instantiable RX2 3) (chkW_in (i := 269) (by decide +kernel)))
  obtain ⟨c3, i3, k3⟩ := u_known (C := RX3) (T := TX3) (N := 4) (n := 4) htb inT3 (htb (.instantiable RX3 4) (chkW_in (i := 95) (by decide +kernel)))
  obtain ⟨c4, i4, k4⟩ := u_known (C := RX4) (T := TX4) (N := 5) (n := 5) htb inT4 (htb (.instantiable RX4 5) (chkW_in (i := 183) (by decide +kernel)))
  obtain ⟨c5, i5, k5⟩ := u_known (C := RX5) (T := TX5) (N := 5) (n := 5) htb inT5 (htb (.instantiable RX5 5) (chkW_in (i := 151) (by decide +kernel)))
  obtain ⟨c6, i6, k6⟩ := u_known (C := RX6) (T := TX6) (N := 13) (n := 13) htb inT6 (htb (.instantiable RX6 13) (chkW_in (i := 87) (by decide +kernel)))
  obtain ⟨c7, i7, k7⟩ := u_known (C := RX7) (T := TX7) (N := 45) (n := 45) htb inT7 (htb (.instantiable RX7 45) (chkW_in (i := 764) (by decide +kernel)))
  obtain ⟨aI, hI1, hI2⟩ := arr_known (htb _ wArrI_in)
  obtain ⟨aZ, hZ1, hZ2⟩ := arr_known (htb _ wArrZ_in)
  obtain ⟨comp, aR, kR, r1, r2, r3, r4, r5⟩ := xO_spec hxN.2
  refine ⟨(fun k => match k with
    | 0 => c0
    | 1 => c1
    | 2 => c2
    | 3 => c3
    | 4 => c4
    | 5 => c5
    | 6 => c6
    | _ => c7, fun k => match k with
    | 0 => i0
    | 1 => i1
    | 2 => i2
    | 3 => i3
    | 4 => i4
    | 5 => i5
    | 6 => i6
    | _ => i7), fun t => match t with
    | .int => aI
    | .boolean => aZ
    | _ => aR, fun k q hq => ?_, fun k q h => ?_⟩
  · match k, hq with
    | 0, hq => cases hq; exact k0
    | 1, hq => cases hq; exact k1
    | 2, hq => cases hq; exact k2
    | 3, hq => cases hq; exact k3
    | 4, hq => cases hq; exact k4
    | 5, hq => cases hq; exact k5
    | 6, hq => cases hq; exact k6
    | 7, hq => cases hq; exact k7
    | k + 8, hq => simp [clsL] at hq
  · match k, h with
    | 0, h => cases h; exact ⟨hI1, hI2⟩
    | 1, h => cases h; exact ⟨hZ1, hZ2⟩
    | 2, h => cases h; exact ⟨fun n z => ⟨fun k h => (by cases h), kR, r3, comp, r4⟩, r5⟩
    | k + 3, h => simp [tysL] at h
set_option maxHeartbeats 4000000 in
set_option maxRecDepth 100000 in
/-- THE LAW, from its entry: both objects are made, then its loop -/
theorem whole_start {p : Program} {e : Env} {s : State} {m : MethodId} {below : List Frame} {meth : Method} {c : Code} (l : Launch) {b L : Nat} {xs : Nat → Int32} (hL : L ≤ 3072) (C0 : lw_At p s m meth c b L xs) : W p l e room_1 s m #[Value.ref b] below meth c s.heap [] 0 0 (lw_Z below #[Value.ref b] s) (entryFrame m ([Value.ref b] : List Value).toArray 4) := by
  obtain ⟨hx, hb, hr, hml, hown, hts, hX, hbl, hlocks, hgv⟩ := id C0
  have htb : ∀ w ∈ tb, w.before #[Value.ref b] s = true := fun w hw => hts w (List.mem_filter.mp hw).1
  have hxN : xN s := ⟨fun a i y h q => va_Nw.of rfl (hts _ q), hts _ wOver_in⟩
  obtain ⟨D, cA, hK⟩ := law_K htb hxN
  have hA : ∀ q : Nat, s.heap.size ≤ q → lwA s q := fun _ h => h
  have hS : va_S (lwA s) s.heap s.heap [] := va_S.rf
  have hP : va_P D clsL [] s.heap := fun k q h => by simp at h
  have hD : va_D (lwA s) [] := ⟨fun i j p q h => by simp at h, fun k q h => by simp at h⟩
  have hl := lv_entry ([.ref b]) (n := 4) (Nat.le_of_ble_eq_true rfl)
  rw [lg_entry_eq]
  generalize (lg_sl ([.ref b]) ++ List.replicate (4 - (lg_sl ([.ref b])).length) Slot.unset).toArray = ls at hl ⊢
  have hl : lv_has ls 4 [(0, .ref b)] := hl
  refine va_new (ci := 6) (fs := dfs 6) (C := RX6) (T := TX6) (N := 13) hx hb htb inT6 tyX6 tyX6_ok hown (htb (.classLink R_law 7 RX6) (chkW_in (i := 86) (by decide +kernel))) (htb (.instantiable RX6 13) (chkW_in (i := 87) (by decide +kernel))) (htb (.initialized RX6) (chkW_in (i := 74) (by decide +kernel))) hK hP hD hS hA rfl dfs_6 (Nat.le_of_ble_eq_true rfl) (Nat.le_of_ble_eq_true rfl) (cdOk_spec tk_0 0 _ rfl) (fun q0 H hP hD hS => ?_)
  have eX : conc cA [q0] [oX] = [(q0, .inr (6, dfs 6))] := by
    show [(q0, jC cA [q0] oX)] = _
    simp only [oX, jC, dfs_cv]
  have hP : va_P D clsL (conc cA [q0] [oX]) H := by rw [eX]; exact hP
  have hD : va_D (lwA s) (conc cA [q0] [oX]) := by rw [eX]; exact hD
  refine lv_dup hx hb (cdOk_spec tk_0 3 _ rfl) rfl ?_
  have mX := mt_ok (k := 42) (M := mX6_init) rfl
  have hpre := ct_pre (as := [.ref 0]) hP hD hK hxN
  refine law_call (adU := [q0]) (adV := []) (hu := [oX]) (hv := []) (Q' := fun v2 hp2 => v2 = none ∧ hp2 = hX0) rfl rfl (fun k q h => by simp [conc] at h) hD (fun q _ h => by simp at h) hS (va_runI (Ts := tb) (n := 0) (b := q0) (As := []) (rest := [.ref q0]) ⟨hx, hb, hml, hown, htb⟩ (ctX0 l D cA [q0] H.size rfl) ⟨callB_of (R := room_1) (ret := none) 0 htb (mw_good mX.1) rfl rfl rfl (htb _ mX.1.2.1) (htb (.methodLink R_law 9 mX6_init.y) (chkW_in (i := 88) (by decide +kernel))) ⟨mX.1.2.2.1.1, mX.1.2.2.1.2, mX.2.trans rfl⟩ (law_room mX.1), rfl, htb (.instanceMethod mX6_init.y) (chkW_in (i := 89) (by decide +kernel))⟩ hpre rfl rfl hl.1 rfl (lv_room (Nat.le_of_ble_eq_true rfl)) (cdOk_spec tk_0 4 _ rfl) ⟨Nat.le_of_ble_eq_true rfl, Nat.le_of_ble_eq_true rfl⟩) (fun v hu' x' H1 locs1 hq lX pX pV dX hdis hS => ?_)
  obtain ⟨rfl, rfl⟩ := hq
  refine lv_astore_n (lv' := [(1, .ref q0), (0, .ref b)]) hx hb (cdOk_spec tk_0 7 _ rfl) rfl hl (by decide) rfl (fun ls hl => ?_)
  generalize hadX : [q0] ++ x' = adX at lX pX dX
  have gX : adX.getD 0 0 = q0 := by rw [← hadX]; rfl
  refine va_new (ci := 7) (fs := dfs 7) (C := RX7) (T := TX7) (N := 45) hx hb htb inT7 tyX7 tyX7_ok hown (htb (.classLink R_law 10 RX7) (chkW_in (i := 763) (by decide +kernel))) (htb (.instantiable RX7 45) (chkW_in (i := 764) (by decide +kernel))) (htb (.initialized RX7) (chkW_in (i := 83) (by decide +kernel))) hK pX dX hS hA rfl dfs_7 (Nat.le_of_ble_eq_true rfl) (Nat.le_of_ble_eq_true rfl) (cdOk_spec tk_0 8 _ rfl) (fun q1 H2 hP2 hD2 hS => ?_)
  have eY : conc cA [q1] [oY] = [(q1, .inr (7, dfs 7))] := by
    show [(q1, jC cA [q1] oY)] = _
    simp only [oY, jC, dfs_cv]
  have lc := conc_length (cA := cA) lX
  have at1 : (conc cA adX hX0 ++ [(q1, (.inr (7, dfs 7) : va_E))])[hX0.length]? = some (q1, .inr (7, dfs 7)) := by
    rw [List.getElem?_append_right (by rw [lc]; exact Nat.le_refl _), lc, Nat.sub_self]; rfl
  have atX : ∀ (k : Nat) (q : Nat × va_E), (conc cA adX hX0)[k]? = some q → (conc cA adX hX0 ++ [(q1, (.inr (7, dfs 7) : va_E))])[k]? = some q := fun k q h => by
    rw [List.getElem?_append_left (List.getElem?_eq_some_iff.mp h).1]; exact h
  have pX2 : va_P D clsL (conc cA adX hX0) H2 := fun k q h => hP2 k q (atX k q h)
  have dX2 : va_D (lwA s) (conc cA adX hX0) := ⟨fun i j x y h1 h2 h3 => hD2.1 i j x y (atX i x h1) (atX j y h2) h3, fun k q h => hD2.2 k q (atX k q h)⟩
  have pY2 : va_P D clsL (conc cA [q1] [oY]) H2 := by
    rw [eY]
    intro k q h
    cases k with
    | zero => cases h; exact hP2 hX0.length _ at1
    | succ k => simp at h
  have dY2 : va_D (lwA s) (conc cA [q1] [oY]) := by
    rw [eY]
    refine ⟨fun i j x y h1 h2 _ => ?_, fun k q h => ?_⟩
    · have a1 := (List.getElem?_eq_some_iff.mp h1).1
      have a2 := (List.getElem?_eq_some_iff.mp h2).1
      simp only [List.length_cons, List.length_nil] at a1 a2
      omega
    · cases k with
      | zero => cases h; exact hD2.2 hX0.length _ at1
      | succ k => simp at h
  have dis : ∀ q, q ∈ [q1] → q ∉ adX := fun q h1 h2 => by
    have hq : q = q1 := by simpa using h1
    subst hq
    obtain ⟨k, e9, h9⟩ := (conc_ad (cA := cA) lX).mp h2
    have := hD2.1 k hX0.length _ _ (atX k _ h9) at1 rfl
    have h8 := (List.getElem?_eq_some_iff.mp h9).1
    rw [lc] at h8
    omega
  refine lv_dup hx hb (cdOk_spec tk_0 11 _ rfl) rfl ?_
  have mY := mt_ok (k := 103) (M := mX7_init) rfl
  have hpre := ct_pre (as := [.ref 0]) pY2 dY2 hK hxN
  refine law_call (adU := [q1]) (adV := adX) (hu := [oY]) (hv := hX0) (Q' := fun v2 hp2 => v2 = none ∧ hp2 = hY0) rfl lX pX2 dY2 dis hS (va_runI (Ts := tb) (n := 0) (b := q1) (As := []) (rest := [.ref q1]) ⟨hx, hb, hml, hown, htb⟩ (ctY0 l D cA [q1] H2.size rfl) ⟨callB_of (R := room_1) (ret := none) 0 htb (mw_good mY.1) rfl rfl rfl (htb _ mY.1.2.1) (htb (.methodLink R_law 12 mX7_init.y) (chkW_in (i := 765) (by decide +kernel))) ⟨mY.1.2.2.1.1, mY.1.2.2.1.2, mY.2.trans rfl⟩ (law_room mY.1), rfl, htb (.instanceMethod mX7_init.y) (chkW_in (i := 766) (by decide +kernel))⟩ hpre rfl rfl hl.1 rfl (lv_room (Nat.le_of_ble_eq_true rfl)) (cdOk_spec tk_0 12 _ rfl) ⟨Nat.le_of_ble_eq_true rfl, Nat.le_of_ble_eq_true rfl⟩) (fun v hu' y' H3 locs3 hq lY pY pX3 dY hdis2 hS => ?_)
  obtain ⟨rfl, rfl⟩ := hq
  refine lv_astore_n (lv' := [(2, .ref q1), (1, .ref q0), (0, .ref b)]) hx hb (cdOk_spec tk_0 15 _ rfl) rfl hl (by decide) rfl (fun ls hl => ?_)
  refine lv_iconst (v := 0) hx hb (cdOk_spec tk_0 16 _ rfl) (by decide) ?_
  refine lv_istore_n (lv' := [(3, .int 0), (2, .ref q1), (1, .ref q0), (0, .ref b)]) hx hb (cdOk_spec tk_0 17 _ rfl) rfl hl (by decide) rfl (fun ls hl => ?_)
  exact LW_loop hL p l e s m below meth c D cA adX ([q1] ++ y') H3 locs3 ls C0 hK hxN lX lY gX rfl pX3 pY dX2 dY (fun q h1 h2 => hdis2 q h2 h1) hS (lv_sub hl [3, 2, 1, 0] rfl)
