def swTg : List Nat := [196, 229, 252, 275, 298, 331, 364, 397, 440, 483, 506, 529, 572, 605, 628, 651, 674, 687, 700, 733, 766, 799, 822, 865, 878, 891, 924, 947, 1000, 1043, 1086, 1109, 1162, 1205, 1268, 1301, 1324]
set_option maxRecDepth 100000 in
theorem sw_all : (List.range 64).all (fun j => decide (swT 1304 0 36 #[163, 196, 219, 242, 265, 298, 331, 364, 407, 450, 473, 496, 539, 572, 595, 618, 641, 654, 667, 700, 733, 766, 789, 832, 845, 858, 891, 914, 967, 1010, 1053, 1076, 1129, 1172, 1235, 1268, 1291] 33 (nI j) = some (swTg.getD j 1337))) = true := by decide +kernel
theorem LW_all {b L i : Nat} {xs : Nat → Int32} {aX aY : Nat} {hx hy : AH} (hi : i + 6 ≤ L) (hL : L ≤ 3072) (I : INV hx hy) (K : ∀ hx' hy', INV hx' hy' → LW b L xs 93 2553 1337 (nI i) [] aX aY hx' hy') : ∀ j, j < 64 → LW b L xs 93 2553 (swTg.getD j 1337) (nI i) [] aX aY hx hy
  | 0, _ => case_type hi hL I K
  | 1, _ => case_wipe hi hL I K
  | 2, _ => case_undo hi hL I K
  | 3, _ => case_fault hi hL I K
  | 4, _ => case_person hi hL I K
  | 5, _ => case_promise hi hL I K
  | 6, _ => case_keeping hi hL I K
  | 7, _ => case_lie hi hL I K
  | 8, _ => case_letting hi hL I K
  | 9, _ => case_back hi hL I K
  | 10, _ => case_read hi hL I K
  | 11, _ => case_coat hi hL I K
  | 12, _ => case_stands hi hL I K
  | 13, _ => case_neat hi hL I K
  | 14, _ => case_naked hi hL I K
  | 15, _ => case_longest hi hL I K
  | 16, _ => case_splits hi hL I K
  | 17, _ => case_best hi hL I K
  | 18, _ => case_swear hi hL I K
  | 19, _ => case_keep hi hL I K
  | 20, _ => case_due hi hL I K
  | 21, _ => case_hush hi hL I K
  | 22, _ => case_seen hi hL I K
  | 23, _ => case_forget hi hL I K
  | 24, _ => case_never hi hL I K
  | 25, _ => case_was hi hL I K
  | 26, _ => case_ask hi hL I K
  | 27, _ => case_word hi hL I K
  | 28, _ => case_year hi hL I K
  | 29, _ => case_sheet hi hL I K
  | 30, _ => case_lose hi hL I K
  | 31, _ => case_put hi hL I K
  | 32, _ => case_get hi hL I K
  | 33, _ => case_copy hi hL I K
  | 34, _ => case_write hi hL I K
  | 35, _ => case_count hi hL I K
  | 36, _ => case_digest hi hL I K
  | n + 37, h => by
    have e : swTg.getD (n + 37) 1337 = 1337 := by
      rw [List.getD_eq_getElem?_getD, List.getElem?_eq_none (by show 37 ≤ n + 37; omega)]; rfl
    rw [e]
    exact K _ _ I
theorem sub6 {L : Nat} (h : L ≤ 3072) : (nI L - 6).toInt = (L : Int) - 6 := by
  have e : (6 : Int32).toInt = 6 := by decide
  rw [toInt_sub_in (by rw [nI_toInt (by omega), e]; omega) (by rw [nI_toInt (by omega), e]; omega), nI_toInt (by omega), e]
theorem LW_loop' {b L : Nat} {xs : Nat → Int32} {aX aY : Nat} (hL : L ≤ 3072) : ∀ (r i : Nat) (hx hy : AH), L < i + r → i ≤ L + 6 → INV hx hy → LW b L xs 93 2553 18 (nI i) [] aX aY hx hy := by
  intro r
  induction r with
  | zero =>
    intro i hx hy h1 h2 I
    refine LW_head (t := 1343) (cdOk_spec tk_0 18 _ rfl) (cdOk_spec tk_0 19 _ rfl) (cdOk_spec tk_0 20 _ rfl) (cdOk_spec tk_0 21 _ rfl) (cdOk_spec tk_0 23 _ rfl) (cdOk_spec tk_0 24 _ rfl) (by decide) (fun _ => ?_) (fun h => ?_)
    · exact LW_exit (cdOk_spec tk_1320 23 _ rfl) (cdOk_spec tk_1320 24 _ rfl) ⟨by decide, by decide⟩
    · refine absurd ?_ h
      rw [Int32.lt_iff_toInt_lt, sub6 hL, nI_toInt (by omega)]
      omega
  | succ r ih =>
    intro i hx hy h1 h2 I
    refine LW_head (t := 1343) (cdOk_spec tk_0 18 _ rfl) (cdOk_spec tk_0 19 _ rfl) (cdOk_spec tk_0 20 _ rfl) (cdOk_spec tk_0 21 _ rfl) (cdOk_spec tk_0 23 _ rfl) (cdOk_spec tk_0 24 _ rfl) (by decide) (fun _ => ?_) (fun h => ?_)
    · exact LW_exit (cdOk_spec tk_1320 23 _ rfl) (cdOk_spec tk_1320 24 _ rfl) ⟨by decide, by decide⟩
    · rw [Int32.lt_iff_toInt_lt, sub6 hL, nI_toInt (by omega)] at h
      have hi : i + 6 ≤ L := by omega
      refine LW_sw (cdOk_spec tk_0 27 _ rfl) (cdOk_spec tk_0 28 _ rfl) (cdOk_spec tk_0 29 _ rfl) (cdOk_spec tk_0 30 _ rfl) (cdOk_spec tk_0 32 _ rfl) (cdOk_spec tk_0 33 _ rfl) (vp_in_iff.mpr (by rw [nI_toInt (by omega)]; omega)) ?_
      obtain ⟨j, hj, e⟩ := and63 (xs (nI i).toNatClampNeg)
      refine ⟨_, ?_, LW_all hi hL I (fun hx' hy' I' => ?_) j hj⟩
      · rw [e]
        exact of_decide_eq_true (List.all_eq_true.mp sw_all j (List.mem_range.mpr hj))
      · refine LW_next (t := 18) (cdOk_spec tk_1320 17 _ rfl) (cdOk_spec tk_1320 20 _ rfl) (by decide) ?_
        have e6 : nI i + 6 = nI (i + 6) := nI_add i 6
        rw [e6]
        exact ih (i + 6) hx' hy' (by omega) (by omega) I'
theorem LW_loop {b L : Nat} {xs : Nat → Int32} {aX aY : Nat} (hL : L ≤ 3072) : LW b L xs 93 2553 18 0 [] aX aY hX0 hY0 := LW_loop' hL (L + 1) 0 hX0 hY0 (by omega) (by omega) inv0
