def swTg : List Nat := [196, 229, 252, 275, 298, 331, 364, 397, 440, 483, 506, 529, 572, 605, 628, 651, 674, 687, 700, 733, 766, 799, 822, 865, 878, 891, 924, 947, 1001, 1044, 1087, 1110, 1163, 1206, 1269, 1302, 1325]
set_option maxRecDepth 100000 in
theorem sw_all : (List.range 64).all (fun j => decide (swT 1306 0 36 #[163, 196, 219, 242, 265, 298, 331, 364, 407, 450, 473, 496, 539, 572, 595, 618, 641, 654, 667, 700, 733, 766, 789, 832, 845, 858, 891, 914, 968, 1011, 1054, 1077, 1130, 1173, 1236, 1269, 1292] 33 (nI j) = some (swTg.getD j 1339))) = true := by decide +kernel
theorem LW_all {b : Nat} {xs : Nat → Int32} {aX aY : Nat} : ∀ j, j < 64 → LW b 6 xs 93 2553 (swTg.getD j 1339) 0 [] aX aY hX0 hY0
  | 0, _ => case_type
  | 1, _ => case_wipe
  | 2, _ => case_undo
  | 3, _ => case_fault
  | 4, _ => case_person
  | 5, _ => case_promise
  | 6, _ => case_keeping
  | 7, _ => case_lie
  | 8, _ => case_letting
  | 9, _ => case_back
  | 10, _ => case_read
  | 11, _ => case_coat
  | 12, _ => case_stands
  | 13, _ => case_neat
  | 14, _ => case_naked
  | 15, _ => case_longest
  | 16, _ => case_splits
  | 17, _ => case_best
  | 18, _ => case_swear
  | 19, _ => case_keep
  | 20, _ => case_due
  | 21, _ => case_hush
  | 22, _ => case_seen
  | 23, _ => case_forget
  | 24, _ => case_never
  | 25, _ => case_was
  | 26, _ => case_ask
  | 27, _ => case_word
  | 28, _ => case_year
  | 29, _ => case_sheet
  | 30, _ => case_lose
  | 31, _ => case_put
  | 32, _ => case_get
  | 33, _ => case_copy
  | 34, _ => case_write
  | 35, _ => case_count
  | 36, _ => case_digest
  | n + 37, h => by
    have e : swTg.getD (n + 37) 1339 = 1339 := by
      rw [List.getD_eq_getElem?_getD, List.getElem?_eq_none (by show 37 ≤ n + 37; omega)]; rfl
    rw [e]
    exact LW_fin
theorem LW_loop {b L : Nat} {xs : Nat → Int32} {aX aY : Nat} (hL : L ≤ 6) : LW b L xs 93 2553 18 0 [] aX aY hX0 hY0 := by
  by_cases h6 : L = 6
  · subst h6
    refine LW_head (t := 1345) (cdOk_spec tk_0 18 _ rfl) (cdOk_spec tk_0 19 _ rfl) (cdOk_spec tk_0 20 _ rfl) (cdOk_spec tk_0 21 _ rfl) (cdOk_spec tk_0 23 _ rfl) (cdOk_spec tk_0 24 _ rfl) (by decide) (fun h => absurd h (by decide)) (fun _ => ?_)
    refine LW_sw (cdOk_spec tk_0 27 _ rfl) (cdOk_spec tk_0 28 _ rfl) (cdOk_spec tk_0 29 _ rfl) (cdOk_spec tk_0 30 _ rfl) (cdOk_spec tk_0 32 _ rfl) (cdOk_spec tk_0 33 _ rfl) (by unfold vp_in; decide) ?_
    obtain ⟨j, hj, e⟩ := and63 (xs (0 : Int32).toNatClampNeg)
    refine ⟨_, ?_, LW_all j hj⟩
    rw [e]
    exact of_decide_eq_true (List.all_eq_true.mp sw_all j (List.mem_range.mpr hj))
  · refine LW_head (t := 1345) (cdOk_spec tk_0 18 _ rfl) (cdOk_spec tk_0 19 _ rfl) (cdOk_spec tk_0 20 _ rfl) (cdOk_spec tk_0 21 _ rfl) (cdOk_spec tk_0 23 _ rfl) (cdOk_spec tk_0 24 _ rfl) (by decide) (fun _ => ?_) (fun h => ?_)
    · exact LW_exit (cdOk_spec tk_1320 25 _ rfl) (cdOk_spec tk_1320 26 _ rfl) ⟨by decide, by decide⟩
    · refine absurd ?_ h
      have : ∀ k, k < 6 → nI k - 6 < 0 := by decide +kernel
      exact this L (by omega)
