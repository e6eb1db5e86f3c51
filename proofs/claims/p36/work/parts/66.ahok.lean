theorem cat_sum0 {B : BD} {ρ : Nat → Int} : ∀ {as : List AVa} {vs : List Value}, rS B ρ as vs → vs.map (fun v => v.category) = as.map catA
  | [], [], _ => rfl
  | _ :: _, _ :: _, h => by rw [List.map_cons, List.map_cons, catA_eq h.1, cat_sum0 h.2]
  | [], _ :: _, h => h.elim
  | _ :: _, [], h => h.elim
theorem cpyL_bounds {xs ys : List Int32} {sp dp n : Nat} {lo hi : Int} (h1 : sp + n ≤ xs.length) (hx : ∀ y ∈ xs, lo ≤ y.toInt ∧ y.toInt ≤ hi) (hy : ∀ y ∈ ys, lo ≤ y.toInt ∧ y.toInt ≤ hi) : ∀ y ∈ cpyL xs ys sp dp n, lo ≤ y.toInt ∧ y.toInt ≤ hi := by
  intro y hm
  unfold cpyL at hm
  obtain ⟨k, hk, rfl⟩ := List.mem_map.mp hm
  have hk := List.mem_range.mp hk
  split
  · exact hx _ (getD_mem (by omega))
  · exact hy _ (getD_mem hk)
section AHOK
variable {B : BD} {ρ : Nat → Int} {d : Nat} {M : MT} {i : Instr} {pc : Nat} {sa : List AVa} {ha : AHa} {st : List Value} {hp : AH}
theorem aH1_ok (hB : okB B ρ) (hS : rS B ρ sa st) (hH : rH B ρ ha hp) {o : OUT} (h : aH1 d B M i pc sa ha = some o) : outOk B ρ d M i pc st hp o := by
  cases i with
  | getfield idx =>
    simp only [aH1] at h
    split at h
    · split at h
      · rename_i ci sl w cj fa h1 h2
        split at h
        · rename_i hc
          split at h
          · rename_i a hf
            split at h
            · cases h
            rename_i hna
            cases h
            obtain ⟨v, vs, rfl, hv, hr⟩ := rS_cons hS
            cases rV_ref hv
            obtain ⟨x, g1, g2⟩ := hH.2.1 _ _ h2
            obtain ⟨fs, rfl, g3⟩ := rC_obj g2
            obtain ⟨u, g4, g5⟩ := g3.2 _ _ hf
            have g5 := g5.resolve_left hna
            exact ⟨ρ, u :: vs, hp, hB, ext_rf, by simp only [hA, h1, g1, if_pos hc, g4], ⟨g5, hr⟩, hH⟩
          · cases h
        · cases h
      · cases h
    · cases h
  | putfield idx =>
    simp only [aH1] at h
    split at h
    · rename_i a r s
      split at h
      · rename_i ci sl w cj fa h1 h2
        split at h
        · rename_i hc
          obtain ⟨c1, c2, c3, c4, c5⟩ := hc
          cases h
          obtain ⟨v, vs, rfl, hv, hr⟩ := rS_cons hS
          obtain ⟨u, us, rfl, hu, hr2⟩ := rS_cons hr
          cases rV_ref hu
          obtain ⟨x, g1, g2⟩ := hH.2.1 _ _ h2
          obtain ⟨fs, rfl, g3⟩ := rC_obj g2
          have hcond : ci = cj ∧ sl < fs.length ∧ fHold (fTy ci sl) v = true ∧ (fFin ci sl = false ∨ (ci = M.cn ∧ M.y.name = "<init>")) := ⟨c1, by rw [← g3.1]; exact c2, fHoldA_ok c3 hv, Or.inl c4⟩
          refine ⟨ρ, us, hp.set r (.inr (.inr (ci, fs.set sl v))), hB, ext_rf, ?_, hr2, rH_set hH c5 ⟨rfl, by rw [List.length_set, List.length_set]; exact g3.1, fun j b hj => ?_⟩⟩
          · simp only [hA, h1, g1, if_pos hcond]
          · by_cases hjk : j = sl
            · subst hjk
              rw [List.getElem?_set_self c2] at hj
              cases hj
              exact ⟨v, List.getElem?_set_self (by rw [← g3.1]; exact c2), Or.inr hv⟩
            · rw [List.getElem?_set_ne (Ne.symm hjk)] at hj
              obtain ⟨w, q1, q2⟩ := g3.2 j b hj
              exact ⟨w, by rw [List.getElem?_set_ne (Ne.symm hjk)]; exact q1, q2⟩
        · cases h
      · cases h
    · cases h
  | iaload =>
    simp only [aH1] at h
    split at h
    · split at h
      · rename_i c h2
        split at h
        · rename_i q hq
          cases h
          obtain ⟨v, vs, rfl, hv, hr⟩ := rS_cons hS
          obtain ⟨u, us, rfl, hu, hr2⟩ := rS_cons hr
          obtain ⟨x, rfl, hx⟩ := rV_int hv
          cases rV_ref hu
          obtain ⟨y, g1, g2⟩ := hH.2.1 _ _ h2
          obtain ⟨xs, rfl, g3, ρ', g4, g5, g6⟩ := aldA_ok hB hx g2 hq
          exact ⟨ρ', .int (xs.getD x.toNatClampNeg 0) :: us, hp, g4, g5, by simp only [hA, g1, if_pos g3], ⟨g6, rS_ext g5 hr2⟩, rH_ext g5 hH⟩
        · cases h
      · cases h
    · cases h
  | baload =>
    simp only [aH1] at h
    split at h
    · split at h
      · rename_i c h2
        split at h
        · rename_i q hq
          cases h
          obtain ⟨v, vs, rfl, hv, hr⟩ := rS_cons hS
          obtain ⟨u, us, rfl, hu, hr2⟩ := rS_cons hr
          obtain ⟨x, rfl, hx⟩ := rV_int hv
          cases rV_ref hu
          obtain ⟨y, g1, g2⟩ := hH.2.1 _ _ h2
          obtain ⟨xs, rfl, g3, ρ', g4, g5, g6⟩ := aldA_ok hB hx g2 hq
          exact ⟨ρ', .int (xs.getD x.toNatClampNeg 0) :: us, hp, g4, g5, by simp only [hA, g1, if_pos g3], ⟨g6, rS_ext g5 hr2⟩, rH_ext g5 hH⟩
        · cases h
      · cases h
    · cases h
  | iastore =>
    simp only [aH1] at h
    split at h
    · rename_i v0 n0 r s
      split at h
      · rename_i c h2
        split at h
        · rename_i c' hq
          split at h
          rotate_left
          · cases h
          rename_i hwo
          cases h
          obtain ⟨v, vs, rfl, hv, hr⟩ := rS_cons hS
          obtain ⟨u, us, rfl, hu, hr2⟩ := rS_cons hr
          obtain ⟨t, ts, rfl, ht, hr3⟩ := rS_cons hr2
          obtain ⟨z, rfl, hz⟩ := rV_int hv
          obtain ⟨x, rfl, hx⟩ := rV_int hu
          cases rV_ref ht
          obtain ⟨y, g1, g2⟩ := hH.2.1 _ _ h2
          obtain ⟨xs, rfl, g3, g4⟩ := astA_ok hB hx hz g2 hq
          exact ⟨ρ, ts, hp.set r (.inl (.int, xs.set x.toNatClampNeg z)), hB, ext_rf, by simp only [hA, g1, if_pos g3], hr3, rH_set hH hwo g4⟩
        · cases h
      · cases h
    · cases h
  | bastore =>
    simp only [aH1] at h
    split at h
    · rename_i v0 n0 r s
      split at h
      · rename_i c h2
        split at h
        · rename_i hb01
          split at h
          · rename_i c' hq
            split at h
            rotate_left
            · cases h
            rename_i hwo
            cases h
            obtain ⟨v, vs, rfl, hv, hr⟩ := rS_cons hS
            obtain ⟨u, us, rfl, hu, hr2⟩ := rS_cons hr
            obtain ⟨t, ts, rfl, ht, hr3⟩ := rS_cons hr2
            obtain ⟨z, rfl, hz⟩ := rV_int hv
            obtain ⟨x, rfl, hx⟩ := rV_int hu
            cases rV_ref ht
            obtain ⟨y, g1, g2⟩ := hH.2.1 _ _ h2
            obtain ⟨xs, rfl, g3, g4⟩ := astA_ok hB hx hz g2 hq
            have hbz := bnd_ok hB hz
            have hz01 : z = 0 ∨ z = 1 := by
              have e0 : (0 : Int32).toInt = 0 := by decide
              have e1 : (1 : Int32).toInt = 1 := by decide
              rcases (show z.toInt = 0 ∨ z.toInt = 1 by omega) with q | q
              · left; exact Int32.toInt_inj.mp (by omega)
              · right; exact Int32.toInt_inj.mp (by omega)
            have hnar : vp_nar .boolean z = z := by rcases hz01 with q | q <;> subst q <;> decide
            exact ⟨ρ, ts, hp.set r (.inl (.boolean, xs.set x.toNatClampNeg z)), hB, ext_rf, by simp only [hA, g1, if_pos g3, hnar], hr3, rH_set hH hwo g4⟩
          · cases h
        · cases h
      · cases h
    · cases h
  | arraylength =>
    simp only [aH1] at h
    split at h
    · split at h
      · rename_i len lo hi h2
        cases h
        obtain ⟨v, vs, rfl, hv, hr⟩ := rS_cons hS
        cases rV_ref hv
        obtain ⟨y, g1, g2⟩ := hH.2.1 _ _ h2
        obtain ⟨xs, rfl, hl, -⟩ := rC_sum g2
        exact ⟨ρ, .int (Int32.ofNat xs.length) :: vs, hp, hB, ext_rf, by simp only [hA, g1], ⟨⟨fun j hj => (by cases hj), by rw [hl]; rfl⟩, hr⟩, hH⟩
      · cases h
    · cases h
  | idiv =>
    simp only [aH1] at h
    split at h
    · split at h
      · rename_i hb
        cases h
        obtain ⟨v, vs, rfl, hv, hr⟩ := rS_cons hS
        obtain ⟨u, us, rfl, hu, hr2⟩ := rS_cons hr
        obtain ⟨y, rfl, hy⟩ := rV_int hv
        obtain ⟨x, rfl, hx⟩ := rV_int hu
        have hy0 : ¬ y = 0 := fun q => by
          have := bnd_ok hB hy
          rw [q, Int32.toInt_zero] at this
          omega
        obtain ⟨ρ', g1, g2, g3⟩ := divN_ok hB hx hy
        exact ⟨ρ', .int (x / y) :: us, hp, g1, g2, by simp only [hA, if_neg hy0], ⟨g3, rS_ext g2 hr2⟩, rH_ext g2 hH⟩
      · cases h
    · cases h
  | irem =>
    simp only [aH1] at h
    split at h
    · split at h
      · rename_i hb
        cases h
        obtain ⟨v, vs, rfl, hv, hr⟩ := rS_cons hS
        obtain ⟨u, us, rfl, hu, hr2⟩ := rS_cons hr
        obtain ⟨y, rfl, hy⟩ := rV_int hv
        obtain ⟨x, rfl, hx⟩ := rV_int hu
        have hy0 : ¬ y = 0 := fun q => by
          have := bnd_ok hB hy
          rw [q, Int32.toInt_zero] at this
          omega
        obtain ⟨ρ', g1, g2, g3⟩ := remN_ok hB hx hy
        exact ⟨ρ', .int (x - x / y * y) :: us, hp, g1, g2, by simp only [hA, if_neg hy0], ⟨g3, rS_ext g2 hr2⟩, rH_ext g2 hH⟩
      · cases h
    · cases h
  | ldc idx =>
    simp only [aH1] at h
    split at h
    · rename_i v w h1; cases h
      exact ⟨ρ, .int v :: st, hp, hB, ext_rf, by simp only [hA, h1], ⟨⟨fun j hj => (by cases hj), rfl⟩, hS⟩, hH⟩
    · cases h
  | ldc_w idx =>
    simp only [aH1] at h
    split at h
    · rename_i v w h1; cases h
      exact ⟨ρ, .int v :: st, hp, hB, ext_rf, by simp only [hA, h1], ⟨⟨fun j hj => (by cases hj), rfl⟩, hS⟩, hH⟩
    · cases h
  | ldc2_w idx =>
    simp only [aH1] at h
    split at h
    · rename_i v w h1; cases h
      exact ⟨ρ, .long v :: st, hp, hB, ext_rf, by simp only [hA, h1], ⟨(fun c hc => by cases hc; exact ⟨fun j hj => (by cases hj), rfl⟩), hS⟩, hH⟩
    · cases h
  | invokestatic idx =>
    simp only [aH1] at h
    split at h
    · rename_i kd a1 a2 a3 a4 n dp k1 sp k0 s1 h1
      split at h
      · rename_i n0 lo0 hi0 n1 lo1 hi1 g0 g1
        split at h
        · rename_i hc
          obtain ⟨c1, c2, c3, c4, c5, c6, c7, c8, c9, c10, c11⟩ := hc
          cases h
          obtain ⟨v1, t1, rfl, r1, hr1⟩ := rS_cons hS
          obtain ⟨v2, t2, rfl, r2, hr2⟩ := rS_cons hr1
          obtain ⟨v3, t3, rfl, r3, hr3⟩ := rS_cons hr2
          obtain ⟨v4, t4, rfl, r4, hr4⟩ := rS_cons hr3
          obtain ⟨v5, t5, rfl, r5, hr5⟩ := rS_cons hr4
          obtain ⟨xn, rfl, en⟩ := rV_int r1
          obtain ⟨xd, rfl, ed⟩ := rV_int r2
          cases rV_ref r3
          obtain ⟨xp, rfl, ep⟩ := rV_int r4
          cases rV_ref r5
          obtain ⟨y0, q0, q1⟩ := hH.2.1 _ _ g0
          obtain ⟨y1, q2, q3⟩ := hH.2.1 _ _ g1
          obtain ⟨xs, rfl, l0, b0⟩ := rC_sum q1
          obtain ⟨ys, rfl, l1, b1⟩ := rC_sum q3
          have bn := bnd_ok hB en
          have bd := bnd_ok hB ed
          have bp := bnd_ok hB ep
          obtain ⟨jn, -, rfl, en1⟩ := nI_toInt' (x := xn) (by omega)
          obtain ⟨jd, -, rfl, ed1⟩ := nI_toInt' (x := xd) (by omega)
          obtain ⟨jp, -, rfl, ep1⟩ := nI_toInt' (x := xp) (by omega)
          have tn : (nI jn).toNatClampNeg = jn := by show (nI jn).toInt.toNat = jn; omega
          have td : (nI jd).toNatClampNeg = jd := by show (nI jd).toInt.toNat = jd; omega
          have tp : (nI jp).toNatClampNeg = jp := by show (nI jp).toInt.toNat = jp; omega
          have z : ∀ j, (nI j).toInt = (j : Int) → ¬ nI j < 0 := fun j e q => by
            rw [Int32.lt_iff_toInt_lt, Int32.toInt_zero] at q; omega
          have hcond : kd = 6 ∧ catB t5 = true ∧ 0 < d ∧ ¬ nI jp < 0 ∧ ¬ nI jd < 0 ∧ ¬ nI jn < 0 ∧ (nI jp).toNatClampNeg + (nI jn).toNatClampNeg ≤ xs.length ∧ (nI jd).toNatClampNeg + (nI jn).toNatClampNeg ≤ ys.length := ⟨c1, by unfold catB; rw [cat_sum0 hr5]; exact decide_eq_true c2, c3, z _ ep1, z _ ed1, z _ en1, by omega, by omega⟩
          refine ⟨ρ, t5, hp.set k1 (.inl (.int, cpyL xs ys (nI jp).toNatClampNeg (nI jd).toNatClampNeg (nI jn).toNatClampNeg)), hB, ext_rf, ?_, hr5, rH_keep hH c11 g1 ⟨rfl, by rw [cpyL_length]; exact l1, cpyL_bounds (by omega) (fun y hy => by have := b0 y hy; omega) b1⟩⟩
          simp only [hA, h1, q0, q2, if_pos hcond]
        · cases h
      · cases h
    · cases h
  | _ => cases h
end AHOK
