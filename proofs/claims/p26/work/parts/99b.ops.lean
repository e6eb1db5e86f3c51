/-! ===== one side of the law, exactly: an object within its general heap, its numbers and its arrays ===== -/
def SD (Bs : BD) (g : AHa) (ρ : Nat → Int) (α : Nat → Int → Int) (h : AH) : Prop := okB Bs ρ ∧ rH Bs ρ g h ∧ rAr (List.range g.length) α h
def argN : Nat → Nat → List AVa
  | _, 0 => []
  | p, n + 1 => .inl (some p, 0) :: argN (p + 1) n
theorem rS_args {B : BD} {ρ : Nat → Int} : ∀ (n p : Nat) (as : List Int32), as.length = n → (∀ i, i < n → p + i < B.length ∧ (as.getD i 0).toInt = ρ (p + i)) → rS B ρ (argN p n) (as.map .int)
  | 0, _, [], _, _ => trivial
  | n + 1, p, a :: as, hl, h => by
    have h0 := h 0 (by omega)
    refine ⟨⟨fun j hj => by cases hj; exact h0.1, ?_⟩, rS_args n (p + 1) as (by simpa using hl) (fun i hi => ?_)⟩
    · show a.toInt = ρ p + 0
      rw [Int.add_zero]
      exact h0.2
    · have := h (i + 1) (by omega)
      rw [List.getD_cons_succ] at this
      rw [show p + 1 + i = p + (i + 1) by omega]
      exact this
  | 0, _, _ :: _, hl, _ => by simp at hl
  | _ + 1, _, [], hl, _ => by simp at hl
def sgG (g h : AHa) : Nat → AN := fun j => ((colZ colC g h).lookup j).getD (none, 0)
/-- behind the call the object lies within its general heap -/
def pG (Bs : BD) (g : AHa) (o : XOUT) : Bool := bOk o.1 (sgG g o.2.2.1) Bs && zipB (cOkA o.1 (sgG g o.2.2.1) Bs.length) g o.2.2.1
theorem sideS {PT : PTy} {c : XC} {Bs : BD} {g : AHa} {N : MT} {n : Nat} {ρ : Nat → Int} {α : Nat → Int → Int} {h : AH} (hN : mtL[c.1]? = some N) (hd : c.2.1 ≤ 12) (hc : wfX c = true ∧ xcOk PT c) (hB : c.2.2.1 = Bs ++ List.replicate n ((-2147483648), 2147483647)) (hA : c.2.2.2.1 = .inr (.inl 0) :: argN Bs.length n) (hg : c.2.2.2.2.1 = g) (hchk : c.2.2.2.2.2.2.all (pG Bs g) = true) (hS : SD Bs g ρ α h) (as : List Int32) (hl : as.length = n) (hpre : ∀ r : Nat → Int, (∀ j, j < Bs.length → r j = ρ j) → ∀ f ∈ c.2.2.2.2.2.1, hF PT r α f) :
    Ct N 12 0 0 (.ref 0 :: as.map .int) h (fun v hp' => ∃ o ∈ c.2.2.2.2.2.2, ∃ r a r' a', (∀ j, j < Bs.length → r j = ρ j) ∧ (∀ i, i < n → r (Bs.length + i) = (as.getD i 0).toInt) ∧ (∀ s, s < g.length → a s = α s) ∧ rO o.1 r o.2.1 v ∧ hp'.length = g.length ∧ SD Bs g r' a' hp' ∧ (∀ j, r' j = den r (sgG g o.2.2.1 j)) ∧ (∀ k, k < g.length → a' k = a (o.2.2.2.1.getD k 0)) ∧ ∀ f ∈ o.2.2.2.2.2, hF PT r a f) := by
  obtain ⟨hwf, hx⟩ := hc
  obtain ⟨s1, s2, s3⟩ := hS
  have e : ext Bs ρ (Bs ++ List.replicate n ((-2147483648), 2147483647)) (fun j => if j < Bs.length then ρ j else (as.getD (j - Bs.length) 0).toInt) := ⟨by rw [List.length_append]; omega, fun j hj => if_pos hj⟩
  have hB1 : okB (Bs ++ List.replicate n ((-2147483648), 2147483647)) (fun j => if j < Bs.length then ρ j else (as.getD (j - Bs.length) 0).toInt) := by
    intro j b hj
    by_cases hl2 : j < Bs.length
    · rw [List.getElem?_append_left hl2] at hj
      simp only [if_pos hl2]
      exact s1 j b hj
    · rw [List.getElem?_append_right (by omega)] at hj
      have hb := List.eq_of_mem_replicate (List.mem_of_getElem? hj)
      subst hb
      simp only [if_neg hl2]
      exact ⟨int32_lo _, int32_hi _⟩
  have hSv : rS (Bs ++ List.replicate n ((-2147483648), 2147483647)) (fun j => if j < Bs.length then ρ j else (as.getD (j - Bs.length) 0).toInt) (.inr (.inl 0) :: argN Bs.length n) (.ref 0 :: as.map .int) := ⟨rfl, rS_args n Bs.length as hl (fun i hi => ⟨by rw [List.length_append, List.length_replicate]; omega, by simp only [if_neg (show ¬ Bs.length + i < Bs.length by omega), show Bs.length + i - Bs.length = i by omega]⟩)⟩
  have C := hx N hN (fun j => if j < Bs.length then ρ j else (as.getD (j - Bs.length) 0).toInt) α (.ref 0 :: as.map .int) h (by rw [hB]; exact hB1) (by rw [hB, hA]; exact hSv) (by rw [hB, hg]; exact rH_ext e s2) (by rw [hg]; exact s3) (hpre _ (fun j hj => if_pos hj))
  refine Ct_weak (Ct_deep C hd) (fun v hp' hq => ?_)
  obtain ⟨o, ho, r, a, g1, g2, g3, g4, g5, g6, g7⟩ := hq
  rw [hB] at g2
  rw [hg] at g3
  have hp := List.all_eq_true.mp hchk o ho
  unfold pG at hp
  rw [Bool.and_eq_true] at hp
  have hH2 := hOk_ok (Bt := Bs) g1 hp.2 g5
  have hr : ∀ j, j < Bs.length + n → r j = (if j < Bs.length then ρ j else (as.getD (j - Bs.length) 0).toInt) := fun j hj => g2.2 j (by rw [List.length_append, List.length_replicate]; exact hj)
  refine ⟨o, ho, r, a, ρt (sgG g o.2.2.1) r, fun k => a (o.2.2.2.1.getD k 0), fun j hj => by rw [hr j (by omega), if_pos hj], fun i hi => by rw [hr _ (by omega), if_neg (by omega), show Bs.length + i - Bs.length = i by omega], g3.2, g4, hH2.1.symm, ⟨bOk_ok g1 hp.1, hH2, ?_⟩, fun _ => rfl, fun _ _ => rfl, g7⟩
  intro k ty xs hk i hi
  have hk2 : k < hp'.length := (List.getElem?_eq_some_iff.mp hk).1
  have hk3 : k < g.length := by rw [hH2.1]; exact hk2
  have ek : (List.range g.length).getD k 0 = k := by rw [List.getD_eq_getElem?_getD, List.getElem?_range hk3]; rfl
  rw [ek]
  exact g6 k ty xs hk i hi
theorem den_of {r : Nat → Int} {n m : AN} (h : n = m) : den r n = den r m := by rw [h]
theorem rO_int {B : BD} {r : Nat → Int} {n : AN} {v : Option Value} (h : rO B r (some (.inl n)) v) : ∃ z : Int32, v = some (.int z) ∧ z.toInt = den r n := by
  match v, h with
  | some w, h =>
    obtain ⟨x, rfl, hx⟩ := rV_int h
    exact ⟨x, rfl, hx.2⟩
theorem rO_long {B : BD} {r : Nat → Int} {n : Option AN} {v : Option Value} (h : rO B r (some (.inr (.inr n))) v) : ∃ z : Int64, v = some (.long z) := by
  match v, h with
  | some w, h =>
    obtain ⟨x, rfl, hx⟩ := rV_long h
    exact ⟨x, rfl⟩
theorem SD_len {Bs : BD} {g : AHa} {ρ : Nat → Int} {α : Nat → Int → Int} {h : AH} (hS : SD Bs g ρ α h) : h.length = g.length := hS.2.1.1.symm
theorem SD_obj {Bs : BD} {g : AHa} {ρ : Nat → Int} {α : Nat → Int → Int} {h : AH} {ci : Nat} {fa : List AVa} (hS : SD Bs g ρ α h) (hg : g[(0 : Nat)]? = some (.inr (.inr (.inr (ci, fa))))) : ∃ fs, (h[(0 : Nat)]? : Option AC) = some (.inr (.inr (ci, fs))) := by
  obtain ⟨x, p0, c0⟩ := rH_at hS.2.1 (k := 0) hg
  obtain ⟨fs, rfl, -⟩ := rC_obj c0
  exact ⟨fs, p0⟩
/-- the arrays of a heap, as functions -/
def arF (h : AH) : Nat → Int → Int := fun k i => match h[k]? with
  | some (.inl (_, xs)) => (xs.getD i.toNat 0).toInt
  | _ => 0
theorem arF_ok (h : AH) : rAr (List.range h.length) (arF h) h := by
  intro k ty xs hk i hi
  have hk2 : k < h.length := (List.getElem?_eq_some_iff.mp hk).1
  rw [List.getD_eq_getElem?_getD (l := List.range h.length), List.getElem?_range hk2]
  show _ = arF h k (i : Int)
  unfold arF
  rw [hk]
  rfl
/-! ===== the operations, side by side: what of them is told; printed by wip/gen/x/row.py ===== -/
def PT0 : PTy := fun n => ([P_allP, P_allV, P_ffP, P_ffV, P_nP, P_nV, P_tkP, P_tkV, P_by0, P_by1, P_rpI, P_rvI, P_rdP, P_rdV, P_ly, P_fo, P_ent, P_entI, P_eaI3, P_eaI4, P_arV, P_arK, P_arr, P_pr, P_fil, P_bg, P_adI, P_adE, P_bits, P_nkd, P_rps, P_mk, P_kp, P_br, P_g1, P_g2, P_g3, P_g4, P_r1, P_r2, P_ru, P_cp2, P_rd, P_XT, P_tyX, P_wiX, P_unX, P_faX, P_peX, P_prX, P_kgA, P_tlA, P_seA, P_baA, P_foA, P_tyY, P_wiY, P_unY, P_faY, P_peY, P_prY, P_shX, P_shY, P_shI, P_fl60, P_loX, P_loY, P_puX, P_puY, P_geX, P_geY, P_cpX, P_cpY, P_cpR, P_cpA, P_cpB, P_rdX, P_rdXI, P_rdY, P_rdYI, P_coX, P_coY, P_XN, P_wrX, P_yx, P_yi, P_ar2, P_ocX, P_osX, P_onX, P_okX, P_olX, P_opX, P_amC, P_obI, P_obX, P_bc, P_wcX, P_owX, P_rt, P_ocY, P_osY, P_onY, P_okY, P_olY, P_opY, P_obY, P_bitY, P_nkY, P_lgY, P_cnY, P_rpY, P_beY, P_wcY, P_owY, P_owI, P_alk, P_keI, P_okX2, P_kyI, P_kyP, P_okY2, P_al, P_bu, P_bu2, P_duI, P_odX, P_dyI, P_dyP, P_odY, P_sbX, P_sbI, P_saI, P_saX, P_nvI, P_onvX, P_sy, P_nyI, P_onvY] : List (List Int → List (Int → Int) → Prop)).getD (n - 64) (fun _ _ => False)
theorem hpl_0 : HP0 PT0 := trivial
theorem hpl_1 : HP1 PT0 := ⟨hpl_0, rfl, rfl, rfl, rfl, rfl, rfl, rfl, rfl, trivial⟩
theorem hpl_2 : HP2 PT0 := ⟨hpl_1, rfl, rfl, rfl, rfl, rfl, rfl, rfl, rfl, trivial⟩
theorem hpl_3 : HP3 PT0 := ⟨hpl_2, rfl, rfl, rfl, rfl, rfl, rfl, rfl, rfl, rfl, rfl, rfl, rfl, trivial⟩
theorem hpl_4 : HP4 PT0 := ⟨hpl_3, rfl, rfl, rfl, trivial⟩
theorem hpl_5 : HP5 PT0 := ⟨hpl_4, rfl, rfl, rfl, rfl, rfl, rfl, rfl, rfl, rfl, rfl, rfl, rfl, trivial⟩
theorem hpl_6 : HP6 PT0 := ⟨hpl_5, rfl, rfl, rfl, rfl, rfl, rfl, rfl, rfl, rfl, rfl, rfl, rfl, trivial⟩
theorem hpl_7 : HP7 PT0 := ⟨hpl_6, rfl, rfl, rfl, rfl, rfl, rfl, trivial⟩
theorem hpl_8 : HP8 PT0 := ⟨hpl_7, rfl, rfl, rfl, rfl, rfl, rfl, rfl, rfl, rfl, rfl, trivial⟩
theorem hpl_9 : HP9 PT0 := ⟨hpl_8, rfl, rfl, rfl, rfl, rfl, rfl, rfl, rfl, rfl, rfl, rfl, trivial⟩
theorem hpl_10 : HP10 PT0 := ⟨hpl_9, rfl, trivial⟩
theorem hpl_11 : HP11 PT0 := ⟨hpl_10, rfl, rfl, rfl, rfl, rfl, rfl, rfl, rfl, rfl, rfl, rfl, rfl, rfl, rfl, rfl, rfl, trivial⟩
theorem hpl_12 : HP12 PT0 := ⟨hpl_11, rfl, rfl, rfl, rfl, rfl, rfl, rfl, rfl, rfl, rfl, rfl, rfl, rfl, rfl, rfl, rfl, rfl, trivial⟩
theorem hpl_13 : HP13 PT0 := ⟨hpl_12, rfl, rfl, rfl, rfl, rfl, rfl, rfl, rfl, trivial⟩
theorem hpl_14 : HP14 PT0 := ⟨hpl_13, rfl, rfl, rfl, rfl, rfl, rfl, trivial⟩
theorem hpl_15 : HP15 PT0 := ⟨hpl_14, rfl, rfl, rfl, rfl, rfl, rfl, rfl, rfl, rfl, trivial⟩
theorem fr_ {n : Nat} {an : List Nat} {α a a' : Nat → Int → Int} (h8 : ∀ k, k < n → a' k = a (an.getD k 0)) (h3 : ∀ s, s < n → a s = α s) (k s : Nat) (h : (decide (k < n) && (decide (an.getD k 0 = s) && decide (s < n))) = true) : a' k = α s := by
  rw [Bool.and_eq_true, Bool.and_eq_true, decide_eq_true_eq, decide_eq_true_eq, decide_eq_true_eq] at h
  rw [h8 k h.1, h.2.1, h3 s h.2.2]
/-- many at once -/
def FRc (α a' : Nat → Int → Int) (P : Prop) : List Nat → Prop
  | [] => P
  | k :: l => a' k = α k ∧ FRc α a' P l
theorem frc {n : Nat} {an : List Nat} {α a a' : Nat → Int → Int} {P : Prop} (h8 : ∀ k, k < n → a' k = a (an.getD k 0)) (h3 : ∀ s, s < n → a s = α s) : ∀ (l : List Nat), l.all (fun k => Nat.blt k n && Nat.beq (an.getD k 0) k) = true → P → FRc α a' P l
  | [], _, p => p
  | k :: l, h, p => by
    rw [List.all_cons, Bool.and_eq_true, Bool.and_eq_true] at h
    have h1 : k < n := Nat.le_of_ble_eq_true h.1.1
    have h2 := Nat.eq_of_beq_eq_true h.1.2
    exact ⟨by rw [h8 k h1, h2, h3 k h1], frc h8 h3 l h.2 p⟩
def NRc (ρ r' : Nat → Int) (P : Prop) : List Nat → Prop
  | [] => P
  | j :: l => r' j = ρ j ∧ NRc ρ r' P l
theorem nrc {n : Nat} {τ : Nat → AN} {ρ r r' : Nat → Int} {P : Prop} (h7 : ∀ j, r' j = den r (τ j)) (h1 : ∀ j, j < n → r j = ρ j) : ∀ (l : List Nat), l.all (fun j => Nat.blt j n && eqA (τ j) (some j, 0)) = true → P → NRc ρ r' P l
  | [], _, p => p
  | j :: l, h, p => by
    rw [List.all_cons, Bool.and_eq_true, Bool.and_eq_true] at h
    have g1 : j < n := Nat.le_of_ble_eq_true h.1.1
    have g2 := eqA_ok h.1.2
    exact ⟨by rw [h7 j, g2, den_s, Int.add_zero, h1 j g1], nrc h7 h1 l h.2 p⟩
set_option maxRecDepth 1000000 in
theorem sx_type {h : AH} {ρ : Nat → Int} {α : Nat → Int → Int} (S : SD bT (gX 999) ρ α h) (H : P_XT [ρ 2, ρ 3, ρ 0, ρ 1] [α 2, α 4, α 7, α 8, α 10, α 11, α 12, α 13]) (a0 : Int32) (a1 : Int32) : Ct mX6_type 12 0 0 [.ref 0, .int a0, .int a1] h (fun v hp' => ∃ z : Int32, v = some (.int z) ∧ hp'.length = (gX 999).length ∧ ∃ ρ' α', SD bT (gX 999) ρ' α' hp' ∧ ρ' 4 = ρ 4 ∧ ρ' 5 = ρ 5 ∧ ρ' 6 = ρ 6 ∧ ρ' 7 = ρ 7 ∧ ρ' 13 = ρ 13 ∧ α' 15 = α 15 ∧ α' 16 = α 16 ∧ α' 19 = α 19 ∧ α' 20 = α 20 ∧ α' 21 = α 21 ∧ α' 23 = α 23 ∧ α' 24 = α 24 ∧ α' 25 = α 25 ∧ α' 32 = α 32 ∧ α' 33 = α 33 ∧ α' 34 = α 34 ∧ α' 41 = α 41 ∧ α' 42 = α 42 ∧ α' 43 = α 43 ∧ α' 44 = α 44 ∧ α' 45 = α 45 ∧ α' 46 = α 46 ∧ P_tyX [z.toInt, a0.toInt, a1.toInt, ρ 0, ρ 1, ρ' 0, ρ' 1] [α 2, α 4, α' 2, α' 4] ∧ P_XT [ρ' 2, ρ' 3, ρ' 0, ρ' 1] [α' 2, α' 4, α' 7, α' 8, α' 10, α' 11, α' 12, α' 13] ∧ True) := by
  refine Ct_weak (sideS (PT := PT0) (c := c_xo_type) (Bs := bT) (g := (gX 999)) (N := mX6_type) (n := 2) rfl (by decide) (k_xo_type hpl_6) rfl rfl rfl (by decide +kernel) S [a0, a1] rfl (fun r hr f hf => by cases List.mem_singleton.mp hf; refine Eq.mpr (hFp_107 _ _) ?_; rw [show PT0 107 = P_XT from rfl]; simp only [List.map_cons, List.map_nil, den_s, Int.add_zero, hr 0 (by decide), hr 1 (by decide), hr 2 (by decide), hr 3 (by decide)]; exact H)) (fun v hp' q => ?_)
  obtain ⟨o, ho, r, a, r', a', h1, h2, h3, h4, h5, h6, h7, h8, h9⟩ := q
  cases List.mem_singleton.mp ho
  obtain ⟨z, rfl, hz⟩ := rO_int h4
  have t62 : a 62 = a' 10 := ((h8 10 (by decide +kernel)).trans (congrArg a (by decide +kernel))).symm
  have t63 : a 63 = a' 11 := ((h8 11 (by decide +kernel)).trans (congrArg a (by decide +kernel))).symm
  have t64 : a 64 = a' 12 := ((h8 12 (by decide +kernel)).trans (congrArg a (by decide +kernel))).symm
  have t65 : a 65 = a' 13 := ((h8 13 (by decide +kernel)).trans (congrArg a (by decide +kernel))).symm
  have t58 : a 58 = a' 2 := ((h8 2 (by decide +kernel)).trans (congrArg a (by decide +kernel))).symm
  have t59 : a 59 = a' 4 := ((h8 4 (by decide +kernel)).trans (congrArg a (by decide +kernel))).symm
  have t60 : a 60 = a' 7 := ((h8 7 (by decide +kernel)).trans (congrArg a (by decide +kernel))).symm
  have t61 : a 61 = a' 8 := ((h8 8 (by decide +kernel)).trans (congrArg a (by decide +kernel))).symm
  have q17 : r 17 = r' 0 := (((h7 0).trans (den_of (m := (some 17, 0)) (by decide +kernel))).trans (Int.add_zero _)).symm
  have q18 : r 18 = r' 1 := (((h7 1).trans (den_of (m := (some 18, 0)) (by decide +kernel))).trans (Int.add_zero _)).symm
  have q19 : r 19 = r' 2 := (((h7 2).trans (den_of (m := (some 19, 0)) (by decide +kernel))).trans (Int.add_zero _)).symm
  have q20 : r 20 = r' 3 := (((h7 3).trans (den_of (m := (some 20, 0)) (by decide +kernel))).trans (Int.add_zero _)).symm
  have q14 : r 14 = a0.toInt := h2 0 (by decide)
  have q15 : r 15 = a1.toInt := h2 1 (by decide)
  have q0 : r 0 = ρ 0 := h1 0 (by decide)
  have q1 : r 1 = ρ 1 := h1 1 (by decide)
  have t2 : a 2 = α 2 := h3 2 (by decide +kernel)
  have t4 : a 4 = α 4 := h3 4 (by decide +kernel)
  have q16 : r 16 = z.toInt := (hz.trans (Int.add_zero _)).symm
  have f0 := h9 _ (List.Mem.head _)
  rw [hFp_108, show PT0 108 = P_tyX from rfl] at f0
  simp only [List.map_cons, List.map_nil, den_s, den_c, Int.add_zero, q0, q1, q14, q15, q16, q17, q18, q19, q20, t2, t4, t58, t59, t60, t61, t62, t63, t64, t65] at f0
  have f1 := h9 _ (List.Mem.tail _ (List.Mem.head _))
  rw [hFp_107, show PT0 107 = P_XT from rfl] at f1
  simp only [List.map_cons, List.map_nil, den_s, den_c, Int.add_zero, q0, q1, q14, q15, q16, q17, q18, q19, q20, t2, t4, t58, t59, t60, t61, t62, t63, t64, t65] at f1
  exact ⟨z, rfl, h5, r', a', h6, nrc h7 h1 [4, 5, 6, 7, 13] (by decide +kernel) (frc h8 h3 [15, 16, 19, 20, 21, 23, 24, 25, 32, 33, 34, 41, 42, 43, 44, 45, 46] (by decide +kernel) ⟨f0, f1, trivial⟩)⟩
set_option maxRecDepth 1000000 in
theorem sy_type {h : AH} {ρ : Nat → Int} {α : Nat → Int → Int} (S : SD bY gY2 ρ α h) (H : P_ly [] [α 1]) (a0 : Int32) (a1 : Int32) : Ct mX7_type 12 0 0 [.ref 0, .int a0, .int a1] h (fun v hp' => ∃ z : Int32, v = some (.int z) ∧ hp'.length = gY2.length ∧ ∃ ρ' α', SD bY gY2 ρ' α' hp' ∧ ρ' 4 = ρ 4 ∧ ρ' 5 = ρ 5 ∧ ρ' 6 = ρ 6 ∧ ρ' 7 = ρ 7 ∧ ρ' 12 = ρ 12 ∧ α' 9 = α 9 ∧ α' 10 = α 10 ∧ α' 11 = α 11 ∧ α' 12 = α 12 ∧ α' 13 = α 13 ∧ α' 14 = α 14 ∧ α' 15 = α 15 ∧ α' 16 = α 16 ∧ α' 26 = α 26 ∧ α' 27 = α 27 ∧ α' 28 = α 28 ∧ α' 30 = α 30 ∧ α' 31 = α 31 ∧ α' 32 = α 32 ∧ α' 33 = α 33 ∧ P_tyY [z.toInt, a0.toInt, a1.toInt] [α 1, α 2, α' 1, α' 2] ∧ True) := by
  refine Ct_weak (sideS (PT := PT0) (c := c_yo_type) (Bs := bY) (g := gY2) (N := mX7_type) (n := 2) rfl (by decide) (k_yo_type hpl_7) rfl rfl rfl (by decide +kernel) S [a0, a1] rfl (fun r _ f hf => by cases List.mem_singleton.mp hf; exact Eq.mpr (hFp_78 [] [1]) H)) (fun v hp' q => ?_)
  obtain ⟨o, ho, r, a, r', a', h1, h2, h3, h4, h5, h6, h7, h8, h9⟩ := q
  cases List.mem_singleton.mp ho
  obtain ⟨z, rfl, hz⟩ := rO_int h4
  have t35 : a 35 = a' 1 := ((h8 1 (by decide +kernel)).trans (congrArg a (by decide +kernel))).symm
  have t36 : a 36 = a' 2 := ((h8 2 (by decide +kernel)).trans (congrArg a (by decide +kernel))).symm
  have q13 : r 13 = a0.toInt := h2 0 (by decide)
  have q14 : r 14 = a1.toInt := h2 1 (by decide)
  have t1 : a 1 = α 1 := h3 1 (by decide +kernel)
  have t2 : a 2 = α 2 := h3 2 (by decide +kernel)
  have q15 : r 15 = z.toInt := (hz.trans (Int.add_zero _)).symm
  have f0 := h9 _ (List.Mem.head _)
  rw [hFp_119, show PT0 119 = P_tyY from rfl] at f0
  simp only [List.map_cons, List.map_nil, den_s, den_c, Int.add_zero, q13, q14, q15, t1, t2, t35, t36] at f0
  exact ⟨z, rfl, h5, r', a', h6, nrc h7 h1 [4, 5, 6, 7, 12] (by decide +kernel) (frc h8 h3 [9, 10, 11, 12, 13, 14, 15, 16, 26, 27, 28, 30, 31, 32, 33] (by decide +kernel) ⟨f0, trivial⟩)⟩
set_option maxRecDepth 1000000 in
theorem sx_wipe {h : AH} {ρ : Nat → Int} {α : Nat → Int → Int} (S : SD bT (gX 999) ρ α h) (H : P_XT [ρ 2, ρ 3, ρ 0, ρ 1] [α 2, α 4, α 7, α 8, α 10, α 11, α 12, α 13]) (a0 : Int32) : Ct mX6_wipe 12 0 0 [.ref 0, .int a0] h (fun v hp' => ∃ z : Int32, v = some (.int z) ∧ hp'.length = (gX 999).length ∧ ∃ ρ' α', SD bT (gX 999) ρ' α' hp' ∧ ρ' 4 = ρ 4 ∧ ρ' 5 = ρ 5 ∧ ρ' 6 = ρ 6 ∧ ρ' 7 = ρ 7 ∧ ρ' 13 = ρ 13 ∧ α' 2 = α 2 ∧ α' 4 = α 4 ∧ α' 15 = α 15 ∧ α' 16 = α 16 ∧ α' 19 = α 19 ∧ α' 20 = α 20 ∧ α' 21 = α 21 ∧ α' 23 = α 23 ∧ α' 24 = α 24 ∧ α' 25 = α 25 ∧ α' 32 = α 32 ∧ α' 33 = α 33 ∧ α' 34 = α 34 ∧ α' 41 = α 41 ∧ α' 42 = α 42 ∧ α' 43 = α 43 ∧ α' 44 = α 44 ∧ α' 45 = α 45 ∧ α' 46 = α 46 ∧ P_wiX [z.toInt, a0.toInt, ρ 0, ρ 1, ρ' 0, ρ' 1] [] ∧ P_XT [ρ' 2, ρ' 3, ρ' 0, ρ' 1] [α 2, α 4, α' 7, α' 8, α' 10, α' 11, α' 12, α' 13] ∧ True) := by
  refine Ct_weak (sideS (PT := PT0) (c := c_xo_wipe) (Bs := bT) (g := (gX 999)) (N := mX6_wipe) (n := 1) rfl (by decide) (k_xo_wipe hpl_6) rfl rfl rfl (by decide +kernel) S [a0] rfl (fun r hr f hf => by cases List.mem_singleton.mp hf; refine Eq.mpr (hFp_107 _ _) ?_; rw [show PT0 107 = P_XT from rfl]; simp only [List.map_cons, List.map_nil, den_s, Int.add_zero, hr 0 (by decide), hr 1 (by decide), hr 2 (by decide), hr 3 (by decide)]; exact H)) (fun v hp' q => ?_)
  obtain ⟨o, ho, r, a, r', a', h1, h2, h3, h4, h5, h6, h7, h8, h9⟩ := q
  cases List.mem_singleton.mp ho
  obtain ⟨z, rfl, hz⟩ := rO_int h4
  have t60 : a 60 = a' 10 := ((h8 10 (by decide +kernel)).trans (congrArg a (by decide +kernel))).symm
  have t61 : a 61 = a' 11 := ((h8 11 (by decide +kernel)).trans (congrArg a (by decide +kernel))).symm
  have t62 : a 62 = a' 12 := ((h8 12 (by decide +kernel)).trans (congrArg a (by decide +kernel))).symm
  have t63 : a 63 = a' 13 := ((h8 13 (by decide +kernel)).trans (congrArg a (by decide +kernel))).symm
  have t58 : a 58 = a' 7 := ((h8 7 (by decide +kernel)).trans (congrArg a (by decide +kernel))).symm
  have t59 : a 59 = a' 8 := ((h8 8 (by decide +kernel)).trans (congrArg a (by decide +kernel))).symm
  have q16 : r 16 = r' 0 := (((h7 0).trans (den_of (m := (some 16, 0)) (by decide +kernel))).trans (Int.add_zero _)).symm
  have q17 : r 17 = r' 1 := (((h7 1).trans (den_of (m := (some 17, 0)) (by decide +kernel))).trans (Int.add_zero _)).symm
  have q18 : r 18 = r' 2 := (((h7 2).trans (den_of (m := (some 18, 0)) (by decide +kernel))).trans (Int.add_zero _)).symm
  have q19 : r 19 = r' 3 := (((h7 3).trans (den_of (m := (some 19, 0)) (by decide +kernel))).trans (Int.add_zero _)).symm
  have q14 : r 14 = a0.toInt := h2 0 (by decide)
  have q0 : r 0 = ρ 0 := h1 0 (by decide)
  have q1 : r 1 = ρ 1 := h1 1 (by decide)
  have t2 : a 2 = α 2 := h3 2 (by decide +kernel)
  have t4 : a 4 = α 4 := h3 4 (by decide +kernel)
  have q15 : r 15 = z.toInt := (hz.trans (Int.add_zero _)).symm
  have f0 := h9 _ (List.Mem.head _)
  rw [hFp_109, show PT0 109 = P_wiX from rfl] at f0
  simp only [List.map_cons, List.map_nil, den_s, den_c, Int.add_zero, q0, q1, q14, q15, q16, q17, q18, q19, t2, t4, t58, t59, t60, t61, t62, t63] at f0
  have f1 := h9 _ (List.Mem.tail _ (List.Mem.head _))
  rw [hFp_107, show PT0 107 = P_XT from rfl] at f1
  simp only [List.map_cons, List.map_nil, den_s, den_c, Int.add_zero, q0, q1, q14, q15, q16, q17, q18, q19, t2, t4, t58, t59, t60, t61, t62, t63] at f1
  exact ⟨z, rfl, h5, r', a', h6, nrc h7 h1 [4, 5, 6, 7, 13] (by decide +kernel) (frc h8 h3 [2, 4, 15, 16, 19, 20, 21, 23, 24, 25, 32, 33, 34, 41, 42, 43, 44, 45, 46] (by decide +kernel) ⟨f0, f1, trivial⟩)⟩
set_option maxRecDepth 1000000 in
theorem sy_wipe {h : AH} {ρ : Nat → Int} {α : Nat → Int → Int} (S : SD bY gY2 ρ α h) (H : P_ly [] [α 1]) (a0 : Int32) : Ct mX7_wipe 12 0 0 [.ref 0, .int a0] h (fun v hp' => ∃ z : Int32, v = some (.int z) ∧ hp'.length = gY2.length ∧ ∃ ρ' α', SD bY gY2 ρ' α' hp' ∧ ρ' 4 = ρ 4 ∧ ρ' 5 = ρ 5 ∧ ρ' 6 = ρ 6 ∧ ρ' 7 = ρ 7 ∧ ρ' 12 = ρ 12 ∧ α' 2 = α 2 ∧ α' 9 = α 9 ∧ α' 10 = α 10 ∧ α' 11 = α 11 ∧ α' 12 = α 12 ∧ α' 13 = α 13 ∧ α' 14 = α 14 ∧ α' 15 = α 15 ∧ α' 16 = α 16 ∧ α' 26 = α 26 ∧ α' 27 = α 27 ∧ α' 28 = α 28 ∧ α' 30 = α 30 ∧ α' 31 = α 31 ∧ α' 32 = α 32 ∧ α' 33 = α 33 ∧ P_wiY [z.toInt, a0.toInt] [α 1, α' 1] ∧ True) := by
  refine Ct_weak (sideS (PT := PT0) (c := c_yo_wipe) (Bs := bY) (g := gY2) (N := mX7_wipe) (n := 1) rfl (by decide) (k_yo_wipe hpl_7) rfl rfl rfl (by decide +kernel) S [a0] rfl (fun _ _ f hf => absurd hf List.not_mem_nil)) (fun v hp' q => ?_)
  obtain ⟨o, ho, r, a, r', a', h1, h2, h3, h4, h5, h6, h7, h8, h9⟩ := q
  cases List.mem_singleton.mp ho
  obtain ⟨z, rfl, hz⟩ := rO_int h4
  have t35 : a 35 = a' 1 := ((h8 1 (by decide +kernel)).trans (congrArg a (by decide +kernel))).symm
  have q13 : r 13 = a0.toInt := h2 0 (by decide)
  have t1 : a 1 = α 1 := h3 1 (by decide +kernel)
  have q14 : r 14 = z.toInt := (hz.trans (Int.add_zero _)).symm
  have f0 := h9 _ (List.Mem.head _)
  rw [hFp_120, show PT0 120 = P_wiY from rfl] at f0
  simp only [List.map_cons, List.map_nil, den_s, den_c, Int.add_zero, q13, q14, t1, t35] at f0
  exact ⟨z, rfl, h5, r', a', h6, nrc h7 h1 [4, 5, 6, 7, 12] (by decide +kernel) (frc h8 h3 [2, 9, 10, 11, 12, 13, 14, 15, 16, 26, 27, 28, 30, 31, 32, 33] (by decide +kernel) ⟨f0, trivial⟩)⟩
set_option maxRecDepth 1000000 in
theorem sx_undo {h : AH} {ρ : Nat → Int} {α : Nat → Int → Int} (S : SD bT (gX 999) ρ α h) (H : P_XT [ρ 2, ρ 3, ρ 0, ρ 1] [α 2, α 4, α 7, α 8, α 10, α 11, α 12, α 13]) (a0 : Int32) : Ct mX6_undo 12 0 0 [.ref 0, .int a0] h (fun v hp' => ∃ z : Int32, v = some (.int z) ∧ hp'.length = (gX 999).length ∧ ∃ ρ' α', SD bT (gX 999) ρ' α' hp' ∧ ρ' 4 = ρ 4 ∧ ρ' 5 = ρ 5 ∧ ρ' 6 = ρ 6 ∧ ρ' 7 = ρ 7 ∧ ρ' 13 = ρ 13 ∧ α' 2 = α 2 ∧ α' 4 = α 4 ∧ α' 15 = α 15 ∧ α' 16 = α 16 ∧ α' 19 = α 19 ∧ α' 20 = α 20 ∧ α' 21 = α 21 ∧ α' 23 = α 23 ∧ α' 24 = α 24 ∧ α' 25 = α 25 ∧ α' 32 = α 32 ∧ α' 33 = α 33 ∧ α' 34 = α 34 ∧ α' 41 = α 41 ∧ α' 42 = α 42 ∧ α' 43 = α 43 ∧ α' 44 = α 44 ∧ α' 45 = α 45 ∧ α' 46 = α 46 ∧ P_unX [z.toInt, a0.toInt, ρ 0, ρ 1, ρ' 0, ρ' 1] [] ∧ P_XT [ρ' 2, ρ' 3, ρ' 0, ρ' 1] [α 2, α 4, α' 7, α' 8, α' 10, α' 11, α' 12, α' 13] ∧ True) := by
  refine Ct_weak (sideS (PT := PT0) (c := c_xo_undo) (Bs := bT) (g := (gX 999)) (N := mX6_undo) (n := 1) rfl (by decide) (k_xo_undo hpl_6) rfl rfl rfl (by decide +kernel) S [a0] rfl (fun r hr f hf => by cases List.mem_singleton.mp hf; refine Eq.mpr (hFp_107 _ _) ?_; rw [show PT0 107 = P_XT from rfl]; simp only [List.map_cons, List.map_nil, den_s, Int.add_zero, hr 0 (by decide), hr 1 (by decide), hr 2 (by decide), hr 3 (by decide)]; exact H)) (fun v hp' q => ?_)
  obtain ⟨o, ho, r, a, r', a', h1, h2, h3, h4, h5, h6, h7, h8, h9⟩ := q
  cases List.mem_singleton.mp ho
  obtain ⟨z, rfl, hz⟩ := rO_int h4
  have t60 : a 60 = a' 10 := ((h8 10 (by decide +kernel)).trans (congrArg a (by decide +kernel))).symm
  have t61 : a 61 = a' 11 := ((h8 11 (by decide +kernel)).trans (congrArg a (by decide +kernel))).symm
  have t62 : a 62 = a' 12 := ((h8 12 (by decide +kernel)).trans (congrArg a (by decide +kernel))).symm
  have t63 : a 63 = a' 13 := ((h8 13 (by decide +kernel)).trans (congrArg a (by decide +kernel))).symm
  have t58 : a 58 = a' 7 := ((h8 7 (by decide +kernel)).trans (congrArg a (by decide +kernel))).symm
  have t59 : a 59 = a' 8 := ((h8 8 (by decide +kernel)).trans (congrArg a (by decide +kernel))).symm
  have q16 : r 16 = r' 0 := (((h7 0).trans (den_of (m := (some 16, 0)) (by decide +kernel))).trans (Int.add_zero _)).symm
  have q17 : r 17 = r' 1 := (((h7 1).trans (den_of (m := (some 17, 0)) (by decide +kernel))).trans (Int.add_zero _)).symm
  have q18 : r 18 = r' 2 := (((h7 2).trans (den_of (m := (some 18, 0)) (by decide +kernel))).trans (Int.add_zero _)).symm
  have q19 : r 19 = r' 3 := (((h7 3).trans (den_of (m := (some 19, 0)) (by decide +kernel))).trans (Int.add_zero _)).symm
  have q14 : r 14 = a0.toInt := h2 0 (by decide)
  have q0 : r 0 = ρ 0 := h1 0 (by decide)
  have q1 : r 1 = ρ 1 := h1 1 (by decide)
  have t2 : a 2 = α 2 := h3 2 (by decide +kernel)
  have t4 : a 4 = α 4 := h3 4 (by decide +kernel)
  have q15 : r 15 = z.toInt := (hz.trans (Int.add_zero _)).symm
  have f0 := h9 _ (List.Mem.head _)
  rw [hFp_110, show PT0 110 = P_unX from rfl] at f0
  simp only [List.map_cons, List.map_nil, den_s, den_c, Int.add_zero, q0, q1, q14, q15, q16, q17, q18, q19, t2, t4, t58, t59, t60, t61, t62, t63] at f0
  have f1 := h9 _ (List.Mem.tail _ (List.Mem.head _))
  rw [hFp_107, show PT0 107 = P_XT from rfl] at f1
  simp only [List.map_cons, List.map_nil, den_s, den_c, Int.add_zero, q0, q1, q14, q15, q16, q17, q18, q19, t2, t4, t58, t59, t60, t61, t62, t63] at f1
  exact ⟨z, rfl, h5, r', a', h6, nrc h7 h1 [4, 5, 6, 7, 13] (by decide +kernel) (frc h8 h3 [2, 4, 15, 16, 19, 20, 21, 23, 24, 25, 32, 33, 34, 41, 42, 43, 44, 45, 46] (by decide +kernel) ⟨f0, f1, trivial⟩)⟩
set_option maxRecDepth 1000000 in
theorem sy_undo {h : AH} {ρ : Nat → Int} {α : Nat → Int → Int} (S : SD bY gY2 ρ α h) (H : P_ly [] [α 1]) (a0 : Int32) : Ct mX7_undo 12 0 0 [.ref 0, .int a0] h (fun v hp' => ∃ z : Int32, v = some (.int z) ∧ hp'.length = gY2.length ∧ ∃ ρ' α', SD bY gY2 ρ' α' hp' ∧ ρ' 4 = ρ 4 ∧ ρ' 5 = ρ 5 ∧ ρ' 6 = ρ 6 ∧ ρ' 7 = ρ 7 ∧ ρ' 12 = ρ 12 ∧ α' 2 = α 2 ∧ α' 9 = α 9 ∧ α' 10 = α 10 ∧ α' 11 = α 11 ∧ α' 12 = α 12 ∧ α' 13 = α 13 ∧ α' 14 = α 14 ∧ α' 15 = α 15 ∧ α' 16 = α 16 ∧ α' 26 = α 26 ∧ α' 27 = α 27 ∧ α' 28 = α 28 ∧ α' 30 = α 30 ∧ α' 31 = α 31 ∧ α' 32 = α 32 ∧ α' 33 = α 33 ∧ P_unY [z.toInt, a0.toInt] [α 1, α' 1] ∧ True) := by
  refine Ct_weak (sideS (PT := PT0) (c := c_yo_undo) (Bs := bY) (g := gY2) (N := mX7_undo) (n := 1) rfl (by decide) (k_yo_undo hpl_7) rfl rfl rfl (by decide +kernel) S [a0] rfl (fun _ _ f hf => absurd hf List.not_mem_nil)) (fun v hp' q => ?_)
  obtain ⟨o, ho, r, a, r', a', h1, h2, h3, h4, h5, h6, h7, h8, h9⟩ := q
  cases List.mem_singleton.mp ho
  obtain ⟨z, rfl, hz⟩ := rO_int h4
  have t35 : a 35 = a' 1 := ((h8 1 (by decide +kernel)).trans (congrArg a (by decide +kernel))).symm
  have q13 : r 13 = a0.toInt := h2 0 (by decide)
  have t1 : a 1 = α 1 := h3 1 (by decide +kernel)
  have q14 : r 14 = z.toInt := (hz.trans (Int.add_zero _)).symm
  have f0 := h9 _ (List.Mem.head _)
  rw [hFp_121, show PT0 121 = P_unY from rfl] at f0
  simp only [List.map_cons, List.map_nil, den_s, den_c, Int.add_zero, q13, q14, t1, t35] at f0
  exact ⟨z, rfl, h5, r', a', h6, nrc h7 h1 [4, 5, 6, 7, 12] (by decide +kernel) (frc h8 h3 [2, 9, 10, 11, 12, 13, 14, 15, 16, 26, 27, 28, 30, 31, 32, 33] (by decide +kernel) ⟨f0, trivial⟩)⟩
set_option maxRecDepth 1000000 in
theorem sx_fault {h : AH} {ρ : Nat → Int} {α : Nat → Int → Int} (S : SD bT (gX 999) ρ α h) (H : True) (a0 : Int32) : Ct mX6_fault 12 0 0 [.ref 0, .int a0] h (fun v hp' => ∃ z : Int32, v = some (.int z) ∧ hp'.length = (gX 999).length ∧ ∃ ρ' α', SD bT (gX 999) ρ' α' hp' ∧ ρ' 0 = ρ 0 ∧ ρ' 1 = ρ 1 ∧ ρ' 2 = ρ 2 ∧ ρ' 3 = ρ 3 ∧ ρ' 4 = ρ 4 ∧ ρ' 5 = ρ 5 ∧ ρ' 6 = ρ 6 ∧ ρ' 7 = ρ 7 ∧ ρ' 13 = ρ 13 ∧ α' 2 = α 2 ∧ α' 4 = α 4 ∧ α' 7 = α 7 ∧ α' 8 = α 8 ∧ α' 10 = α 10 ∧ α' 11 = α 11 ∧ α' 12 = α 12 ∧ α' 13 = α 13 ∧ α' 15 = α 15 ∧ α' 16 = α 16 ∧ α' 19 = α 19 ∧ α' 20 = α 20 ∧ α' 21 = α 21 ∧ α' 23 = α 23 ∧ α' 24 = α 24 ∧ α' 25 = α 25 ∧ α' 32 = α 32 ∧ α' 33 = α 33 ∧ α' 34 = α 34 ∧ α' 41 = α 41 ∧ α' 42 = α 42 ∧ α' 43 = α 43 ∧ α' 44 = α 44 ∧ α' 45 = α 45 ∧ α' 46 = α 46 ∧ True) := by
  refine Ct_weak (sideS (PT := PT0) (c := c_xo_fault) (Bs := bT) (g := (gX 999)) (N := mX6_fault) (n := 1) rfl (by decide) (k_xo_fault hpl_6) rfl rfl rfl (by decide +kernel) S [a0] rfl (fun _ _ f hf => absurd hf List.not_mem_nil)) (fun v hp' q => ?_)
  obtain ⟨o, ho, r, a, r', a', h1, h2, h3, h4, h5, h6, h7, h8, h9⟩ := q
  cases List.mem_singleton.mp ho
  obtain ⟨z, rfl, hz⟩ := rO_int h4
  exact ⟨z, rfl, h5, r', a', h6, nrc h7 h1 [0, 1, 2, 3, 4, 5, 6, 7, 13] (by decide +kernel) (frc h8 h3 [2, 4, 7, 8, 10, 11, 12, 13, 15, 16, 19, 20, 21, 23, 24, 25, 32, 33, 34, 41, 42, 43, 44, 45, 46] (by decide +kernel) trivial)⟩
set_option maxRecDepth 1000000 in
theorem sy_fault {h : AH} {ρ : Nat → Int} {α : Nat → Int → Int} (S : SD bY gY2 ρ α h) (H : P_ly [] [α 1]) (a0 : Int32) : Ct mX7_fault 12 0 0 [.ref 0, .int a0] h (fun v hp' => ∃ z : Int32, v = some (.int z) ∧ hp'.length = gY2.length ∧ ∃ ρ' α', SD bY gY2 ρ' α' hp' ∧ ρ' 4 = ρ 4 ∧ ρ' 5 = ρ 5 ∧ ρ' 6 = ρ 6 ∧ ρ' 7 = ρ 7 ∧ ρ' 12 = ρ 12 ∧ α' 1 = α 1 ∧ α' 2 = α 2 ∧ α' 9 = α 9 ∧ α' 10 = α 10 ∧ α' 11 = α 11 ∧ α' 12 = α 12 ∧ α' 13 = α 13 ∧ α' 14 = α 14 ∧ α' 15 = α 15 ∧ α' 16 = α 16 ∧ α' 26 = α 26 ∧ α' 27 = α 27 ∧ α' 28 = α 28 ∧ α' 30 = α 30 ∧ α' 31 = α 31 ∧ α' 32 = α 32 ∧ α' 33 = α 33 ∧ True) := by
  refine Ct_weak (sideS (PT := PT0) (c := c_yo_fault) (Bs := bY) (g := gY2) (N := mX7_fault) (n := 1) rfl (by decide) (k_yo_fault hpl_7) rfl rfl rfl (by decide +kernel) S [a0] rfl (fun r _ f hf => by cases List.mem_singleton.mp hf; exact Eq.mpr (hFp_78 [] [1]) H)) (fun v hp' q => ?_)
  obtain ⟨o, ho, r, a, r', a', h1, h2, h3, h4, h5, h6, h7, h8, h9⟩ := q
  cases List.mem_singleton.mp ho
  obtain ⟨z, rfl, hz⟩ := rO_int h4
  exact ⟨z, rfl, h5, r', a', h6, nrc h7 h1 [4, 5, 6, 7, 12] (by decide +kernel) (frc h8 h3 [1, 2, 9, 10, 11, 12, 13, 14, 15, 16, 26, 27, 28, 30, 31, 32, 33] (by decide +kernel) trivial)⟩
set_option maxRecDepth 1000000 in
theorem sx_person {h : AH} {ρ : Nat → Int} {α : Nat → Int → Int} (S : SD bT (gX 999) ρ α h) (H : True) (a0 : Int32) (a1 : Int32) : Ct mX6_person 12 0 0 [.ref 0, .int a0, .int a1] h (fun v hp' => ∃ z : Int32, v = some (.int z) ∧ hp'.length = (gX 999).length ∧ ∃ ρ' α', SD bT (gX 999) ρ' α' hp' ∧ ρ' 0 = ρ 0 ∧ ρ' 1 = ρ 1 ∧ ρ' 2 = ρ 2 ∧ ρ' 3 = ρ 3 ∧ ρ' 4 = ρ 4 ∧ ρ' 5 = ρ 5 ∧ ρ' 6 = ρ 6 ∧ ρ' 7 = ρ 7 ∧ ρ' 13 = ρ 13 ∧ α' 2 = α 2 ∧ α' 4 = α 4 ∧ α' 7 = α 7 ∧ α' 8 = α 8 ∧ α' 10 = α 10 ∧ α' 11 = α 11 ∧ α' 12 = α 12 ∧ α' 13 = α 13 ∧ α' 15 = α 15 ∧ α' 16 = α 16 ∧ α' 19 = α 19 ∧ α' 20 = α 20 ∧ α' 21 = α 21 ∧ α' 23 = α 23 ∧ α' 24 = α 24 ∧ α' 25 = α 25 ∧ α' 32 = α 32 ∧ α' 33 = α 33 ∧ α' 34 = α 34 ∧ α' 41 = α 41 ∧ α' 42 = α 42 ∧ α' 43 = α 43 ∧ α' 44 = α 44 ∧ α' 45 = α 45 ∧ α' 46 = α 46 ∧ True) := by
  refine Ct_weak (sideS (PT := PT0) (c := c_xo_person) (Bs := bT) (g := (gX 999)) (N := mX6_person) (n := 2) rfl (by decide) (k_xo_person hpl_6) rfl rfl rfl (by decide +kernel) S [a0, a1] rfl (fun _ _ f hf => absurd hf List.not_mem_nil)) (fun v hp' q => ?_)
  obtain ⟨o, ho, r, a, r', a', h1, h2, h3, h4, h5, h6, h7, h8, h9⟩ := q
  cases List.mem_singleton.mp ho
  obtain ⟨z, rfl, hz⟩ := rO_int h4
  exact ⟨z, rfl, h5, r', a', h6, nrc h7 h1 [0, 1, 2, 3, 4, 5, 6, 7, 13] (by decide +kernel) (frc h8 h3 [2, 4, 7, 8, 10, 11, 12, 13, 15, 16, 19, 20, 21, 23, 24, 25, 32, 33, 34, 41, 42, 43, 44, 45, 46] (by decide +kernel) trivial)⟩
set_option maxRecDepth 1000000 in
theorem sy_person {h : AH} {ρ : Nat → Int} {α : Nat → Int → Int} (S : SD bY gY2 ρ α h) (H : P_ly [] [α 1]) (a0 : Int32) (a1 : Int32) : Ct mX7_person 12 0 0 [.ref 0, .int a0, .int a1] h (fun v hp' => ∃ z : Int32, v = some (.int z) ∧ hp'.length = gY2.length ∧ ∃ ρ' α', SD bY gY2 ρ' α' hp' ∧ ρ' 4 = ρ 4 ∧ ρ' 5 = ρ 5 ∧ ρ' 6 = ρ 6 ∧ ρ' 7 = ρ 7 ∧ ρ' 12 = ρ 12 ∧ α' 1 = α 1 ∧ α' 2 = α 2 ∧ α' 9 = α 9 ∧ α' 10 = α 10 ∧ α' 11 = α 11 ∧ α' 12 = α 12 ∧ α' 13 = α 13 ∧ α' 14 = α 14 ∧ α' 15 = α 15 ∧ α' 16 = α 16 ∧ α' 26 = α 26 ∧ α' 27 = α 27 ∧ α' 28 = α 28 ∧ α' 30 = α 30 ∧ α' 31 = α 31 ∧ α' 32 = α 32 ∧ α' 33 = α 33 ∧ True) := by
  refine Ct_weak (sideS (PT := PT0) (c := c_yo_person) (Bs := bY) (g := gY2) (N := mX7_person) (n := 2) rfl (by decide) (k_yo_person hpl_7) rfl rfl rfl (by decide +kernel) S [a0, a1] rfl (fun r _ f hf => by cases List.mem_singleton.mp hf; exact Eq.mpr (hFp_78 [] [1]) H)) (fun v hp' q => ?_)
  obtain ⟨o, ho, r, a, r', a', h1, h2, h3, h4, h5, h6, h7, h8, h9⟩ := q
  cases List.mem_singleton.mp ho
  obtain ⟨z, rfl, hz⟩ := rO_int h4
  exact ⟨z, rfl, h5, r', a', h6, nrc h7 h1 [4, 5, 6, 7, 12] (by decide +kernel) (frc h8 h3 [1, 2, 9, 10, 11, 12, 13, 14, 15, 16, 26, 27, 28, 30, 31, 32, 33] (by decide +kernel) trivial)⟩
set_option maxRecDepth 1000000 in
theorem sx_promise {h : AH} {ρ : Nat → Int} {α : Nat → Int → Int} (S : SD bT (gX 999) ρ α h) (H : True) (a0 : Int32) (a1 : Int32) : Ct mX6_promise 12 0 0 [.ref 0, .int a0, .int a1] h (fun v hp' => ∃ z : Int32, v = some (.int z) ∧ hp'.length = (gX 999).length ∧ ∃ ρ' α', SD bT (gX 999) ρ' α' hp' ∧ ρ' 0 = ρ 0 ∧ ρ' 1 = ρ 1 ∧ ρ' 2 = ρ 2 ∧ ρ' 3 = ρ 3 ∧ ρ' 4 = ρ 4 ∧ ρ' 5 = ρ 5 ∧ ρ' 6 = ρ 6 ∧ ρ' 7 = ρ 7 ∧ ρ' 13 = ρ 13 ∧ α' 2 = α 2 ∧ α' 4 = α 4 ∧ α' 7 = α 7 ∧ α' 8 = α 8 ∧ α' 10 = α 10 ∧ α' 11 = α 11 ∧ α' 12 = α 12 ∧ α' 13 = α 13 ∧ α' 15 = α 15 ∧ α' 16 = α 16 ∧ α' 19 = α 19 ∧ α' 20 = α 20 ∧ α' 21 = α 21 ∧ α' 23 = α 23 ∧ α' 24 = α 24 ∧ α' 25 = α 25 ∧ α' 32 = α 32 ∧ α' 33 = α 33 ∧ α' 34 = α 34 ∧ α' 41 = α 41 ∧ α' 42 = α 42 ∧ α' 43 = α 43 ∧ α' 44 = α 44 ∧ α' 45 = α 45 ∧ α' 46 = α 46 ∧ True) := by
  refine Ct_weak (sideS (PT := PT0) (c := c_xo_promise) (Bs := bT) (g := (gX 999)) (N := mX6_promise) (n := 2) rfl (by decide) (k_xo_promise hpl_6) rfl rfl rfl (by decide +kernel) S [a0, a1] rfl (fun _ _ f hf => absurd hf List.not_mem_nil)) (fun v hp' q => ?_)
  obtain ⟨o, ho, r, a, r', a', h1, h2, h3, h4, h5, h6, h7, h8, h9⟩ := q
  cases List.mem_singleton.mp ho
  obtain ⟨z, rfl, hz⟩ := rO_int h4
  exact ⟨z, rfl, h5, r', a', h6, nrc h7 h1 [0, 1, 2, 3, 4, 5, 6, 7, 13] (by decide +kernel) (frc h8 h3 [2, 4, 7, 8, 10, 11, 12, 13, 15, 16, 19, 20, 21, 23, 24, 25, 32, 33, 34, 41, 42, 43, 44, 45, 46] (by decide +kernel) trivial)⟩
set_option maxRecDepth 1000000 in
theorem sy_promise {h : AH} {ρ : Nat → Int} {α : Nat → Int → Int} (S : SD bY gY2 ρ α h) (H : P_ly [] [α 1]) (a0 : Int32) (a1 : Int32) : Ct mX7_promise 12 0 0 [.ref 0, .int a0, .int a1] h (fun v hp' => ∃ z : Int32, v = some (.int z) ∧ hp'.length = gY2.length ∧ ∃ ρ' α', SD bY gY2 ρ' α' hp' ∧ ρ' 4 = ρ 4 ∧ ρ' 5 = ρ 5 ∧ ρ' 6 = ρ 6 ∧ ρ' 7 = ρ 7 ∧ ρ' 12 = ρ 12 ∧ α' 1 = α 1 ∧ α' 2 = α 2 ∧ α' 9 = α 9 ∧ α' 10 = α 10 ∧ α' 11 = α 11 ∧ α' 12 = α 12 ∧ α' 13 = α 13 ∧ α' 14 = α 14 ∧ α' 15 = α 15 ∧ α' 16 = α 16 ∧ α' 26 = α 26 ∧ α' 27 = α 27 ∧ α' 28 = α 28 ∧ α' 30 = α 30 ∧ α' 31 = α 31 ∧ α' 32 = α 32 ∧ α' 33 = α 33 ∧ True) := by
  refine Ct_weak (sideS (PT := PT0) (c := c_yo_promise) (Bs := bY) (g := gY2) (N := mX7_promise) (n := 2) rfl (by decide) (k_yo_promise hpl_7) rfl rfl rfl (by decide +kernel) S [a0, a1] rfl (fun r _ f hf => by cases List.mem_singleton.mp hf; exact Eq.mpr (hFp_78 [] [1]) H)) (fun v hp' q => ?_)
  obtain ⟨o, ho, r, a, r', a', h1, h2, h3, h4, h5, h6, h7, h8, h9⟩ := q
  cases List.mem_singleton.mp ho
  obtain ⟨z, rfl, hz⟩ := rO_int h4
  exact ⟨z, rfl, h5, r', a', h6, nrc h7 h1 [4, 5, 6, 7, 12] (by decide +kernel) (frc h8 h3 [1, 2, 9, 10, 11, 12, 13, 14, 15, 16, 26, 27, 28, 30, 31, 32, 33] (by decide +kernel) trivial)⟩
set_option maxRecDepth 1000000 in
theorem sx_keeping {h : AH} {ρ : Nat → Int} {α : Nat → Int → Int} (S : SD bT (gX 999) ρ α h) (H : True) (a0 : Int32) (a1 : Int32) : Ct mX6_keeping 12 0 0 [.ref 0, .int a0, .int a1] h (fun v hp' => ∃ z : Int32, v = some (.int z) ∧ hp'.length = (gX 999).length ∧ ∃ ρ' α', SD bT (gX 999) ρ' α' hp' ∧ ρ' 0 = ρ 0 ∧ ρ' 1 = ρ 1 ∧ ρ' 2 = ρ 2 ∧ ρ' 3 = ρ 3 ∧ ρ' 5 = ρ 5 ∧ ρ' 6 = ρ 6 ∧ ρ' 7 = ρ 7 ∧ ρ' 13 = ρ 13 ∧ α' 2 = α 2 ∧ α' 4 = α 4 ∧ α' 7 = α 7 ∧ α' 8 = α 8 ∧ α' 10 = α 10 ∧ α' 11 = α 11 ∧ α' 12 = α 12 ∧ α' 13 = α 13 ∧ α' 19 = α 19 ∧ α' 20 = α 20 ∧ α' 21 = α 21 ∧ α' 23 = α 23 ∧ α' 24 = α 24 ∧ α' 25 = α 25 ∧ α' 32 = α 32 ∧ α' 33 = α 33 ∧ α' 34 = α 34 ∧ α' 41 = α 41 ∧ α' 42 = α 42 ∧ α' 43 = α 43 ∧ α' 44 = α 44 ∧ α' 45 = α 45 ∧ α' 46 = α 46 ∧ P_kgA [z.toInt, a0.toInt, a1.toInt, ρ 4, ρ' 4] [α 15, α 16, α' 15, α' 16] ∧ True) := by
  refine Ct_weak (sideS (PT := PT0) (c := c_xo_keeping) (Bs := bT) (g := (gX 999)) (N := mX6_keeping) (n := 2) rfl (by decide) (k_xo_keeping hpl_6) rfl rfl rfl (by decide +kernel) S [a0, a1] rfl (fun _ _ f hf => absurd hf List.not_mem_nil)) (fun v hp' q => ?_)
  obtain ⟨o, ho, r, a, r', a', h1, h2, h3, h4, h5, h6, h7, h8, h9⟩ := q
  cases List.mem_singleton.mp ho
  obtain ⟨z, rfl, hz⟩ := rO_int h4
  have t58 : a 58 = a' 15 := ((h8 15 (by decide +kernel)).trans (congrArg a (by decide +kernel))).symm
  have t59 : a 59 = a' 16 := ((h8 16 (by decide +kernel)).trans (congrArg a (by decide +kernel))).symm
  have q17 : r 17 = r' 4 := (((h7 4).trans (den_of (m := (some 17, 0)) (by decide +kernel))).trans (Int.add_zero _)).symm
  have q14 : r 14 = a0.toInt := h2 0 (by decide)
  have q15 : r 15 = a1.toInt := h2 1 (by decide)
  have q4 : r 4 = ρ 4 := h1 4 (by decide)
  have t15 : a 15 = α 15 := h3 15 (by decide +kernel)
  have t16 : a 16 = α 16 := h3 16 (by decide +kernel)
  have q16 : r 16 = z.toInt := (hz.trans (Int.add_zero _)).symm
  have f0 := h9 _ (List.Mem.head _)
  rw [hFp_114, show PT0 114 = P_kgA from rfl] at f0
  simp only [List.map_cons, List.map_nil, den_s, den_c, Int.add_zero, q14, q15, q16, q17, q4, t15, t16, t58, t59] at f0
  exact ⟨z, rfl, h5, r', a', h6, nrc h7 h1 [0, 1, 2, 3, 5, 6, 7, 13] (by decide +kernel) (frc h8 h3 [2, 4, 7, 8, 10, 11, 12, 13, 19, 20, 21, 23, 24, 25, 32, 33, 34, 41, 42, 43, 44, 45, 46] (by decide +kernel) ⟨f0, trivial⟩)⟩
set_option maxRecDepth 1000000 in
theorem sy_keeping {h : AH} {ρ : Nat → Int} {α : Nat → Int → Int} (S : SD bY gY2 ρ α h) (H : P_ly [] [α 1]) (a0 : Int32) (a1 : Int32) : Ct mX7_keeping 12 0 0 [.ref 0, .int a0, .int a1] h (fun v hp' => ∃ z : Int32, v = some (.int z) ∧ hp'.length = gY2.length ∧ ∃ ρ' α', SD bY gY2 ρ' α' hp' ∧ ρ' 5 = ρ 5 ∧ ρ' 6 = ρ 6 ∧ ρ' 7 = ρ 7 ∧ ρ' 12 = ρ 12 ∧ α' 1 = α 1 ∧ α' 2 = α 2 ∧ α' 11 = α 11 ∧ α' 12 = α 12 ∧ α' 13 = α 13 ∧ α' 14 = α 14 ∧ α' 15 = α 15 ∧ α' 16 = α 16 ∧ α' 26 = α 26 ∧ α' 27 = α 27 ∧ α' 28 = α 28 ∧ α' 30 = α 30 ∧ α' 31 = α 31 ∧ α' 32 = α 32 ∧ α' 33 = α 33 ∧ P_kgA [z.toInt, a0.toInt, a1.toInt, ρ 4, ρ' 4] [α 9, α 10, α' 9, α' 10] ∧ True) := by
  refine Ct_weak (sideS (PT := PT0) (c := c_yo_keeping) (Bs := bY) (g := gY2) (N := mX7_keeping) (n := 2) rfl (by decide) (k_yo_keeping hpl_7) rfl rfl rfl (by decide +kernel) S [a0, a1] rfl (fun _ _ f hf => absurd hf List.not_mem_nil)) (fun v hp' q => ?_)
  obtain ⟨o, ho, r, a, r', a', h1, h2, h3, h4, h5, h6, h7, h8, h9⟩ := q
  cases List.mem_singleton.mp ho
  obtain ⟨z, rfl, hz⟩ := rO_int h4
  have t36 : a 36 = a' 10 := ((h8 10 (by decide +kernel)).trans (congrArg a (by decide +kernel))).symm
  have t35 : a 35 = a' 9 := ((h8 9 (by decide +kernel)).trans (congrArg a (by decide +kernel))).symm
  have q16 : r 16 = r' 4 := (((h7 4).trans (den_of (m := (some 16, 0)) (by decide +kernel))).trans (Int.add_zero _)).symm
  have q13 : r 13 = a0.toInt := h2 0 (by decide)
  have q14 : r 14 = a1.toInt := h2 1 (by decide)
  have q4 : r 4 = ρ 4 := h1 4 (by decide)
  have t10 : a 10 = α 10 := h3 10 (by decide +kernel)
  have t9 : a 9 = α 9 := h3 9 (by decide +kernel)
  have q15 : r 15 = z.toInt := (hz.trans (Int.add_zero _)).symm
  have f0 := h9 _ (List.Mem.head _)
  rw [hFp_114, show PT0 114 = P_kgA from rfl] at f0
  simp only [List.map_cons, List.map_nil, den_s, den_c, Int.add_zero, q13, q14, q15, q16, q4, t10, t35, t36, t9] at f0
  exact ⟨z, rfl, h5, r', a', h6, nrc h7 h1 [5, 6, 7, 12] (by decide +kernel) (frc h8 h3 [1, 2, 11, 12, 13, 14, 15, 16, 26, 27, 28, 30, 31, 32, 33] (by decide +kernel) ⟨f0, trivial⟩)⟩
set_option maxRecDepth 1000000 in
theorem sx_lie {h : AH} {ρ : Nat → Int} {α : Nat → Int → Int} (S : SD bT (gX 999) ρ α h) (H : True) (a0 : Int32) (a1 : Int32) (a2 : Int32) : Ct mX6_lie 12 0 0 [.ref 0, .int a0, .int a1, .int a2] h (fun v hp' => ∃ z : Int32, v = some (.int z) ∧ hp'.length = (gX 999).length ∧ ∃ ρ' α', SD bT (gX 999) ρ' α' hp' ∧ ρ' 0 = ρ 0 ∧ ρ' 1 = ρ 1 ∧ ρ' 2 = ρ 2 ∧ ρ' 3 = ρ 3 ∧ ρ' 4 = ρ 4 ∧ ρ' 6 = ρ 6 ∧ ρ' 7 = ρ 7 ∧ ρ' 13 = ρ 13 ∧ α' 2 = α 2 ∧ α' 4 = α 4 ∧ α' 7 = α 7 ∧ α' 8 = α 8 ∧ α' 10 = α 10 ∧ α' 11 = α 11 ∧ α' 12 = α 12 ∧ α' 13 = α 13 ∧ α' 15 = α 15 ∧ α' 16 = α 16 ∧ α' 23 = α 23 ∧ α' 24 = α 24 ∧ α' 25 = α 25 ∧ α' 32 = α 32 ∧ α' 33 = α 33 ∧ α' 34 = α 34 ∧ α' 41 = α 41 ∧ α' 42 = α 42 ∧ α' 43 = α 43 ∧ α' 44 = α 44 ∧ α' 45 = α 45 ∧ α' 46 = α 46 ∧ P_tlA [z.toInt, a0.toInt, a1.toInt, a2.toInt, ρ 5, ρ' 5] [α 19, α 20, α 21, α' 19, α' 20, α' 21] ∧ True) := by
  refine Ct_weak (sideS (PT := PT0) (c := c_xo_lie) (Bs := bT) (g := (gX 999)) (N := mX6_lie) (n := 3) rfl (by decide) (k_xo_lie hpl_6) rfl rfl rfl (by decide +kernel) S [a0, a1, a2] rfl (fun _ _ f hf => absurd hf List.not_mem_nil)) (fun v hp' q => ?_)
  obtain ⟨o, ho, r, a, r', a', h1, h2, h3, h4, h5, h6, h7, h8, h9⟩ := q
  cases List.mem_singleton.mp ho
  obtain ⟨z, rfl, hz⟩ := rO_int h4
  have t58 : a 58 = a' 19 := ((h8 19 (by decide +kernel)).trans (congrArg a (by decide +kernel))).symm
  have t59 : a 59 = a' 20 := ((h8 20 (by decide +kernel)).trans (congrArg a (by decide +kernel))).symm
  have t60 : a 60 = a' 21 := ((h8 21 (by decide +kernel)).trans (congrArg a (by decide +kernel))).symm
  have q18 : r 18 = r' 5 := (((h7 5).trans (den_of (m := (some 18, 0)) (by decide +kernel))).trans (Int.add_zero _)).symm
  have q14 : r 14 = a0.toInt := h2 0 (by decide)
  have q15 : r 15 = a1.toInt := h2 1 (by decide)
  have q16 : r 16 = a2.toInt := h2 2 (by decide)
  have q5 : r 5 = ρ 5 := h1 5 (by decide)
  have t19 : a 19 = α 19 := h3 19 (by decide +kernel)
  have t20 : a 20 = α 20 := h3 20 (by decide +kernel)
  have t21 : a 21 = α 21 := h3 21 (by decide +kernel)
  have q17 : r 17 = z.toInt := (hz.trans (Int.add_zero _)).symm
  have f0 := h9 _ (List.Mem.head _)
  rw [hFp_115, show PT0 115 = P_tlA from rfl] at f0
  simp only [List.map_cons, List.map_nil, den_s, den_c, Int.add_zero, q14, q15, q16, q17, q18, q5, t19, t20, t21, t58, t59, t60] at f0
  exact ⟨z, rfl, h5, r', a', h6, nrc h7 h1 [0, 1, 2, 3, 4, 6, 7, 13] (by decide +kernel) (frc h8 h3 [2, 4, 7, 8, 10, 11, 12, 13, 15, 16, 23, 24, 25, 32, 33, 34, 41, 42, 43, 44, 45, 46] (by decide +kernel) ⟨f0, trivial⟩)⟩
set_option maxRecDepth 1000000 in
theorem sy_lie {h : AH} {ρ : Nat → Int} {α : Nat → Int → Int} (S : SD bY gY2 ρ α h) (H : P_ly [] [α 1]) (a0 : Int32) (a1 : Int32) (a2 : Int32) : Ct mX7_lie 12 0 0 [.ref 0, .int a0, .int a1, .int a2] h (fun v hp' => ∃ z : Int32, v = some (.int z) ∧ hp'.length = gY2.length ∧ ∃ ρ' α', SD bY gY2 ρ' α' hp' ∧ ρ' 4 = ρ 4 ∧ ρ' 6 = ρ 6 ∧ ρ' 7 = ρ 7 ∧ ρ' 12 = ρ 12 ∧ α' 1 = α 1 ∧ α' 2 = α 2 ∧ α' 9 = α 9 ∧ α' 10 = α 10 ∧ α' 14 = α 14 ∧ α' 15 = α 15 ∧ α' 16 = α 16 ∧ α' 26 = α 26 ∧ α' 27 = α 27 ∧ α' 28 = α 28 ∧ α' 30 = α 30 ∧ α' 31 = α 31 ∧ α' 32 = α 32 ∧ α' 33 = α 33 ∧ P_tlA [z.toInt, a0.toInt, a1.toInt, a2.toInt, ρ 5, ρ' 5] [α 11, α 12, α 13, α' 11, α' 12, α' 13] ∧ True) := by
  refine Ct_weak (sideS (PT := PT0) (c := c_yo_lie) (Bs := bY) (g := gY2) (N := mX7_lie) (n := 3) rfl (by decide) (k_yo_lie hpl_7) rfl rfl rfl (by decide +kernel) S [a0, a1, a2] rfl (fun _ _ f hf => absurd hf List.not_mem_nil)) (fun v hp' q => ?_)
  obtain ⟨o, ho, r, a, r', a', h1, h2, h3, h4, h5, h6, h7, h8, h9⟩ := q
  cases List.mem_singleton.mp ho
  obtain ⟨z, rfl, hz⟩ := rO_int h4
  have t35 : a 35 = a' 11 := ((h8 11 (by decide +kernel)).trans (congrArg a (by decide +kernel))).symm
  have t36 : a 36 = a' 12 := ((h8 12 (by decide +kernel)).trans (congrArg a (by decide +kernel))).symm
  have t37 : a 37 = a' 13 := ((h8 13 (by decide +kernel)).trans (congrArg a (by decide +kernel))).symm
  have q17 : r 17 = r' 5 := (((h7 5).trans (den_of (m := (some 17, 0)) (by decide +kernel))).trans (Int.add_zero _)).symm
  have q13 : r 13 = a0.toInt := h2 0 (by decide)
  have q14 : r 14 = a1.toInt := h2 1 (by decide)
  have q15 : r 15 = a2.toInt := h2 2 (by decide)
  have q5 : r 5 = ρ 5 := h1 5 (by decide)
  have t11 : a 11 = α 11 := h3 11 (by decide +kernel)
  have t12 : a 12 = α 12 := h3 12 (by decide +kernel)
  have t13 : a 13 = α 13 := h3 13 (by decide +kernel)
  have q16 : r 16 = z.toInt := (hz.trans (Int.add_zero _)).symm
  have f0 := h9 _ (List.Mem.head _)
  rw [hFp_115, show PT0 115 = P_tlA from rfl] at f0
  simp only [List.map_cons, List.map_nil, den_s, den_c, Int.add_zero, q13, q14, q15, q16, q17, q5, t11, t12, t13, t35, t36, t37] at f0
  exact ⟨z, rfl, h5, r', a', h6, nrc h7 h1 [4, 6, 7, 12] (by decide +kernel) (frc h8 h3 [1, 2, 9, 10, 14, 15, 16, 26, 27, 28, 30, 31, 32, 33] (by decide +kernel) ⟨f0, trivial⟩)⟩
set_option maxRecDepth 1000000 in
theorem sx_letting {h : AH} {ρ : Nat → Int} {α : Nat → Int → Int} (S : SD bT (gX 999) ρ α h) (H : True) (a0 : Int32) (a1 : Int32) (a2 : Int32) : Ct mX6_letting 12 0 0 [.ref 0, .int a0, .int a1, .int a2] h (fun v hp' => ∃ z : Int32, v = some (.int z) ∧ hp'.length = (gX 999).length ∧ ∃ ρ' α', SD bT (gX 999) ρ' α' hp' ∧ ρ' 0 = ρ 0 ∧ ρ' 1 = ρ 1 ∧ ρ' 2 = ρ 2 ∧ ρ' 3 = ρ 3 ∧ ρ' 4 = ρ 4 ∧ ρ' 5 = ρ 5 ∧ ρ' 7 = ρ 7 ∧ ρ' 13 = ρ 13 ∧ α' 2 = α 2 ∧ α' 4 = α 4 ∧ α' 7 = α 7 ∧ α' 8 = α 8 ∧ α' 10 = α 10 ∧ α' 11 = α 11 ∧ α' 12 = α 12 ∧ α' 13 = α 13 ∧ α' 15 = α 15 ∧ α' 16 = α 16 ∧ α' 19 = α 19 ∧ α' 20 = α 20 ∧ α' 21 = α 21 ∧ α' 32 = α 32 ∧ α' 33 = α 33 ∧ α' 34 = α 34 ∧ α' 41 = α 41 ∧ α' 42 = α 42 ∧ α' 43 = α 43 ∧ α' 44 = α 44 ∧ α' 45 = α 45 ∧ α' 46 = α 46 ∧ P_tlA [z.toInt, a0.toInt, a1.toInt, a2.toInt, ρ 6, ρ' 6] [α 23, α 24, α 25, α' 23, α' 24, α' 25] ∧ True) := by
  refine Ct_weak (sideS (PT := PT0) (c := c_xo_letting) (Bs := bT) (g := (gX 999)) (N := mX6_letting) (n := 3) rfl (by decide) (k_xo_letting hpl_6) rfl rfl rfl (by decide +kernel) S [a0, a1, a2] rfl (fun _ _ f hf => absurd hf List.not_mem_nil)) (fun v hp' q => ?_)
  obtain ⟨o, ho, r, a, r', a', h1, h2, h3, h4, h5, h6, h7, h8, h9⟩ := q
  cases List.mem_singleton.mp ho
  obtain ⟨z, rfl, hz⟩ := rO_int h4
  have t58 : a 58 = a' 23 := ((h8 23 (by decide +kernel)).trans (congrArg a (by decide +kernel))).symm
  have t59 : a 59 = a' 24 := ((h8 24 (by decide +kernel)).trans (congrArg a (by decide +kernel))).symm
  have t60 : a 60 = a' 25 := ((h8 25 (by decide +kernel)).trans (congrArg a (by decide +kernel))).symm
  have q18 : r 18 = r' 6 := (((h7 6).trans (den_of (m := (some 18, 0)) (by decide +kernel))).trans (Int.add_zero _)).symm
  have q14 : r 14 = a0.toInt := h2 0 (by decide)
  have q15 : r 15 = a1.toInt := h2 1 (by decide)
  have q16 : r 16 = a2.toInt := h2 2 (by decide)
  have q6 : r 6 = ρ 6 := h1 6 (by decide)
  have t23 : a 23 = α 23 := h3 23 (by decide +kernel)
  have t24 : a 24 = α 24 := h3 24 (by decide +kernel)
  have t25 : a 25 = α 25 := h3 25 (by decide +kernel)
  have q17 : r 17 = z.toInt := (hz.trans (Int.add_zero _)).symm
  have f0 := h9 _ (List.Mem.head _)
  rw [hFp_115, show PT0 115 = P_tlA from rfl] at f0
  simp only [List.map_cons, List.map_nil, den_s, den_c, Int.add_zero, q14, q15, q16, q17, q18, q6, t23, t24, t25, t58, t59, t60] at f0
  exact ⟨z, rfl, h5, r', a', h6, nrc h7 h1 [0, 1, 2, 3, 4, 5, 7, 13] (by decide +kernel) (frc h8 h3 [2, 4, 7, 8, 10, 11, 12, 13, 15, 16, 19, 20, 21, 32, 33, 34, 41, 42, 43, 44, 45, 46] (by decide +kernel) ⟨f0, trivial⟩)⟩
set_option maxRecDepth 1000000 in
theorem sy_letting {h : AH} {ρ : Nat → Int} {α : Nat → Int → Int} (S : SD bY gY2 ρ α h) (H : P_ly [] [α 1]) (a0 : Int32) (a1 : Int32) (a2 : Int32) : Ct mX7_letting 12 0 0 [.ref 0, .int a0, .int a1, .int a2] h (fun v hp' => ∃ z : Int32, v = some (.int z) ∧ hp'.length = gY2.length ∧ ∃ ρ' α', SD bY gY2 ρ' α' hp' ∧ ρ' 4 = ρ 4 ∧ ρ' 5 = ρ 5 ∧ ρ' 7 = ρ 7 ∧ ρ' 12 = ρ 12 ∧ α' 1 = α 1 ∧ α' 2 = α 2 ∧ α' 9 = α 9 ∧ α' 10 = α 10 ∧ α' 11 = α 11 ∧ α' 12 = α 12 ∧ α' 13 = α 13 ∧ α' 26 = α 26 ∧ α' 27 = α 27 ∧ α' 28 = α 28 ∧ α' 30 = α 30 ∧ α' 31 = α 31 ∧ α' 32 = α 32 ∧ α' 33 = α 33 ∧ P_tlA [z.toInt, a0.toInt, a1.toInt, a2.toInt, ρ 6, ρ' 6] [α 14, α 15, α 16, α' 14, α' 15, α' 16] ∧ True) := by
  refine Ct_weak (sideS (PT := PT0) (c := c_yo_letting) (Bs := bY) (g := gY2) (N := mX7_letting) (n := 3) rfl (by decide) (k_yo_letting hpl_7) rfl rfl rfl (by decide +kernel) S [a0, a1, a2] rfl (fun _ _ f hf => absurd hf List.not_mem_nil)) (fun v hp' q => ?_)
  obtain ⟨o, ho, r, a, r', a', h1, h2, h3, h4, h5, h6, h7, h8, h9⟩ := q
  cases List.mem_singleton.mp ho
  obtain ⟨z, rfl, hz⟩ := rO_int h4
  have t35 : a 35 = a' 14 := ((h8 14 (by decide +kernel)).trans (congrArg a (by decide +kernel))).symm
  have t36 : a 36 = a' 15 := ((h8 15 (by decide +kernel)).trans (congrArg a (by decide +kernel))).symm
  have t37 : a 37 = a' 16 := ((h8 16 (by decide +kernel)).trans (congrArg a (by decide +kernel))).symm
  have q17 : r 17 = r' 6 := (((h7 6).trans (den_of (m := (some 17, 0)) (by decide +kernel))).trans (Int.add_zero _)).symm
  have q13 : r 13 = a0.toInt := h2 0 (by decide)
  have q14 : r 14 = a1.toInt := h2 1 (by decide)
  have q15 : r 15 = a2.toInt := h2 2 (by decide)
  have q6 : r 6 = ρ 6 := h1 6 (by decide)
  have t14 : a 14 = α 14 := h3 14 (by decide +kernel)
  have t15 : a 15 = α 15 := h3 15 (by decide +kernel)
  have t16 : a 16 = α 16 := h3 16 (by decide +kernel)
  have q16 : r 16 = z.toInt := (hz.trans (Int.add_zero _)).symm
  have f0 := h9 _ (List.Mem.head _)
  rw [hFp_115, show PT0 115 = P_tlA from rfl] at f0
  simp only [List.map_cons, List.map_nil, den_s, den_c, Int.add_zero, q13, q14, q15, q16, q17, q6, t14, t15, t16, t35, t36, t37] at f0
  exact ⟨z, rfl, h5, r', a', h6, nrc h7 h1 [4, 5, 7, 12] (by decide +kernel) (frc h8 h3 [1, 2, 9, 10, 11, 12, 13, 26, 27, 28, 30, 31, 32, 33] (by decide +kernel) ⟨f0, trivial⟩)⟩
set_option maxRecDepth 1000000 in
theorem sx_back {h : AH} {ρ : Nat → Int} {α : Nat → Int → Int} (S : SD bT (gX 999) ρ α h) (H : True) (a0 : Int32) : Ct mX6_back 12 0 0 [.ref 0, .int a0] h (fun v hp' => ∃ z : Int32, v = some (.int z) ∧ hp'.length = (gX 999).length ∧ ∃ ρ' α', SD bT (gX 999) ρ' α' hp' ∧ ρ' 0 = ρ 0 ∧ ρ' 1 = ρ 1 ∧ ρ' 2 = ρ 2 ∧ ρ' 3 = ρ 3 ∧ ρ' 7 = ρ 7 ∧ ρ' 13 = ρ 13 ∧ α' 2 = α 2 ∧ α' 4 = α 4 ∧ α' 7 = α 7 ∧ α' 8 = α 8 ∧ α' 10 = α 10 ∧ α' 11 = α 11 ∧ α' 12 = α 12 ∧ α' 13 = α 13 ∧ α' 15 = α 15 ∧ α' 16 = α 16 ∧ α' 19 = α 19 ∧ α' 20 = α 20 ∧ α' 21 = α 21 ∧ α' 23 = α 23 ∧ α' 24 = α 24 ∧ α' 25 = α 25 ∧ α' 32 = α 32 ∧ α' 33 = α 33 ∧ α' 34 = α 34 ∧ α' 41 = α 41 ∧ α' 42 = α 42 ∧ α' 43 = α 43 ∧ α' 44 = α 44 ∧ α' 45 = α 45 ∧ α' 46 = α 46 ∧ P_baA [z.toInt, a0.toInt, ρ 4, ρ 5, ρ 6, ρ' 4, ρ' 5, ρ' 6] [] ∧ True) := by
  refine Ct_weak (sideS (PT := PT0) (c := c_xo_back) (Bs := bT) (g := (gX 999)) (N := mX6_back) (n := 1) rfl (by decide) (k_xo_back hpl_6) rfl rfl rfl (by decide +kernel) S [a0] rfl (fun _ _ f hf => absurd hf List.not_mem_nil)) (fun v hp' q => ?_)
  obtain ⟨o, ho, r, a, r', a', h1, h2, h3, h4, h5, h6, h7, h8, h9⟩ := q
  cases List.mem_singleton.mp ho
  obtain ⟨z, rfl, hz⟩ := rO_int h4
  have q16 : r 16 = r' 4 := (((h7 4).trans (den_of (m := (some 16, 0)) (by decide +kernel))).trans (Int.add_zero _)).symm
  have q17 : r 17 = r' 5 := (((h7 5).trans (den_of (m := (some 17, 0)) (by decide +kernel))).trans (Int.add_zero _)).symm
  have q18 : r 18 = r' 6 := (((h7 6).trans (den_of (m := (some 18, 0)) (by decide +kernel))).trans (Int.add_zero _)).symm
  have q14 : r 14 = a0.toInt := h2 0 (by decide)
  have q4 : r 4 = ρ 4 := h1 4 (by decide)
  have q5 : r 5 = ρ 5 := h1 5 (by decide)
  have q6 : r 6 = ρ 6 := h1 6 (by decide)
  have q15 : r 15 = z.toInt := (hz.trans (Int.add_zero _)).symm
  have f0 := h9 _ (List.Mem.head _)
  rw [hFp_117, show PT0 117 = P_baA from rfl] at f0
  simp only [List.map_cons, List.map_nil, den_s, den_c, Int.add_zero, q14, q15, q16, q17, q18, q4, q5, q6] at f0
  exact ⟨z, rfl, h5, r', a', h6, nrc h7 h1 [0, 1, 2, 3, 7, 13] (by decide +kernel) (frc h8 h3 [2, 4, 7, 8, 10, 11, 12, 13, 15, 16, 19, 20, 21, 23, 24, 25, 32, 33, 34, 41, 42, 43, 44, 45, 46] (by decide +kernel) ⟨f0, trivial⟩)⟩
set_option maxRecDepth 1000000 in
theorem sy_back {h : AH} {ρ : Nat → Int} {α : Nat → Int → Int} (S : SD bY gY2 ρ α h) (H : P_ly [] [α 1]) (a0 : Int32) : Ct mX7_back 12 0 0 [.ref 0, .int a0] h (fun v hp' => ∃ z : Int32, v = some (.int z) ∧ hp'.length = gY2.length ∧ ∃ ρ' α', SD bY gY2 ρ' α' hp' ∧ ρ' 7 = ρ 7 ∧ ρ' 12 = ρ 12 ∧ α' 1 = α 1 ∧ α' 2 = α 2 ∧ α' 9 = α 9 ∧ α' 10 = α 10 ∧ α' 11 = α 11 ∧ α' 12 = α 12 ∧ α' 13 = α 13 ∧ α' 14 = α 14 ∧ α' 15 = α 15 ∧ α' 16 = α 16 ∧ α' 26 = α 26 ∧ α' 27 = α 27 ∧ α' 28 = α 28 ∧ α' 30 = α 30 ∧ α' 31 = α 31 ∧ α' 32 = α 32 ∧ α' 33 = α 33 ∧ P_baA [z.toInt, a0.toInt, ρ 4, ρ 5, ρ 6, ρ' 4, ρ' 5, ρ' 6] [] ∧ True) := by
  refine Ct_weak (sideS (PT := PT0) (c := c_yo_back) (Bs := bY) (g := gY2) (N := mX7_back) (n := 1) rfl (by decide) (k_yo_back hpl_7) rfl rfl rfl (by decide +kernel) S [a0] rfl (fun _ _ f hf => absurd hf List.not_mem_nil)) (fun v hp' q => ?_)
  obtain ⟨o, ho, r, a, r', a', h1, h2, h3, h4, h5, h6, h7, h8, h9⟩ := q
  cases List.mem_singleton.mp ho
  obtain ⟨z, rfl, hz⟩ := rO_int h4
  have q15 : r 15 = r' 4 := (((h7 4).trans (den_of (m := (some 15, 0)) (by decide +kernel))).trans (Int.add_zero _)).symm
  have q16 : r 16 = r' 5 := (((h7 5).trans (den_of (m := (some 16, 0)) (by decide +kernel))).trans (Int.add_zero _)).symm
  have q17 : r 17 = r' 6 := (((h7 6).trans (den_of (m := (some 17, 0)) (by decide +kernel))).trans (Int.add_zero _)).symm
  have q13 : r 13 = a0.toInt := h2 0 (by decide)
  have q4 : r 4 = ρ 4 := h1 4 (by decide)
  have q5 : r 5 = ρ 5 := h1 5 (by decide)
  have q6 : r 6 = ρ 6 := h1 6 (by decide)
  have q14 : r 14 = z.toInt := (hz.trans (Int.add_zero _)).symm
  have f0 := h9 _ (List.Mem.head _)
  rw [hFp_117, show PT0 117 = P_baA from rfl] at f0
  simp only [List.map_cons, List.map_nil, den_s, den_c, Int.add_zero, q13, q14, q15, q16, q17, q4, q5, q6] at f0
  exact ⟨z, rfl, h5, r', a', h6, nrc h7 h1 [7, 12] (by decide +kernel) (frc h8 h3 [1, 2, 9, 10, 11, 12, 13, 14, 15, 16, 26, 27, 28, 30, 31, 32, 33] (by decide +kernel) ⟨f0, trivial⟩)⟩
set_option maxRecDepth 1000000 in
theorem sx_read {h : AH} {ρ : Nat → Int} {α : Nat → Int → Int} (S : SD bT (gX 999) ρ α h) (H : True) (a0 : Int32) : Ct mX6_read 12 0 0 [.ref 0, .int a0] h (fun v hp' => ∃ z : Int32, v = some (.int z) ∧ hp'.length = (gX 999).length ∧ ∃ ρ' α', SD bT (gX 999) ρ' α' hp' ∧ ρ' 0 = ρ 0 ∧ ρ' 1 = ρ 1 ∧ ρ' 2 = ρ 2 ∧ ρ' 3 = ρ 3 ∧ ρ' 5 = ρ 5 ∧ ρ' 6 = ρ 6 ∧ ρ' 7 = ρ 7 ∧ α' 2 = α 2 ∧ α' 4 = α 4 ∧ α' 7 = α 7 ∧ α' 8 = α 8 ∧ α' 10 = α 10 ∧ α' 11 = α 11 ∧ α' 12 = α 12 ∧ α' 13 = α 13 ∧ α' 19 = α 19 ∧ α' 20 = α 20 ∧ α' 21 = α 21 ∧ α' 23 = α 23 ∧ α' 24 = α 24 ∧ α' 25 = α 25 ∧ α' 32 = α 32 ∧ α' 33 = α 33 ∧ α' 34 = α 34 ∧ α' 41 = α 41 ∧ α' 42 = α 42 ∧ α' 43 = α 43 ∧ α' 44 = α 44 ∧ α' 45 = α 45 ∧ α' 46 = α 46 ∧ P_rdX [z.toInt, a0.toInt, 0, ρ 4, ρ' 4, ρ 13, ρ' 13] [α 45, α 46, α 41, α 42, α 43, α 44, α 15, α 16, α' 15, α' 16] ∧ True) := by
  refine Ct_weak (sideS (PT := PT0) (c := c_xo_readC) (Bs := bT) (g := (gX 999)) (N := mX6_read) (n := 1) rfl (by decide) (k_xo_readC hpl_12) rfl rfl rfl (by decide +kernel) S [a0] rfl (fun _ _ f hf => absurd hf List.not_mem_nil)) (fun v hp' q => ?_)
  obtain ⟨o, ho, r, a, r', a', h1, h2, h3, h4, h5, h6, h7, h8, h9⟩ := q
  cases List.mem_singleton.mp ho
  obtain ⟨z, rfl, hz⟩ := rO_int h4
  have t58 : a 58 = a' 15 := ((h8 15 (by decide +kernel)).trans (congrArg a (by decide +kernel))).symm
  have t59 : a 59 = a' 16 := ((h8 16 (by decide +kernel)).trans (congrArg a (by decide +kernel))).symm
  have q16 : r 16 = r' 13 := (((h7 13).trans (den_of (m := (some 16, 0)) (by decide +kernel))).trans (Int.add_zero _)).symm
  have q17 : r 17 = r' 4 := (((h7 4).trans (den_of (m := (some 17, 0)) (by decide +kernel))).trans (Int.add_zero _)).symm
  have q14 : r 14 = a0.toInt := h2 0 (by decide)
  have q13 : r 13 = ρ 13 := h1 13 (by decide)
  have q4 : r 4 = ρ 4 := h1 4 (by decide)
  have t15 : a 15 = α 15 := h3 15 (by decide +kernel)
  have t16 : a 16 = α 16 := h3 16 (by decide +kernel)
  have t41 : a 41 = α 41 := h3 41 (by decide +kernel)
  have t42 : a 42 = α 42 := h3 42 (by decide +kernel)
  have t43 : a 43 = α 43 := h3 43 (by decide +kernel)
  have t44 : a 44 = α 44 := h3 44 (by decide +kernel)
  have t45 : a 45 = α 45 := h3 45 (by decide +kernel)
  have t46 : a 46 = α 46 := h3 46 (by decide +kernel)
  have q15 : r 15 = z.toInt := (hz.trans (Int.add_zero _)).symm
  have f0 := h9 _ (List.Mem.head _)
  rw [hFp_140, show PT0 140 = P_rdX from rfl] at f0
  simp only [List.map_cons, List.map_nil, den_s, den_c, Int.add_zero, q13, q14, q15, q16, q17, q4, t15, t16, t41, t42, t43, t44, t45, t46, t58, t59] at f0
  exact ⟨z, rfl, h5, r', a', h6, nrc h7 h1 [0, 1, 2, 3, 5, 6, 7] (by decide +kernel) (frc h8 h3 [2, 4, 7, 8, 10, 11, 12, 13, 19, 20, 21, 23, 24, 25, 32, 33, 34, 41, 42, 43, 44, 45, 46] (by decide +kernel) ⟨f0, trivial⟩)⟩
set_option maxRecDepth 1000000 in
theorem sy_read {h : AH} {ρ : Nat → Int} {α : Nat → Int → Int} (S : SD bY gY2 ρ α h) (H : P_ly [] [α 1]) (a0 : Int32) : Ct mX7_read 12 0 0 [.ref 0, .int a0] h (fun v hp' => ∃ z : Int32, v = some (.int z) ∧ hp'.length = gY2.length ∧ ∃ ρ' α', SD bY gY2 ρ' α' hp' ∧ ρ' 5 = ρ 5 ∧ ρ' 6 = ρ 6 ∧ ρ' 7 = ρ 7 ∧ α' 1 = α 1 ∧ α' 2 = α 2 ∧ α' 11 = α 11 ∧ α' 12 = α 12 ∧ α' 13 = α 13 ∧ α' 14 = α 14 ∧ α' 15 = α 15 ∧ α' 16 = α 16 ∧ α' 26 = α 26 ∧ α' 27 = α 27 ∧ α' 28 = α 28 ∧ α' 30 = α 30 ∧ α' 31 = α 31 ∧ α' 32 = α 32 ∧ α' 33 = α 33 ∧ P_rdY [z.toInt, a0.toInt, ρ 4, ρ' 4, ρ 12, ρ' 12] [α 30, α 32, α 33, α 9, α 10, α' 9, α' 10] ∧ True) := by
  refine Ct_weak (sideS (PT := PT0) (c := c_yo_readC) (Bs := bY) (g := gY2) (N := mX7_read) (n := 1) rfl (by decide) (k_yo_readC hpl_12) rfl rfl rfl (by decide +kernel) S [a0] rfl (fun _ _ f hf => absurd hf List.not_mem_nil)) (fun v hp' q => ?_)
  obtain ⟨o, ho, r, a, r', a', h1, h2, h3, h4, h5, h6, h7, h8, h9⟩ := q
  cases List.mem_singleton.mp ho
  obtain ⟨z, rfl, hz⟩ := rO_int h4
  have t36 : a 36 = a' 10 := ((h8 10 (by decide +kernel)).trans (congrArg a (by decide +kernel))).symm
  have t35 : a 35 = a' 9 := ((h8 9 (by decide +kernel)).trans (congrArg a (by decide +kernel))).symm
  have q16 : r 16 = r' 12 := (((h7 12).trans (den_of (m := (some 16, 0)) (by decide +kernel))).trans (Int.add_zero _)).symm
  have q15 : r 15 = r' 4 := (((h7 4).trans (den_of (m := (some 15, 0)) (by decide +kernel))).trans (Int.add_zero _)).symm
  have q13 : r 13 = a0.toInt := h2 0 (by decide)
  have q12 : r 12 = ρ 12 := h1 12 (by decide)
  have q4 : r 4 = ρ 4 := h1 4 (by decide)
  have t10 : a 10 = α 10 := h3 10 (by decide +kernel)
  have t30 : a 30 = α 30 := h3 30 (by decide +kernel)
  have t32 : a 32 = α 32 := h3 32 (by decide +kernel)
  have t33 : a 33 = α 33 := h3 33 (by decide +kernel)
  have t9 : a 9 = α 9 := h3 9 (by decide +kernel)
  have q14 : r 14 = z.toInt := (hz.trans (Int.add_zero _)).symm
  have f0 := h9 _ (List.Mem.head _)
  rw [hFp_142, show PT0 142 = P_rdY from rfl] at f0
  simp only [List.map_cons, List.map_nil, den_s, den_c, Int.add_zero, q12, q13, q14, q15, q16, q4, t10, t30, t32, t33, t35, t36, t9] at f0
  exact ⟨z, rfl, h5, r', a', h6, nrc h7 h1 [5, 6, 7] (by decide +kernel) (frc h8 h3 [1, 2, 11, 12, 13, 14, 15, 16, 26, 27, 28, 30, 31, 32, 33] (by decide +kernel) ⟨f0, trivial⟩)⟩
set_option maxRecDepth 1000000 in
theorem sx_coat {h : AH} {ρ : Nat → Int} {α : Nat → Int → Int} (S : SD bT (gX 999) ρ α h) (H : True) (a0 : Int32) (a1 : Int32) (a2 : Int32) : Ct mX6_coat 12 0 0 [.ref 0, .int a0, .int a1, .int a2] h (fun v hp' => ∃ z : Int32, v = some (.int z) ∧ hp'.length = (gX 999).length ∧ ∃ ρ' α', SD bT (gX 999) ρ' α' hp' ∧ ρ' 0 = ρ 0 ∧ ρ' 1 = ρ 1 ∧ ρ' 2 = ρ 2 ∧ ρ' 3 = ρ 3 ∧ ρ' 4 = ρ 4 ∧ ρ' 5 = ρ 5 ∧ ρ' 6 = ρ 6 ∧ ρ' 7 = ρ 7 ∧ ρ' 13 = ρ 13 ∧ α' 2 = α 2 ∧ α' 4 = α 4 ∧ α' 7 = α 7 ∧ α' 8 = α 8 ∧ α' 10 = α 10 ∧ α' 11 = α 11 ∧ α' 12 = α 12 ∧ α' 13 = α 13 ∧ α' 15 = α 15 ∧ α' 16 = α 16 ∧ α' 19 = α 19 ∧ α' 20 = α 20 ∧ α' 21 = α 21 ∧ α' 23 = α 23 ∧ α' 24 = α 24 ∧ α' 25 = α 25 ∧ α' 32 = α 32 ∧ α' 33 = α 33 ∧ α' 34 = α 34 ∧ α' 41 = α 41 ∧ α' 42 = α 42 ∧ α' 43 = α 43 ∧ α' 44 = α 44 ∧ α' 45 = α 45 ∧ α' 46 = α 46 ∧ True) := by
  refine Ct_weak (sideS (PT := PT0) (c := c_xf_coat) (Bs := bT) (g := (gX 999)) (N := mX6_coat) (n := 3) rfl (by decide) (k_xf_coat hpl_15) rfl rfl rfl (by decide +kernel) S [a0, a1, a2] rfl (fun _ _ f hf => absurd hf List.not_mem_nil)) (fun v hp' q => ?_)
  obtain ⟨o, ho, r, a, r', a', h1, h2, h3, h4, h5, h6, h7, h8, h9⟩ := q
  cases List.mem_singleton.mp ho
  obtain ⟨z, rfl, hz⟩ := rO_int h4
  exact ⟨z, rfl, h5, r', a', h6, nrc h7 h1 [0, 1, 2, 3, 4, 5, 6, 7, 13] (by decide +kernel) (frc h8 h3 [2, 4, 7, 8, 10, 11, 12, 13, 15, 16, 19, 20, 21, 23, 24, 25, 32, 33, 34, 41, 42, 43, 44, 45, 46] (by decide +kernel) trivial)⟩
set_option maxRecDepth 1000000 in
theorem sy_coat {h : AH} {ρ : Nat → Int} {α : Nat → Int → Int} (S : SD bY gY2 ρ α h) (H : P_ly [] [α 1]) (a0 : Int32) (a1 : Int32) (a2 : Int32) : Ct mX7_coat 12 0 0 [.ref 0, .int a0, .int a1, .int a2] h (fun v hp' => ∃ z : Int32, v = some (.int z) ∧ hp'.length = gY2.length ∧ ∃ ρ' α', SD bY gY2 ρ' α' hp' ∧ ρ' 4 = ρ 4 ∧ ρ' 5 = ρ 5 ∧ ρ' 6 = ρ 6 ∧ ρ' 7 = ρ 7 ∧ ρ' 12 = ρ 12 ∧ α' 1 = α 1 ∧ α' 2 = α 2 ∧ α' 9 = α 9 ∧ α' 10 = α 10 ∧ α' 11 = α 11 ∧ α' 12 = α 12 ∧ α' 13 = α 13 ∧ α' 14 = α 14 ∧ α' 15 = α 15 ∧ α' 16 = α 16 ∧ α' 26 = α 26 ∧ α' 27 = α 27 ∧ α' 28 = α 28 ∧ α' 30 = α 30 ∧ α' 31 = α 31 ∧ α' 32 = α 32 ∧ α' 33 = α 33 ∧ True) := by
  refine Ct_weak (sideS (PT := PT0) (c := c_yf_coat) (Bs := bY) (g := gY2) (N := mX7_coat) (n := 3) rfl (by decide) (k_yf_coat hpl_15) rfl rfl rfl (by decide +kernel) S [a0, a1, a2] rfl (fun r _ f hf => by cases List.mem_singleton.mp hf; exact Eq.mpr (hFp_78 [] [1]) H)) (fun v hp' q => ?_)
  obtain ⟨o, ho, r, a, r', a', h1, h2, h3, h4, h5, h6, h7, h8, h9⟩ := q
  cases List.mem_singleton.mp ho
  obtain ⟨z, rfl, hz⟩ := rO_int h4
  exact ⟨z, rfl, h5, r', a', h6, nrc h7 h1 [4, 5, 6, 7, 12] (by decide +kernel) (frc h8 h3 [1, 2, 9, 10, 11, 12, 13, 14, 15, 16, 26, 27, 28, 30, 31, 32, 33] (by decide +kernel) trivial)⟩
set_option maxRecDepth 1000000 in
theorem sx_stands {h : AH} {ρ : Nat → Int} {α : Nat → Int → Int} (S : SD bT (gX 999) ρ α h) (H : True) (a0 : Int32) (a1 : Int32) : Ct mX6_stands 12 0 0 [.ref 0, .int a0, .int a1] h (fun v hp' => ∃ z : Int32, v = some (.int z) ∧ hp'.length = (gX 999).length ∧ ∃ ρ' α', SD bT (gX 999) ρ' α' hp' ∧ ρ' 0 = ρ 0 ∧ ρ' 1 = ρ 1 ∧ ρ' 2 = ρ 2 ∧ ρ' 3 = ρ 3 ∧ ρ' 4 = ρ 4 ∧ ρ' 5 = ρ 5 ∧ ρ' 6 = ρ 6 ∧ ρ' 7 = ρ 7 ∧ ρ' 13 = ρ 13 ∧ α' 2 = α 2 ∧ α' 4 = α 4 ∧ α' 7 = α 7 ∧ α' 8 = α 8 ∧ α' 10 = α 10 ∧ α' 11 = α 11 ∧ α' 12 = α 12 ∧ α' 13 = α 13 ∧ α' 15 = α 15 ∧ α' 16 = α 16 ∧ α' 19 = α 19 ∧ α' 20 = α 20 ∧ α' 21 = α 21 ∧ α' 23 = α 23 ∧ α' 24 = α 24 ∧ α' 25 = α 25 ∧ α' 32 = α 32 ∧ α' 33 = α 33 ∧ α' 34 = α 34 ∧ α' 41 = α 41 ∧ α' 42 = α 42 ∧ α' 43 = α 43 ∧ α' 44 = α 44 ∧ α' 45 = α 45 ∧ α' 46 = α 46 ∧ True) := by
  refine Ct_weak (sideS (PT := PT0) (c := c_xf_stands) (Bs := bT) (g := (gX 999)) (N := mX6_stands) (n := 2) rfl (by decide) (k_xf_stands hpl_15) rfl rfl rfl (by decide +kernel) S [a0, a1] rfl (fun _ _ f hf => absurd hf List.not_mem_nil)) (fun v hp' q => ?_)
  obtain ⟨o, ho, r, a, r', a', h1, h2, h3, h4, h5, h6, h7, h8, h9⟩ := q
  cases List.mem_singleton.mp ho
  obtain ⟨z, rfl, hz⟩ := rO_int h4
  exact ⟨z, rfl, h5, r', a', h6, nrc h7 h1 [0, 1, 2, 3, 4, 5, 6, 7, 13] (by decide +kernel) (frc h8 h3 [2, 4, 7, 8, 10, 11, 12, 13, 15, 16, 19, 20, 21, 23, 24, 25, 32, 33, 34, 41, 42, 43, 44, 45, 46] (by decide +kernel) trivial)⟩
set_option maxRecDepth 1000000 in
theorem sy_stands {h : AH} {ρ : Nat → Int} {α : Nat → Int → Int} (S : SD bY gY2 ρ α h) (H : P_ly [] [α 1]) (a0 : Int32) (a1 : Int32) : Ct mX7_stands 12 0 0 [.ref 0, .int a0, .int a1] h (fun v hp' => ∃ z : Int32, v = some (.int z) ∧ hp'.length = gY2.length ∧ ∃ ρ' α', SD bY gY2 ρ' α' hp' ∧ ρ' 4 = ρ 4 ∧ ρ' 5 = ρ 5 ∧ ρ' 6 = ρ 6 ∧ ρ' 7 = ρ 7 ∧ ρ' 12 = ρ 12 ∧ α' 1 = α 1 ∧ α' 2 = α 2 ∧ α' 9 = α 9 ∧ α' 10 = α 10 ∧ α' 11 = α 11 ∧ α' 12 = α 12 ∧ α' 13 = α 13 ∧ α' 14 = α 14 ∧ α' 15 = α 15 ∧ α' 16 = α 16 ∧ α' 26 = α 26 ∧ α' 27 = α 27 ∧ α' 28 = α 28 ∧ α' 30 = α 30 ∧ α' 31 = α 31 ∧ α' 32 = α 32 ∧ α' 33 = α 33 ∧ True) := by
  refine Ct_weak (sideS (PT := PT0) (c := c_yf_stands) (Bs := bY) (g := gY2) (N := mX7_stands) (n := 2) rfl (by decide) (k_yf_stands hpl_15) rfl rfl rfl (by decide +kernel) S [a0, a1] rfl (fun r _ f hf => by cases List.mem_singleton.mp hf; exact Eq.mpr (hFp_78 [] [1]) H)) (fun v hp' q => ?_)
  obtain ⟨o, ho, r, a, r', a', h1, h2, h3, h4, h5, h6, h7, h8, h9⟩ := q
  cases List.mem_singleton.mp ho
  obtain ⟨z, rfl, hz⟩ := rO_int h4
  exact ⟨z, rfl, h5, r', a', h6, nrc h7 h1 [4, 5, 6, 7, 12] (by decide +kernel) (frc h8 h3 [1, 2, 9, 10, 11, 12, 13, 14, 15, 16, 26, 27, 28, 30, 31, 32, 33] (by decide +kernel) trivial)⟩
set_option maxRecDepth 1000000 in
theorem sx_neat {h : AH} {ρ : Nat → Int} {α : Nat → Int → Int} (S : SD bT (gX 999) ρ α h) (H : True) (a0 : Int32) : Ct mX6_neat 12 0 0 [.ref 0, .int a0] h (fun v hp' => ∃ z : Int32, v = some (.int z) ∧ hp'.length = (gX 999).length ∧ ∃ ρ' α', SD bT (gX 999) ρ' α' hp' ∧ ρ' 0 = ρ 0 ∧ ρ' 1 = ρ 1 ∧ ρ' 2 = ρ 2 ∧ ρ' 3 = ρ 3 ∧ ρ' 4 = ρ 4 ∧ ρ' 5 = ρ 5 ∧ ρ' 6 = ρ 6 ∧ ρ' 7 = ρ 7 ∧ ρ' 13 = ρ 13 ∧ α' 2 = α 2 ∧ α' 4 = α 4 ∧ α' 7 = α 7 ∧ α' 8 = α 8 ∧ α' 10 = α 10 ∧ α' 11 = α 11 ∧ α' 12 = α 12 ∧ α' 13 = α 13 ∧ α' 15 = α 15 ∧ α' 16 = α 16 ∧ α' 19 = α 19 ∧ α' 20 = α 20 ∧ α' 21 = α 21 ∧ α' 23 = α 23 ∧ α' 24 = α 24 ∧ α' 25 = α 25 ∧ α' 32 = α 32 ∧ α' 33 = α 33 ∧ α' 34 = α 34 ∧ α' 41 = α 41 ∧ α' 42 = α 42 ∧ α' 43 = α 43 ∧ α' 44 = α 44 ∧ α' 45 = α 45 ∧ α' 46 = α 46 ∧ True) := by
  refine Ct_weak (sideS (PT := PT0) (c := c_xf_neat) (Bs := bT) (g := (gX 999)) (N := mX6_neat) (n := 1) rfl (by decide) (k_xf_neat hpl_15) rfl rfl rfl (by decide +kernel) S [a0] rfl (fun _ _ f hf => absurd hf List.not_mem_nil)) (fun v hp' q => ?_)
  obtain ⟨o, ho, r, a, r', a', h1, h2, h3, h4, h5, h6, h7, h8, h9⟩ := q
  cases List.mem_singleton.mp ho
  obtain ⟨z, rfl, hz⟩ := rO_int h4
  exact ⟨z, rfl, h5, r', a', h6, nrc h7 h1 [0, 1, 2, 3, 4, 5, 6, 7, 13] (by decide +kernel) (frc h8 h3 [2, 4, 7, 8, 10, 11, 12, 13, 15, 16, 19, 20, 21, 23, 24, 25, 32, 33, 34, 41, 42, 43, 44, 45, 46] (by decide +kernel) trivial)⟩
set_option maxRecDepth 1000000 in
theorem sy_neat {h : AH} {ρ : Nat → Int} {α : Nat → Int → Int} (S : SD bY gY2 ρ α h) (H : P_ly [] [α 1]) (a0 : Int32) : Ct mX7_neat 12 0 0 [.ref 0, .int a0] h (fun v hp' => ∃ z : Int32, v = some (.int z) ∧ hp'.length = gY2.length ∧ ∃ ρ' α', SD bY gY2 ρ' α' hp' ∧ ρ' 4 = ρ 4 ∧ ρ' 5 = ρ 5 ∧ ρ' 6 = ρ 6 ∧ ρ' 7 = ρ 7 ∧ ρ' 12 = ρ 12 ∧ α' 1 = α 1 ∧ α' 2 = α 2 ∧ α' 9 = α 9 ∧ α' 10 = α 10 ∧ α' 11 = α 11 ∧ α' 12 = α 12 ∧ α' 13 = α 13 ∧ α' 14 = α 14 ∧ α' 15 = α 15 ∧ α' 16 = α 16 ∧ α' 26 = α 26 ∧ α' 27 = α 27 ∧ α' 28 = α 28 ∧ α' 30 = α 30 ∧ α' 31 = α 31 ∧ α' 32 = α 32 ∧ α' 33 = α 33 ∧ True) := by
  refine Ct_weak (sideS (PT := PT0) (c := c_yf_neat) (Bs := bY) (g := gY2) (N := mX7_neat) (n := 1) rfl (by decide) (k_yf_neat hpl_15) rfl rfl rfl (by decide +kernel) S [a0] rfl (fun r _ f hf => by cases List.mem_singleton.mp hf; exact Eq.mpr (hFp_78 [] [1]) H)) (fun v hp' q => ?_)
  obtain ⟨o, ho, r, a, r', a', h1, h2, h3, h4, h5, h6, h7, h8, h9⟩ := q
  cases List.mem_singleton.mp ho
  obtain ⟨z, rfl, hz⟩ := rO_int h4
  exact ⟨z, rfl, h5, r', a', h6, nrc h7 h1 [4, 5, 6, 7, 12] (by decide +kernel) (frc h8 h3 [1, 2, 9, 10, 11, 12, 13, 14, 15, 16, 26, 27, 28, 30, 31, 32, 33] (by decide +kernel) trivial)⟩
set_option maxRecDepth 1000000 in
theorem sx_naked {h : AH} {ρ : Nat → Int} {α : Nat → Int → Int} (S : SD bT (gX 999) ρ α h) (H : True) (a0 : Int32) : Ct mX6_naked 12 0 0 [.ref 0, .int a0] h (fun v hp' => ∃ z : Int32, v = some (.int z) ∧ hp'.length = (gX 999).length ∧ ∃ ρ' α', SD bT (gX 999) ρ' α' hp' ∧ ρ' 0 = ρ 0 ∧ ρ' 1 = ρ 1 ∧ ρ' 2 = ρ 2 ∧ ρ' 3 = ρ 3 ∧ ρ' 4 = ρ 4 ∧ ρ' 5 = ρ 5 ∧ ρ' 6 = ρ 6 ∧ ρ' 7 = ρ 7 ∧ ρ' 13 = ρ 13 ∧ α' 2 = α 2 ∧ α' 4 = α 4 ∧ α' 7 = α 7 ∧ α' 8 = α 8 ∧ α' 10 = α 10 ∧ α' 11 = α 11 ∧ α' 12 = α 12 ∧ α' 13 = α 13 ∧ α' 15 = α 15 ∧ α' 16 = α 16 ∧ α' 19 = α 19 ∧ α' 20 = α 20 ∧ α' 21 = α 21 ∧ α' 23 = α 23 ∧ α' 24 = α 24 ∧ α' 25 = α 25 ∧ α' 32 = α 32 ∧ α' 33 = α 33 ∧ α' 34 = α 34 ∧ α' 41 = α 41 ∧ α' 42 = α 42 ∧ α' 43 = α 43 ∧ α' 44 = α 44 ∧ α' 45 = α 45 ∧ α' 46 = α 46 ∧ True) := by
  refine Ct_weak (sideS (PT := PT0) (c := c_xf_naked) (Bs := bT) (g := (gX 999)) (N := mX6_naked) (n := 1) rfl (by decide) (k_xf_naked hpl_15) rfl rfl rfl (by decide +kernel) S [a0] rfl (fun _ _ f hf => absurd hf List.not_mem_nil)) (fun v hp' q => ?_)
  obtain ⟨o, ho, r, a, r', a', h1, h2, h3, h4, h5, h6, h7, h8, h9⟩ := q
  cases List.mem_singleton.mp ho
  obtain ⟨z, rfl, hz⟩ := rO_int h4
  exact ⟨z, rfl, h5, r', a', h6, nrc h7 h1 [0, 1, 2, 3, 4, 5, 6, 7, 13] (by decide +kernel) (frc h8 h3 [2, 4, 7, 8, 10, 11, 12, 13, 15, 16, 19, 20, 21, 23, 24, 25, 32, 33, 34, 41, 42, 43, 44, 45, 46] (by decide +kernel) trivial)⟩
set_option maxRecDepth 1000000 in
theorem sy_naked {h : AH} {ρ : Nat → Int} {α : Nat → Int → Int} (S : SD bY gY2 ρ α h) (H : P_ly [] [α 1]) (a0 : Int32) : Ct mX7_naked 12 0 0 [.ref 0, .int a0] h (fun v hp' => ∃ z : Int32, v = some (.int z) ∧ hp'.length = gY2.length ∧ ∃ ρ' α', SD bY gY2 ρ' α' hp' ∧ ρ' 4 = ρ 4 ∧ ρ' 5 = ρ 5 ∧ ρ' 6 = ρ 6 ∧ ρ' 7 = ρ 7 ∧ ρ' 12 = ρ 12 ∧ α' 1 = α 1 ∧ α' 2 = α 2 ∧ α' 9 = α 9 ∧ α' 10 = α 10 ∧ α' 11 = α 11 ∧ α' 12 = α 12 ∧ α' 13 = α 13 ∧ α' 14 = α 14 ∧ α' 15 = α 15 ∧ α' 16 = α 16 ∧ α' 26 = α 26 ∧ α' 27 = α 27 ∧ α' 28 = α 28 ∧ α' 30 = α 30 ∧ α' 31 = α 31 ∧ α' 32 = α 32 ∧ α' 33 = α 33 ∧ True) := by
  refine Ct_weak (sideS (PT := PT0) (c := c_yf_naked) (Bs := bY) (g := gY2) (N := mX7_naked) (n := 1) rfl (by decide) (k_yf_naked hpl_15) rfl rfl rfl (by decide +kernel) S [a0] rfl (fun r _ f hf => by cases List.mem_singleton.mp hf; exact Eq.mpr (hFp_78 [] [1]) H)) (fun v hp' q => ?_)
  obtain ⟨o, ho, r, a, r', a', h1, h2, h3, h4, h5, h6, h7, h8, h9⟩ := q
  cases List.mem_singleton.mp ho
  obtain ⟨z, rfl, hz⟩ := rO_int h4
  exact ⟨z, rfl, h5, r', a', h6, nrc h7 h1 [4, 5, 6, 7, 12] (by decide +kernel) (frc h8 h3 [1, 2, 9, 10, 11, 12, 13, 14, 15, 16, 26, 27, 28, 30, 31, 32, 33] (by decide +kernel) trivial)⟩
set_option maxRecDepth 1000000 in
theorem sx_longest {h : AH} {ρ : Nat → Int} {α : Nat → Int → Int} (S : SD bT (gX 999) ρ α h) (H : True) (a0 : Int32) : Ct mX6_longest 12 0 0 [.ref 0, .int a0] h (fun v hp' => ∃ z : Int32, v = some (.int z) ∧ hp'.length = (gX 999).length ∧ ∃ ρ' α', SD bT (gX 999) ρ' α' hp' ∧ ρ' 0 = ρ 0 ∧ ρ' 1 = ρ 1 ∧ ρ' 2 = ρ 2 ∧ ρ' 3 = ρ 3 ∧ ρ' 4 = ρ 4 ∧ ρ' 5 = ρ 5 ∧ ρ' 6 = ρ 6 ∧ ρ' 7 = ρ 7 ∧ ρ' 13 = ρ 13 ∧ α' 2 = α 2 ∧ α' 4 = α 4 ∧ α' 7 = α 7 ∧ α' 8 = α 8 ∧ α' 10 = α 10 ∧ α' 11 = α 11 ∧ α' 12 = α 12 ∧ α' 13 = α 13 ∧ α' 15 = α 15 ∧ α' 16 = α 16 ∧ α' 19 = α 19 ∧ α' 20 = α 20 ∧ α' 21 = α 21 ∧ α' 23 = α 23 ∧ α' 24 = α 24 ∧ α' 25 = α 25 ∧ α' 32 = α 32 ∧ α' 33 = α 33 ∧ α' 34 = α 34 ∧ α' 41 = α 41 ∧ α' 42 = α 42 ∧ α' 43 = α 43 ∧ α' 44 = α 44 ∧ α' 45 = α 45 ∧ α' 46 = α 46 ∧ True) := by
  refine Ct_weak (sideS (PT := PT0) (c := c_xf_longest) (Bs := bT) (g := (gX 999)) (N := mX6_longest) (n := 1) rfl (by decide) (k_xf_longest hpl_15) rfl rfl rfl (by decide +kernel) S [a0] rfl (fun _ _ f hf => absurd hf List.not_mem_nil)) (fun v hp' q => ?_)
  obtain ⟨o, ho, r, a, r', a', h1, h2, h3, h4, h5, h6, h7, h8, h9⟩ := q
  cases List.mem_singleton.mp ho
  obtain ⟨z, rfl, hz⟩ := rO_int h4
  exact ⟨z, rfl, h5, r', a', h6, nrc h7 h1 [0, 1, 2, 3, 4, 5, 6, 7, 13] (by decide +kernel) (frc h8 h3 [2, 4, 7, 8, 10, 11, 12, 13, 15, 16, 19, 20, 21, 23, 24, 25, 32, 33, 34, 41, 42, 43, 44, 45, 46] (by decide +kernel) trivial)⟩
set_option maxRecDepth 1000000 in
theorem sy_longest {h : AH} {ρ : Nat → Int} {α : Nat → Int → Int} (S : SD bY gY2 ρ α h) (H : P_ly [] [α 1]) (a0 : Int32) : Ct mX7_longest 12 0 0 [.ref 0, .int a0] h (fun v hp' => ∃ z : Int32, v = some (.int z) ∧ hp'.length = gY2.length ∧ ∃ ρ' α', SD bY gY2 ρ' α' hp' ∧ ρ' 4 = ρ 4 ∧ ρ' 5 = ρ 5 ∧ ρ' 6 = ρ 6 ∧ ρ' 7 = ρ 7 ∧ ρ' 12 = ρ 12 ∧ α' 1 = α 1 ∧ α' 2 = α 2 ∧ α' 9 = α 9 ∧ α' 10 = α 10 ∧ α' 11 = α 11 ∧ α' 12 = α 12 ∧ α' 13 = α 13 ∧ α' 14 = α 14 ∧ α' 15 = α 15 ∧ α' 16 = α 16 ∧ α' 26 = α 26 ∧ α' 27 = α 27 ∧ α' 28 = α 28 ∧ α' 30 = α 30 ∧ α' 31 = α 31 ∧ α' 32 = α 32 ∧ α' 33 = α 33 ∧ True) := by
  refine Ct_weak (sideS (PT := PT0) (c := c_yf_longest) (Bs := bY) (g := gY2) (N := mX7_longest) (n := 1) rfl (by decide) (k_yf_longest hpl_15) rfl rfl rfl (by decide +kernel) S [a0] rfl (fun r _ f hf => by cases List.mem_singleton.mp hf; exact Eq.mpr (hFp_78 [] [1]) H)) (fun v hp' q => ?_)
  obtain ⟨o, ho, r, a, r', a', h1, h2, h3, h4, h5, h6, h7, h8, h9⟩ := q
  cases List.mem_singleton.mp ho
  obtain ⟨z, rfl, hz⟩ := rO_int h4
  exact ⟨z, rfl, h5, r', a', h6, nrc h7 h1 [4, 5, 6, 7, 12] (by decide +kernel) (frc h8 h3 [1, 2, 9, 10, 11, 12, 13, 14, 15, 16, 26, 27, 28, 30, 31, 32, 33] (by decide +kernel) trivial)⟩
set_option maxRecDepth 1000000 in
theorem sx_splits {h : AH} {ρ : Nat → Int} {α : Nat → Int → Int} (S : SD bT (gX 999) ρ α h) (H : True) : Ct mX6_splits 12 0 0 [.ref 0] h (fun v hp' => ∃ z : Int32, v = some (.int z) ∧ hp'.length = (gX 999).length ∧ ∃ ρ' α', SD bT (gX 999) ρ' α' hp' ∧ ρ' 0 = ρ 0 ∧ ρ' 1 = ρ 1 ∧ ρ' 2 = ρ 2 ∧ ρ' 3 = ρ 3 ∧ ρ' 4 = ρ 4 ∧ ρ' 5 = ρ 5 ∧ ρ' 6 = ρ 6 ∧ ρ' 7 = ρ 7 ∧ ρ' 13 = ρ 13 ∧ α' 2 = α 2 ∧ α' 4 = α 4 ∧ α' 7 = α 7 ∧ α' 8 = α 8 ∧ α' 10 = α 10 ∧ α' 11 = α 11 ∧ α' 12 = α 12 ∧ α' 13 = α 13 ∧ α' 15 = α 15 ∧ α' 16 = α 16 ∧ α' 19 = α 19 ∧ α' 20 = α 20 ∧ α' 21 = α 21 ∧ α' 23 = α 23 ∧ α' 24 = α 24 ∧ α' 25 = α 25 ∧ α' 32 = α 32 ∧ α' 33 = α 33 ∧ α' 34 = α 34 ∧ α' 41 = α 41 ∧ α' 42 = α 42 ∧ α' 43 = α 43 ∧ α' 44 = α 44 ∧ α' 45 = α 45 ∧ α' 46 = α 46 ∧ True) := by
  refine Ct_weak (sideS (PT := PT0) (c := c_xf_splits) (Bs := bT) (g := (gX 999)) (N := mX6_splits) (n := 0) rfl (by decide) (k_xf_splits hpl_15) rfl rfl rfl (by decide +kernel) S [] rfl (fun _ _ f hf => absurd hf List.not_mem_nil)) (fun v hp' q => ?_)
  obtain ⟨o, ho, r, a, r', a', h1, h2, h3, h4, h5, h6, h7, h8, h9⟩ := q
  cases List.mem_singleton.mp ho
  obtain ⟨z, rfl, hz⟩ := rO_int h4
  exact ⟨z, rfl, h5, r', a', h6, nrc h7 h1 [0, 1, 2, 3, 4, 5, 6, 7, 13] (by decide +kernel) (frc h8 h3 [2, 4, 7, 8, 10, 11, 12, 13, 15, 16, 19, 20, 21, 23, 24, 25, 32, 33, 34, 41, 42, 43, 44, 45, 46] (by decide +kernel) trivial)⟩
set_option maxRecDepth 1000000 in
theorem sy_splits {h : AH} {ρ : Nat → Int} {α : Nat → Int → Int} (S : SD bY gY2 ρ α h) (H : P_ly [] [α 1]) : Ct mX7_splits 12 0 0 [.ref 0] h (fun v hp' => ∃ z : Int32, v = some (.int z) ∧ hp'.length = gY2.length ∧ ∃ ρ' α', SD bY gY2 ρ' α' hp' ∧ ρ' 4 = ρ 4 ∧ ρ' 5 = ρ 5 ∧ ρ' 6 = ρ 6 ∧ ρ' 7 = ρ 7 ∧ ρ' 12 = ρ 12 ∧ α' 1 = α 1 ∧ α' 2 = α 2 ∧ α' 9 = α 9 ∧ α' 10 = α 10 ∧ α' 11 = α 11 ∧ α' 12 = α 12 ∧ α' 13 = α 13 ∧ α' 14 = α 14 ∧ α' 15 = α 15 ∧ α' 16 = α 16 ∧ α' 26 = α 26 ∧ α' 27 = α 27 ∧ α' 28 = α 28 ∧ α' 30 = α 30 ∧ α' 31 = α 31 ∧ α' 32 = α 32 ∧ α' 33 = α 33 ∧ True) := by
  refine Ct_weak (sideS (PT := PT0) (c := c_yf_splits) (Bs := bY) (g := gY2) (N := mX7_splits) (n := 0) rfl (by decide) (k_yf_splits hpl_15) rfl rfl rfl (by decide +kernel) S [] rfl (fun r _ f hf => by cases List.mem_singleton.mp hf; exact Eq.mpr (hFp_78 [] [1]) H)) (fun v hp' q => ?_)
  obtain ⟨o, ho, r, a, r', a', h1, h2, h3, h4, h5, h6, h7, h8, h9⟩ := q
  cases List.mem_singleton.mp ho
  obtain ⟨z, rfl, hz⟩ := rO_int h4
  exact ⟨z, rfl, h5, r', a', h6, nrc h7 h1 [4, 5, 6, 7, 12] (by decide +kernel) (frc h8 h3 [1, 2, 9, 10, 11, 12, 13, 14, 15, 16, 26, 27, 28, 30, 31, 32, 33] (by decide +kernel) trivial)⟩
set_option maxRecDepth 1000000 in
theorem sx_best {h : AH} {ρ : Nat → Int} {α : Nat → Int → Int} (S : SD bT (gX 999) ρ α h) (H : True) : Ct mX6_best 12 0 0 [.ref 0] h (fun v hp' => ∃ z : Int32, v = some (.int z) ∧ hp'.length = (gX 999).length ∧ ∃ ρ' α', SD bT (gX 999) ρ' α' hp' ∧ ρ' 0 = ρ 0 ∧ ρ' 1 = ρ 1 ∧ ρ' 2 = ρ 2 ∧ ρ' 3 = ρ 3 ∧ ρ' 4 = ρ 4 ∧ ρ' 5 = ρ 5 ∧ ρ' 6 = ρ 6 ∧ ρ' 7 = ρ 7 ∧ ρ' 13 = ρ 13 ∧ α' 2 = α 2 ∧ α' 4 = α 4 ∧ α' 7 = α 7 ∧ α' 8 = α 8 ∧ α' 10 = α 10 ∧ α' 11 = α 11 ∧ α' 12 = α 12 ∧ α' 13 = α 13 ∧ α' 15 = α 15 ∧ α' 16 = α 16 ∧ α' 19 = α 19 ∧ α' 20 = α 20 ∧ α' 21 = α 21 ∧ α' 23 = α 23 ∧ α' 24 = α 24 ∧ α' 25 = α 25 ∧ α' 32 = α 32 ∧ α' 33 = α 33 ∧ α' 34 = α 34 ∧ α' 41 = α 41 ∧ α' 42 = α 42 ∧ α' 43 = α 43 ∧ α' 44 = α 44 ∧ α' 45 = α 45 ∧ α' 46 = α 46 ∧ True) := by
  refine Ct_weak (sideS (PT := PT0) (c := c_xf_best) (Bs := bT) (g := (gX 999)) (N := mX6_best) (n := 0) rfl (by decide) (k_xf_best hpl_15) rfl rfl rfl (by decide +kernel) S [] rfl (fun _ _ f hf => absurd hf List.not_mem_nil)) (fun v hp' q => ?_)
  obtain ⟨o, ho, r, a, r', a', h1, h2, h3, h4, h5, h6, h7, h8, h9⟩ := q
  cases List.mem_singleton.mp ho
  obtain ⟨z, rfl, hz⟩ := rO_int h4
  exact ⟨z, rfl, h5, r', a', h6, nrc h7 h1 [0, 1, 2, 3, 4, 5, 6, 7, 13] (by decide +kernel) (frc h8 h3 [2, 4, 7, 8, 10, 11, 12, 13, 15, 16, 19, 20, 21, 23, 24, 25, 32, 33, 34, 41, 42, 43, 44, 45, 46] (by decide +kernel) trivial)⟩
set_option maxRecDepth 1000000 in
theorem sy_best {h : AH} {ρ : Nat → Int} {α : Nat → Int → Int} (S : SD bY gY2 ρ α h) (H : P_ly [] [α 1]) : Ct mX7_best 12 0 0 [.ref 0] h (fun v hp' => ∃ z : Int32, v = some (.int z) ∧ hp'.length = gY2.length ∧ ∃ ρ' α', SD bY gY2 ρ' α' hp' ∧ ρ' 4 = ρ 4 ∧ ρ' 5 = ρ 5 ∧ ρ' 6 = ρ 6 ∧ ρ' 7 = ρ 7 ∧ ρ' 12 = ρ 12 ∧ α' 1 = α 1 ∧ α' 2 = α 2 ∧ α' 9 = α 9 ∧ α' 10 = α 10 ∧ α' 11 = α 11 ∧ α' 12 = α 12 ∧ α' 13 = α 13 ∧ α' 14 = α 14 ∧ α' 15 = α 15 ∧ α' 16 = α 16 ∧ α' 26 = α 26 ∧ α' 27 = α 27 ∧ α' 28 = α 28 ∧ α' 30 = α 30 ∧ α' 31 = α 31 ∧ α' 32 = α 32 ∧ α' 33 = α 33 ∧ True) := by
  refine Ct_weak (sideS (PT := PT0) (c := c_yf_best) (Bs := bY) (g := gY2) (N := mX7_best) (n := 0) rfl (by decide) (k_yf_best hpl_15) rfl rfl rfl (by decide +kernel) S [] rfl (fun r _ f hf => by cases List.mem_singleton.mp hf; exact Eq.mpr (hFp_78 [] [1]) H)) (fun v hp' q => ?_)
  obtain ⟨o, ho, r, a, r', a', h1, h2, h3, h4, h5, h6, h7, h8, h9⟩ := q
  cases List.mem_singleton.mp ho
  obtain ⟨z, rfl, hz⟩ := rO_int h4
  exact ⟨z, rfl, h5, r', a', h6, nrc h7 h1 [4, 5, 6, 7, 12] (by decide +kernel) (frc h8 h3 [1, 2, 9, 10, 11, 12, 13, 14, 15, 16, 26, 27, 28, 30, 31, 32, 33] (by decide +kernel) trivial)⟩
set_option maxRecDepth 1000000 in
theorem sx_swear {h : AH} {ρ : Nat → Int} {α : Nat → Int → Int} (S : SD bT (gX 999) ρ α h) (H : True) (a0 : Int32) (a1 : Int32) : Ct mX6_swear 12 0 0 [.ref 0, .int a0, .int a1] h (fun v hp' => ∃ z : Int32, v = some (.int z) ∧ hp'.length = (gX 999).length ∧ ∃ ρ' α', SD bT (gX 999) ρ' α' hp' ∧ ρ' 0 = ρ 0 ∧ ρ' 1 = ρ 1 ∧ ρ' 2 = ρ 2 ∧ ρ' 3 = ρ 3 ∧ ρ' 4 = ρ 4 ∧ ρ' 5 = ρ 5 ∧ ρ' 6 = ρ 6 ∧ ρ' 7 = ρ 7 ∧ ρ' 13 = ρ 13 ∧ α' 2 = α 2 ∧ α' 4 = α 4 ∧ α' 7 = α 7 ∧ α' 8 = α 8 ∧ α' 15 = α 15 ∧ α' 16 = α 16 ∧ α' 19 = α 19 ∧ α' 20 = α 20 ∧ α' 21 = α 21 ∧ α' 23 = α 23 ∧ α' 24 = α 24 ∧ α' 25 = α 25 ∧ α' 32 = α 32 ∧ α' 33 = α 33 ∧ α' 34 = α 34 ∧ α' 41 = α 41 ∧ α' 42 = α 42 ∧ α' 43 = α 43 ∧ α' 44 = α 44 ∧ α' 45 = α 45 ∧ α' 46 = α 46 ∧ P_al [ρ 3] [α' 10, α 10] ∧ P_al [ρ 3] [α' 11, α 11] ∧ P_al [ρ 3] [α' 12, α 12] ∧ P_al [ρ 3] [α' 13, α 13] ∧ True) := by
  refine Ct_weak (sideS (PT := PT0) (c := c_xf_swear) (Bs := bT) (g := (gX 999)) (N := mX6_swear) (n := 2) rfl (by decide) (k_xf_swear hpl_15) rfl rfl rfl (by decide +kernel) S [a0, a1] rfl (fun _ _ f hf => absurd hf List.not_mem_nil)) (fun v hp' q => ?_)
  obtain ⟨o, ho, r, a, r', a', h1, h2, h3, h4, h5, h6, h7, h8, h9⟩ := q
  cases List.mem_singleton.mp ho
  obtain ⟨z, rfl, hz⟩ := rO_int h4
  have t58 : a 58 = a' 10 := ((h8 10 (by decide +kernel)).trans (congrArg a (by decide +kernel))).symm
  have t59 : a 59 = a' 11 := ((h8 11 (by decide +kernel)).trans (congrArg a (by decide +kernel))).symm
  have t60 : a 60 = a' 12 := ((h8 12 (by decide +kernel)).trans (congrArg a (by decide +kernel))).symm
  have t61 : a 61 = a' 13 := ((h8 13 (by decide +kernel)).trans (congrArg a (by decide +kernel))).symm
  have q3 : r 3 = ρ 3 := h1 3 (by decide)
  have t10 : a 10 = α 10 := h3 10 (by decide +kernel)
  have t11 : a 11 = α 11 := h3 11 (by decide +kernel)
  have t12 : a 12 = α 12 := h3 12 (by decide +kernel)
  have t13 : a 13 = α 13 := h3 13 (by decide +kernel)
  have f0 := h9 _ (List.Mem.head _)
  rw [hFp_186, show PT0 186 = P_al from rfl] at f0
  simp only [List.map_cons, List.map_nil, den_s, den_c, Int.add_zero, q3, t10, t11, t12, t13, t58, t59, t60, t61] at f0
  have f1 := h9 _ (List.Mem.tail _ (List.Mem.head _))
  rw [hFp_186, show PT0 186 = P_al from rfl] at f1
  simp only [List.map_cons, List.map_nil, den_s, den_c, Int.add_zero, q3, t10, t11, t12, t13, t58, t59, t60, t61] at f1
  have f2 := h9 _ (List.Mem.tail _ (List.Mem.tail _ (List.Mem.head _)))
  rw [hFp_186, show PT0 186 = P_al from rfl] at f2
  simp only [List.map_cons, List.map_nil, den_s, den_c, Int.add_zero, q3, t10, t11, t12, t13, t58, t59, t60, t61] at f2
  have f3 := h9 _ (List.Mem.tail _ (List.Mem.tail _ (List.Mem.tail _ (List.Mem.head _))))
  rw [hFp_186, show PT0 186 = P_al from rfl] at f3
  simp only [List.map_cons, List.map_nil, den_s, den_c, Int.add_zero, q3, t10, t11, t12, t13, t58, t59, t60, t61] at f3
  exact ⟨z, rfl, h5, r', a', h6, nrc h7 h1 [0, 1, 2, 3, 4, 5, 6, 7, 13] (by decide +kernel) (frc h8 h3 [2, 4, 7, 8, 15, 16, 19, 20, 21, 23, 24, 25, 32, 33, 34, 41, 42, 43, 44, 45, 46] (by decide +kernel) ⟨f0, f1, f2, f3, trivial⟩)⟩
set_option maxRecDepth 1000000 in
theorem sy_swear {h : AH} {ρ : Nat → Int} {α : Nat → Int → Int} (S : SD bY gY2 ρ α h) (H : P_ly [] [α 1]) (a0 : Int32) (a1 : Int32) : Ct mX7_swear 12 0 0 [.ref 0, .int a0, .int a1] h (fun v hp' => ∃ z : Int32, v = some (.int z) ∧ hp'.length = gY2.length ∧ ∃ ρ' α', SD bY gY2 ρ' α' hp' ∧ ρ' 4 = ρ 4 ∧ ρ' 5 = ρ 5 ∧ ρ' 6 = ρ 6 ∧ ρ' 7 = ρ 7 ∧ ρ' 12 = ρ 12 ∧ α' 1 = α 1 ∧ α' 2 = α 2 ∧ α' 9 = α 9 ∧ α' 10 = α 10 ∧ α' 11 = α 11 ∧ α' 12 = α 12 ∧ α' 13 = α 13 ∧ α' 14 = α 14 ∧ α' 15 = α 15 ∧ α' 16 = α 16 ∧ α' 26 = α 26 ∧ α' 27 = α 27 ∧ α' 28 = α 28 ∧ α' 30 = α 30 ∧ α' 31 = α 31 ∧ α' 32 = α 32 ∧ α' 33 = α 33 ∧ True) := by
  refine Ct_weak (sideS (PT := PT0) (c := c_yf_swear) (Bs := bY) (g := gY2) (N := mX7_swear) (n := 2) rfl (by decide) (k_yf_swear hpl_15) rfl rfl rfl (by decide +kernel) S [a0, a1] rfl (fun r _ f hf => by cases List.mem_singleton.mp hf; exact Eq.mpr (hFp_78 [] [1]) H)) (fun v hp' q => ?_)
  obtain ⟨o, ho, r, a, r', a', h1, h2, h3, h4, h5, h6, h7, h8, h9⟩ := q
  cases List.mem_singleton.mp ho
  obtain ⟨z, rfl, hz⟩ := rO_int h4
  exact ⟨z, rfl, h5, r', a', h6, nrc h7 h1 [4, 5, 6, 7, 12] (by decide +kernel) (frc h8 h3 [1, 2, 9, 10, 11, 12, 13, 14, 15, 16, 26, 27, 28, 30, 31, 32, 33] (by decide +kernel) trivial)⟩
set_option maxRecDepth 1000000 in
theorem sx_keep {h : AH} {ρ : Nat → Int} {α : Nat → Int → Int} (S : SD bT (gX 999) ρ α h) (H : True) (a0 : Int32) (a1 : Int32) : Ct mX6_keep 12 0 0 [.ref 0, .int a0, .int a1] h (fun v hp' => ∃ z : Int32, v = some (.int z) ∧ hp'.length = (gX 999).length ∧ ∃ ρ' α', SD bT (gX 999) ρ' α' hp' ∧ ρ' 0 = ρ 0 ∧ ρ' 1 = ρ 1 ∧ ρ' 2 = ρ 2 ∧ ρ' 3 = ρ 3 ∧ ρ' 4 = ρ 4 ∧ ρ' 5 = ρ 5 ∧ ρ' 6 = ρ 6 ∧ ρ' 7 = ρ 7 ∧ ρ' 13 = ρ 13 ∧ α' 2 = α 2 ∧ α' 4 = α 4 ∧ α' 7 = α 7 ∧ α' 8 = α 8 ∧ α' 10 = α 10 ∧ α' 11 = α 11 ∧ α' 12 = α 12 ∧ α' 13 = α 13 ∧ α' 19 = α 19 ∧ α' 20 = α 20 ∧ α' 21 = α 21 ∧ α' 23 = α 23 ∧ α' 24 = α 24 ∧ α' 25 = α 25 ∧ α' 32 = α 32 ∧ α' 33 = α 33 ∧ α' 34 = α 34 ∧ α' 41 = α 41 ∧ α' 42 = α 42 ∧ α' 43 = α 43 ∧ α' 44 = α 44 ∧ α' 45 = α 45 ∧ α' 46 = α 46 ∧ P_al [ρ 4] [α' 15, α 15] ∧ P_al [ρ 4] [α' 16, α 16] ∧ True) := by
  refine Ct_weak (sideS (PT := PT0) (c := c_xf_keep) (Bs := bT) (g := (gX 999)) (N := mX6_keep) (n := 2) rfl (by decide) (k_xf_keep hpl_15) rfl rfl rfl (by decide +kernel) S [a0, a1] rfl (fun _ _ f hf => absurd hf List.not_mem_nil)) (fun v hp' q => ?_)
  obtain ⟨o, ho, r, a, r', a', h1, h2, h3, h4, h5, h6, h7, h8, h9⟩ := q
  cases List.mem_singleton.mp ho
  obtain ⟨z, rfl, hz⟩ := rO_int h4
  have t58 : a 58 = a' 15 := ((h8 15 (by decide +kernel)).trans (congrArg a (by decide +kernel))).symm
  have t59 : a 59 = a' 16 := ((h8 16 (by decide +kernel)).trans (congrArg a (by decide +kernel))).symm
  have q4 : r 4 = ρ 4 := h1 4 (by decide)
  have t15 : a 15 = α 15 := h3 15 (by decide +kernel)
  have t16 : a 16 = α 16 := h3 16 (by decide +kernel)
  have f0 := h9 _ (List.Mem.head _)
  rw [hFp_186, show PT0 186 = P_al from rfl] at f0
  simp only [List.map_cons, List.map_nil, den_s, den_c, Int.add_zero, q4, t15, t16, t58, t59] at f0
  have f1 := h9 _ (List.Mem.tail _ (List.Mem.head _))
  rw [hFp_186, show PT0 186 = P_al from rfl] at f1
  simp only [List.map_cons, List.map_nil, den_s, den_c, Int.add_zero, q4, t15, t16, t58, t59] at f1
  exact ⟨z, rfl, h5, r', a', h6, nrc h7 h1 [0, 1, 2, 3, 4, 5, 6, 7, 13] (by decide +kernel) (frc h8 h3 [2, 4, 7, 8, 10, 11, 12, 13, 19, 20, 21, 23, 24, 25, 32, 33, 34, 41, 42, 43, 44, 45, 46] (by decide +kernel) ⟨f0, f1, trivial⟩)⟩
set_option maxRecDepth 1000000 in
theorem sy_keep {h : AH} {ρ : Nat → Int} {α : Nat → Int → Int} (S : SD bY gY2 ρ α h) (H : P_ly [] [α 1]) (a0 : Int32) (a1 : Int32) : Ct mX7_keep 12 0 0 [.ref 0, .int a0, .int a1] h (fun v hp' => ∃ z : Int32, v = some (.int z) ∧ hp'.length = gY2.length ∧ ∃ ρ' α', SD bY gY2 ρ' α' hp' ∧ ρ' 4 = ρ 4 ∧ ρ' 5 = ρ 5 ∧ ρ' 6 = ρ 6 ∧ ρ' 7 = ρ 7 ∧ ρ' 12 = ρ 12 ∧ α' 1 = α 1 ∧ α' 2 = α 2 ∧ α' 9 = α 9 ∧ α' 10 = α 10 ∧ α' 11 = α 11 ∧ α' 12 = α 12 ∧ α' 13 = α 13 ∧ α' 14 = α 14 ∧ α' 15 = α 15 ∧ α' 16 = α 16 ∧ α' 26 = α 26 ∧ α' 27 = α 27 ∧ α' 28 = α 28 ∧ α' 30 = α 30 ∧ α' 31 = α 31 ∧ α' 32 = α 32 ∧ α' 33 = α 33 ∧ True) := by
  refine Ct_weak (sideS (PT := PT0) (c := c_yf_keep) (Bs := bY) (g := gY2) (N := mX7_keep) (n := 2) rfl (by decide) (k_yf_keep hpl_15) rfl rfl rfl (by decide +kernel) S [a0, a1] rfl (fun r _ f hf => by cases List.mem_singleton.mp hf; exact Eq.mpr (hFp_78 [] [1]) H)) (fun v hp' q => ?_)
  obtain ⟨o, ho, r, a, r', a', h1, h2, h3, h4, h5, h6, h7, h8, h9⟩ := q
  cases List.mem_singleton.mp ho
  obtain ⟨z, rfl, hz⟩ := rO_int h4
  exact ⟨z, rfl, h5, r', a', h6, nrc h7 h1 [4, 5, 6, 7, 12] (by decide +kernel) (frc h8 h3 [1, 2, 9, 10, 11, 12, 13, 14, 15, 16, 26, 27, 28, 30, 31, 32, 33] (by decide +kernel) trivial)⟩
set_option maxRecDepth 1000000 in
theorem sx_due {h : AH} {ρ : Nat → Int} {α : Nat → Int → Int} (S : SD bT (gX 999) ρ α h) (H : True) (a0 : Int32) (a1 : Int32) : Ct mX6_due 12 0 0 [.ref 0, .int a0, .int a1] h (fun v hp' => ∃ z : Int32, v = some (.int z) ∧ hp'.length = (gX 999).length ∧ ∃ ρ' α', SD bT (gX 999) ρ' α' hp' ∧ ρ' 0 = ρ 0 ∧ ρ' 1 = ρ 1 ∧ ρ' 2 = ρ 2 ∧ ρ' 3 = ρ 3 ∧ ρ' 4 = ρ 4 ∧ ρ' 5 = ρ 5 ∧ ρ' 6 = ρ 6 ∧ ρ' 7 = ρ 7 ∧ ρ' 13 = ρ 13 ∧ α' 2 = α 2 ∧ α' 4 = α 4 ∧ α' 7 = α 7 ∧ α' 8 = α 8 ∧ α' 10 = α 10 ∧ α' 11 = α 11 ∧ α' 12 = α 12 ∧ α' 15 = α 15 ∧ α' 16 = α 16 ∧ α' 19 = α 19 ∧ α' 20 = α 20 ∧ α' 21 = α 21 ∧ α' 23 = α 23 ∧ α' 24 = α 24 ∧ α' 25 = α 25 ∧ α' 32 = α 32 ∧ α' 33 = α 33 ∧ α' 34 = α 34 ∧ α' 41 = α 41 ∧ α' 42 = α 42 ∧ α' 43 = α 43 ∧ α' 44 = α 44 ∧ α' 45 = α 45 ∧ α' 46 = α 46 ∧ α' 13 = α 13 ∧ True) := by
  refine Ct_weak (sideS (PT := PT0) (c := c_xf_due) (Bs := bT) (g := (gX 999)) (N := mX6_due) (n := 2) rfl (by decide) (k_xf_due hpl_15) rfl rfl rfl (by decide +kernel) S [a0, a1] rfl (fun _ _ f hf => absurd hf List.not_mem_nil)) (fun v hp' q => ?_)
  obtain ⟨o, ho, r, a, r', a', h1, h2, h3, h4, h5, h6, h7, h8, h9⟩ := q
  cases List.mem_singleton.mp ho
  obtain ⟨z, rfl, hz⟩ := rO_int h4
  have t58 : a 58 = a' 13 := ((h8 13 (by decide +kernel)).trans (congrArg a (by decide +kernel))).symm
  have t13 : a 13 = α 13 := h3 13 (by decide +kernel)
  have f0 := h9 _ (List.Mem.head _)
  rw [hF27] at f0
  simp only [List.map_cons, List.map_nil, den_s, den_c, Int.add_zero, t13, t58] at f0
  exact ⟨z, rfl, h5, r', a', h6, nrc h7 h1 [0, 1, 2, 3, 4, 5, 6, 7, 13] (by decide +kernel) (frc h8 h3 [2, 4, 7, 8, 10, 11, 12, 15, 16, 19, 20, 21, 23, 24, 25, 32, 33, 34, 41, 42, 43, 44, 45, 46] (by decide +kernel) ⟨f0, trivial⟩)⟩
set_option maxRecDepth 1000000 in
theorem sy_due {h : AH} {ρ : Nat → Int} {α : Nat → Int → Int} (S : SD bY gY2 ρ α h) (H : P_ly [] [α 1]) (a0 : Int32) (a1 : Int32) : Ct mX7_due 12 0 0 [.ref 0, .int a0, .int a1] h (fun v hp' => ∃ z : Int32, v = some (.int z) ∧ hp'.length = gY2.length ∧ ∃ ρ' α', SD bY gY2 ρ' α' hp' ∧ ρ' 4 = ρ 4 ∧ ρ' 5 = ρ 5 ∧ ρ' 6 = ρ 6 ∧ ρ' 7 = ρ 7 ∧ ρ' 12 = ρ 12 ∧ α' 1 = α 1 ∧ α' 2 = α 2 ∧ α' 9 = α 9 ∧ α' 10 = α 10 ∧ α' 11 = α 11 ∧ α' 12 = α 12 ∧ α' 13 = α 13 ∧ α' 14 = α 14 ∧ α' 15 = α 15 ∧ α' 16 = α 16 ∧ α' 26 = α 26 ∧ α' 27 = α 27 ∧ α' 28 = α 28 ∧ α' 30 = α 30 ∧ α' 31 = α 31 ∧ α' 32 = α 32 ∧ α' 33 = α 33 ∧ True) := by
  refine Ct_weak (sideS (PT := PT0) (c := c_yf_due) (Bs := bY) (g := gY2) (N := mX7_due) (n := 2) rfl (by decide) (k_yf_due hpl_15) rfl rfl rfl (by decide +kernel) S [a0, a1] rfl (fun r _ f hf => by cases List.mem_singleton.mp hf; exact Eq.mpr (hFp_78 [] [1]) H)) (fun v hp' q => ?_)
  obtain ⟨o, ho, r, a, r', a', h1, h2, h3, h4, h5, h6, h7, h8, h9⟩ := q
  cases List.mem_singleton.mp ho
  obtain ⟨z, rfl, hz⟩ := rO_int h4
  exact ⟨z, rfl, h5, r', a', h6, nrc h7 h1 [4, 5, 6, 7, 12] (by decide +kernel) (frc h8 h3 [1, 2, 9, 10, 11, 12, 13, 14, 15, 16, 26, 27, 28, 30, 31, 32, 33] (by decide +kernel) trivial)⟩
set_option maxRecDepth 1000000 in
theorem sx_hush {h : AH} {ρ : Nat → Int} {α : Nat → Int → Int} (S : SD bT (gX 999) ρ α h) (H : True) (a0 : Int32) : Ct mX6_hush 12 0 0 [.ref 0, .int a0] h (fun v hp' => ∃ z : Int32, v = some (.int z) ∧ hp'.length = (gX 999).length ∧ ∃ ρ' α', SD bT (gX 999) ρ' α' hp' ∧ ρ' 0 = ρ 0 ∧ ρ' 1 = ρ 1 ∧ ρ' 2 = ρ 2 ∧ ρ' 3 = ρ 3 ∧ ρ' 4 = ρ 4 ∧ ρ' 5 = ρ 5 ∧ ρ' 6 = ρ 6 ∧ ρ' 7 = ρ 7 ∧ ρ' 13 = ρ 13 ∧ α' 2 = α 2 ∧ α' 4 = α 4 ∧ α' 7 = α 7 ∧ α' 8 = α 8 ∧ α' 10 = α 10 ∧ α' 11 = α 11 ∧ α' 12 = α 12 ∧ α' 13 = α 13 ∧ α' 15 = α 15 ∧ α' 16 = α 16 ∧ α' 19 = α 19 ∧ α' 20 = α 20 ∧ α' 21 = α 21 ∧ α' 23 = α 23 ∧ α' 24 = α 24 ∧ α' 25 = α 25 ∧ α' 32 = α 32 ∧ α' 33 = α 33 ∧ α' 34 = α 34 ∧ α' 41 = α 41 ∧ α' 42 = α 42 ∧ α' 43 = α 43 ∧ α' 44 = α 44 ∧ α' 45 = α 45 ∧ α' 46 = α 46 ∧ True) := by
  refine Ct_weak (sideS (PT := PT0) (c := c_xf_hush) (Bs := bT) (g := (gX 999)) (N := mX6_hush) (n := 1) rfl (by decide) (k_xf_hush hpl_15) rfl rfl rfl (by decide +kernel) S [a0] rfl (fun _ _ f hf => absurd hf List.not_mem_nil)) (fun v hp' q => ?_)
  obtain ⟨o, ho, r, a, r', a', h1, h2, h3, h4, h5, h6, h7, h8, h9⟩ := q
  cases List.mem_singleton.mp ho
  obtain ⟨z, rfl, hz⟩ := rO_int h4
  exact ⟨z, rfl, h5, r', a', h6, nrc h7 h1 [0, 1, 2, 3, 4, 5, 6, 7, 13] (by decide +kernel) (frc h8 h3 [2, 4, 7, 8, 10, 11, 12, 13, 15, 16, 19, 20, 21, 23, 24, 25, 32, 33, 34, 41, 42, 43, 44, 45, 46] (by decide +kernel) trivial)⟩
set_option maxRecDepth 1000000 in
theorem sy_hush {h : AH} {ρ : Nat → Int} {α : Nat → Int → Int} (S : SD bY gY2 ρ α h) (H : P_ly [] [α 1]) (a0 : Int32) : Ct mX7_hush 12 0 0 [.ref 0, .int a0] h (fun v hp' => ∃ z : Int32, v = some (.int z) ∧ hp'.length = gY2.length ∧ ∃ ρ' α', SD bY gY2 ρ' α' hp' ∧ ρ' 4 = ρ 4 ∧ ρ' 5 = ρ 5 ∧ ρ' 6 = ρ 6 ∧ ρ' 7 = ρ 7 ∧ ρ' 12 = ρ 12 ∧ α' 1 = α 1 ∧ α' 2 = α 2 ∧ α' 9 = α 9 ∧ α' 10 = α 10 ∧ α' 11 = α 11 ∧ α' 12 = α 12 ∧ α' 13 = α 13 ∧ α' 14 = α 14 ∧ α' 15 = α 15 ∧ α' 16 = α 16 ∧ α' 26 = α 26 ∧ α' 27 = α 27 ∧ α' 28 = α 28 ∧ α' 30 = α 30 ∧ α' 31 = α 31 ∧ α' 32 = α 32 ∧ α' 33 = α 33 ∧ True) := by
  refine Ct_weak (sideS (PT := PT0) (c := c_yf_hush) (Bs := bY) (g := gY2) (N := mX7_hush) (n := 1) rfl (by decide) (k_yf_hush hpl_15) rfl rfl rfl (by decide +kernel) S [a0] rfl (fun r _ f hf => by cases List.mem_singleton.mp hf; exact Eq.mpr (hFp_78 [] [1]) H)) (fun v hp' q => ?_)
  obtain ⟨o, ho, r, a, r', a', h1, h2, h3, h4, h5, h6, h7, h8, h9⟩ := q
  cases List.mem_singleton.mp ho
  obtain ⟨z, rfl, hz⟩ := rO_int h4
  exact ⟨z, rfl, h5, r', a', h6, nrc h7 h1 [4, 5, 6, 7, 12] (by decide +kernel) (frc h8 h3 [1, 2, 9, 10, 11, 12, 13, 14, 15, 16, 26, 27, 28, 30, 31, 32, 33] (by decide +kernel) trivial)⟩
set_option maxRecDepth 1000000 in
theorem sx_seen {h : AH} {ρ : Nat → Int} {α : Nat → Int → Int} (S : SD bT (gX 999) ρ α h) (H : True) (a0 : Int32) (a1 : Int32) (a2 : Int32) : Ct mX6_seen 12 0 0 [.ref 0, .int a0, .int a1, .int a2] h (fun v hp' => ∃ z : Int32, v = some (.int z) ∧ hp'.length = (gX 999).length ∧ ∃ ρ' α', SD bT (gX 999) ρ' α' hp' ∧ ρ' 0 = ρ 0 ∧ ρ' 1 = ρ 1 ∧ ρ' 2 = ρ 2 ∧ ρ' 3 = ρ 3 ∧ ρ' 4 = ρ 4 ∧ ρ' 5 = ρ 5 ∧ ρ' 6 = ρ 6 ∧ ρ' 13 = ρ 13 ∧ α' 2 = α 2 ∧ α' 4 = α 4 ∧ α' 7 = α 7 ∧ α' 8 = α 8 ∧ α' 10 = α 10 ∧ α' 11 = α 11 ∧ α' 12 = α 12 ∧ α' 13 = α 13 ∧ α' 15 = α 15 ∧ α' 16 = α 16 ∧ α' 19 = α 19 ∧ α' 20 = α 20 ∧ α' 21 = α 21 ∧ α' 23 = α 23 ∧ α' 24 = α 24 ∧ α' 25 = α 25 ∧ α' 41 = α 41 ∧ α' 42 = α 42 ∧ α' 43 = α 43 ∧ α' 44 = α 44 ∧ α' 45 = α 45 ∧ α' 46 = α 46 ∧ P_seA [z.toInt, a0.toInt, a1.toInt, a2.toInt, ρ 7, ρ' 7] [α 32, α 33, α 34, α' 32, α' 33, α' 34] ∧ True) := by
  refine Ct_weak (sideS (PT := PT0) (c := c_xo_seen) (Bs := bT) (g := (gX 999)) (N := mX6_seen) (n := 3) rfl (by decide) (k_xo_seen hpl_6) rfl rfl rfl (by decide +kernel) S [a0, a1, a2] rfl (fun _ _ f hf => absurd hf List.not_mem_nil)) (fun v hp' q => ?_)
  obtain ⟨o, ho, r, a, r', a', h1, h2, h3, h4, h5, h6, h7, h8, h9⟩ := q
  cases List.mem_singleton.mp ho
  obtain ⟨z, rfl, hz⟩ := rO_int h4
  have t58 : a 58 = a' 32 := ((h8 32 (by decide +kernel)).trans (congrArg a (by decide +kernel))).symm
  have t59 : a 59 = a' 33 := ((h8 33 (by decide +kernel)).trans (congrArg a (by decide +kernel))).symm
  have t60 : a 60 = a' 34 := ((h8 34 (by decide +kernel)).trans (congrArg a (by decide +kernel))).symm
  have q18 : r 18 = r' 7 := (((h7 7).trans (den_of (m := (some 18, 0)) (by decide +kernel))).trans (Int.add_zero _)).symm
  have q14 : r 14 = a0.toInt := h2 0 (by decide)
  have q15 : r 15 = a1.toInt := h2 1 (by decide)
  have q16 : r 16 = a2.toInt := h2 2 (by decide)
  have q7 : r 7 = ρ 7 := h1 7 (by decide)
  have t32 : a 32 = α 32 := h3 32 (by decide +kernel)
  have t33 : a 33 = α 33 := h3 33 (by decide +kernel)
  have t34 : a 34 = α 34 := h3 34 (by decide +kernel)
  have q17 : r 17 = z.toInt := (hz.trans (Int.add_zero _)).symm
  have f0 := h9 _ (List.Mem.head _)
  rw [hFp_116, show PT0 116 = P_seA from rfl] at f0
  simp only [List.map_cons, List.map_nil, den_s, den_c, Int.add_zero, q14, q15, q16, q17, q18, q7, t32, t33, t34, t58, t59, t60] at f0
  exact ⟨z, rfl, h5, r', a', h6, nrc h7 h1 [0, 1, 2, 3, 4, 5, 6, 13] (by decide +kernel) (frc h8 h3 [2, 4, 7, 8, 10, 11, 12, 13, 15, 16, 19, 20, 21, 23, 24, 25, 41, 42, 43, 44, 45, 46] (by decide +kernel) ⟨f0, trivial⟩)⟩
set_option maxRecDepth 1000000 in
theorem sy_seen {h : AH} {ρ : Nat → Int} {α : Nat → Int → Int} (S : SD bY gY2 ρ α h) (H : P_ly [] [α 1]) (a0 : Int32) (a1 : Int32) (a2 : Int32) : Ct mX7_seen 12 0 0 [.ref 0, .int a0, .int a1, .int a2] h (fun v hp' => ∃ z : Int32, v = some (.int z) ∧ hp'.length = gY2.length ∧ ∃ ρ' α', SD bY gY2 ρ' α' hp' ∧ ρ' 4 = ρ 4 ∧ ρ' 5 = ρ 5 ∧ ρ' 6 = ρ 6 ∧ ρ' 12 = ρ 12 ∧ α' 1 = α 1 ∧ α' 2 = α 2 ∧ α' 9 = α 9 ∧ α' 10 = α 10 ∧ α' 11 = α 11 ∧ α' 12 = α 12 ∧ α' 13 = α 13 ∧ α' 14 = α 14 ∧ α' 15 = α 15 ∧ α' 16 = α 16 ∧ α' 30 = α 30 ∧ α' 31 = α 31 ∧ α' 32 = α 32 ∧ α' 33 = α 33 ∧ P_seA [z.toInt, a0.toInt, a1.toInt, a2.toInt, ρ 7, ρ' 7] [α 26, α 27, α 28, α' 26, α' 27, α' 28] ∧ True) := by
  refine Ct_weak (sideS (PT := PT0) (c := c_yo_seen) (Bs := bY) (g := gY2) (N := mX7_seen) (n := 3) rfl (by decide) (k_yo_seen hpl_7) rfl rfl rfl (by decide +kernel) S [a0, a1, a2] rfl (fun _ _ f hf => absurd hf List.not_mem_nil)) (fun v hp' q => ?_)
  obtain ⟨o, ho, r, a, r', a', h1, h2, h3, h4, h5, h6, h7, h8, h9⟩ := q
  cases List.mem_singleton.mp ho
  obtain ⟨z, rfl, hz⟩ := rO_int h4
  have t35 : a 35 = a' 26 := ((h8 26 (by decide +kernel)).trans (congrArg a (by decide +kernel))).symm
  have t36 : a 36 = a' 27 := ((h8 27 (by decide +kernel)).trans (congrArg a (by decide +kernel))).symm
  have t37 : a 37 = a' 28 := ((h8 28 (by decide +kernel)).trans (congrArg a (by decide +kernel))).symm
  have q17 : r 17 = r' 7 := (((h7 7).trans (den_of (m := (some 17, 0)) (by decide +kernel))).trans (Int.add_zero _)).symm
  have q13 : r 13 = a0.toInt := h2 0 (by decide)
  have q14 : r 14 = a1.toInt := h2 1 (by decide)
  have q15 : r 15 = a2.toInt := h2 2 (by decide)
  have q7 : r 7 = ρ 7 := h1 7 (by decide)
  have t26 : a 26 = α 26 := h3 26 (by decide +kernel)
  have t27 : a 27 = α 27 := h3 27 (by decide +kernel)
  have t28 : a 28 = α 28 := h3 28 (by decide +kernel)
  have q16 : r 16 = z.toInt := (hz.trans (Int.add_zero _)).symm
  have f0 := h9 _ (List.Mem.head _)
  rw [hFp_116, show PT0 116 = P_seA from rfl] at f0
  simp only [List.map_cons, List.map_nil, den_s, den_c, Int.add_zero, q13, q14, q15, q16, q17, q7, t26, t27, t28, t35, t36, t37] at f0
  exact ⟨z, rfl, h5, r', a', h6, nrc h7 h1 [4, 5, 6, 12] (by decide +kernel) (frc h8 h3 [1, 2, 9, 10, 11, 12, 13, 14, 15, 16, 30, 31, 32, 33] (by decide +kernel) ⟨f0, trivial⟩)⟩
set_option maxRecDepth 1000000 in
theorem sx_forget {h : AH} {ρ : Nat → Int} {α : Nat → Int → Int} (S : SD bT (gX 999) ρ α h) (H : True) : Ct mX6_forget 12 0 0 [.ref 0] h (fun v hp' => ∃ z : Int32, v = some (.int z) ∧ hp'.length = (gX 999).length ∧ ∃ ρ' α', SD bT (gX 999) ρ' α' hp' ∧ ρ' 0 = ρ 0 ∧ ρ' 1 = ρ 1 ∧ ρ' 2 = ρ 2 ∧ ρ' 3 = ρ 3 ∧ ρ' 4 = ρ 4 ∧ ρ' 5 = ρ 5 ∧ ρ' 6 = ρ 6 ∧ ρ' 13 = ρ 13 ∧ α' 2 = α 2 ∧ α' 4 = α 4 ∧ α' 7 = α 7 ∧ α' 8 = α 8 ∧ α' 10 = α 10 ∧ α' 11 = α 11 ∧ α' 12 = α 12 ∧ α' 13 = α 13 ∧ α' 15 = α 15 ∧ α' 16 = α 16 ∧ α' 19 = α 19 ∧ α' 20 = α 20 ∧ α' 21 = α 21 ∧ α' 23 = α 23 ∧ α' 24 = α 24 ∧ α' 25 = α 25 ∧ α' 32 = α 32 ∧ α' 33 = α 33 ∧ α' 34 = α 34 ∧ α' 41 = α 41 ∧ α' 42 = α 42 ∧ α' 43 = α 43 ∧ α' 44 = α 44 ∧ α' 45 = α 45 ∧ α' 46 = α 46 ∧ P_foA [ρ 7, ρ 7, ρ' 7] [] ∧ True) := by
  refine Ct_weak (sideS (PT := PT0) (c := c_xo_forget) (Bs := bT) (g := (gX 999)) (N := mX6_forget) (n := 0) rfl (by decide) (k_xo_forget hpl_6) rfl rfl rfl (by decide +kernel) S [] rfl (fun _ _ f hf => absurd hf List.not_mem_nil)) (fun v hp' q => ?_)
  obtain ⟨o, ho, r, a, r', a', h1, h2, h3, h4, h5, h6, h7, h8, h9⟩ := q
  cases List.mem_singleton.mp ho
  obtain ⟨z, rfl, hz⟩ := rO_int h4
  have q14 : r 14 = r' 7 := (((h7 7).trans (den_of (m := (some 14, 0)) (by decide +kernel))).trans (Int.add_zero _)).symm
  have q7 : r 7 = ρ 7 := h1 7 (by decide)
  have f0 := h9 _ (List.Mem.head _)
  rw [hFp_118, show PT0 118 = P_foA from rfl] at f0
  simp only [List.map_cons, List.map_nil, den_s, den_c, Int.add_zero, q14, q7] at f0
  exact ⟨z, rfl, h5, r', a', h6, nrc h7 h1 [0, 1, 2, 3, 4, 5, 6, 13] (by decide +kernel) (frc h8 h3 [2, 4, 7, 8, 10, 11, 12, 13, 15, 16, 19, 20, 21, 23, 24, 25, 32, 33, 34, 41, 42, 43, 44, 45, 46] (by decide +kernel) ⟨f0, trivial⟩)⟩
set_option maxRecDepth 1000000 in
theorem sy_forget {h : AH} {ρ : Nat → Int} {α : Nat → Int → Int} (S : SD bY gY2 ρ α h) (H : P_ly [] [α 1]) : Ct mX7_forget 12 0 0 [.ref 0] h (fun v hp' => ∃ z : Int32, v = some (.int z) ∧ hp'.length = gY2.length ∧ ∃ ρ' α', SD bY gY2 ρ' α' hp' ∧ ρ' 4 = ρ 4 ∧ ρ' 5 = ρ 5 ∧ ρ' 6 = ρ 6 ∧ ρ' 12 = ρ 12 ∧ α' 1 = α 1 ∧ α' 2 = α 2 ∧ α' 9 = α 9 ∧ α' 10 = α 10 ∧ α' 11 = α 11 ∧ α' 12 = α 12 ∧ α' 13 = α 13 ∧ α' 14 = α 14 ∧ α' 15 = α 15 ∧ α' 16 = α 16 ∧ α' 26 = α 26 ∧ α' 27 = α 27 ∧ α' 28 = α 28 ∧ α' 30 = α 30 ∧ α' 31 = α 31 ∧ α' 32 = α 32 ∧ α' 33 = α 33 ∧ P_foA [ρ 7, ρ 7, ρ' 7] [] ∧ True) := by
  refine Ct_weak (sideS (PT := PT0) (c := c_yo_forget) (Bs := bY) (g := gY2) (N := mX7_forget) (n := 0) rfl (by decide) (k_yo_forget hpl_7) rfl rfl rfl (by decide +kernel) S [] rfl (fun _ _ f hf => absurd hf List.not_mem_nil)) (fun v hp' q => ?_)
  obtain ⟨o, ho, r, a, r', a', h1, h2, h3, h4, h5, h6, h7, h8, h9⟩ := q
  cases List.mem_singleton.mp ho
  obtain ⟨z, rfl, hz⟩ := rO_int h4
  have q13 : r 13 = r' 7 := (((h7 7).trans (den_of (m := (some 13, 0)) (by decide +kernel))).trans (Int.add_zero _)).symm
  have q7 : r 7 = ρ 7 := h1 7 (by decide)
  have f0 := h9 _ (List.Mem.head _)
  rw [hFp_118, show PT0 118 = P_foA from rfl] at f0
  simp only [List.map_cons, List.map_nil, den_s, den_c, Int.add_zero, q13, q7] at f0
  exact ⟨z, rfl, h5, r', a', h6, nrc h7 h1 [4, 5, 6, 12] (by decide +kernel) (frc h8 h3 [1, 2, 9, 10, 11, 12, 13, 14, 15, 16, 26, 27, 28, 30, 31, 32, 33] (by decide +kernel) ⟨f0, trivial⟩)⟩
set_option maxRecDepth 1000000 in
theorem sx_never {h : AH} {ρ : Nat → Int} {α : Nat → Int → Int} (S : SD bT (gX 999) ρ α h) (H : True) : Ct mX6_never 12 0 0 [.ref 0] h (fun v hp' => ∃ z : Int32, v = some (.int z) ∧ hp'.length = (gX 999).length ∧ ∃ ρ' α', SD bT (gX 999) ρ' α' hp' ∧ ρ' 0 = ρ 0 ∧ ρ' 1 = ρ 1 ∧ ρ' 2 = ρ 2 ∧ ρ' 3 = ρ 3 ∧ ρ' 4 = ρ 4 ∧ ρ' 5 = ρ 5 ∧ ρ' 6 = ρ 6 ∧ ρ' 7 = ρ 7 ∧ ρ' 13 = ρ 13 ∧ α' 2 = α 2 ∧ α' 4 = α 4 ∧ α' 7 = α 7 ∧ α' 8 = α 8 ∧ α' 10 = α 10 ∧ α' 11 = α 11 ∧ α' 12 = α 12 ∧ α' 13 = α 13 ∧ α' 15 = α 15 ∧ α' 16 = α 16 ∧ α' 19 = α 19 ∧ α' 20 = α 20 ∧ α' 21 = α 21 ∧ α' 23 = α 23 ∧ α' 24 = α 24 ∧ α' 25 = α 25 ∧ α' 32 = α 32 ∧ α' 33 = α 33 ∧ α' 34 = α 34 ∧ α' 41 = α 41 ∧ α' 42 = α 42 ∧ α' 43 = α 43 ∧ α' 44 = α 44 ∧ α' 45 = α 45 ∧ α' 46 = α 46 ∧ P_onvX [z.toInt, ρ 7, ρ 2, ρ 3, ρ 4, ρ 5, ρ 6] [α 7, α 8, α 10, α 11, α 12, α 13, α 15, α 16, α 19, α 20, α 21, α 23, α 24, α 25, α 32, α 33, α 34] ∧ True) := by
  refine Ct_weak (sideS (PT := PT0) (c := c_xo_never) (Bs := bT) (g := (gX 999)) (N := mX6_never) (n := 0) rfl (by decide) (k_xo_never hpl_15) rfl rfl rfl (by decide +kernel) S [] rfl (fun _ _ f hf => absurd hf List.not_mem_nil)) (fun v hp' q => ?_)
  obtain ⟨o, ho, r, a, r', a', h1, h2, h3, h4, h5, h6, h7, h8, h9⟩ := q
  cases List.mem_singleton.mp ho
  obtain ⟨z, rfl, hz⟩ := rO_int h4
  have q2 : r 2 = ρ 2 := h1 2 (by decide)
  have q3 : r 3 = ρ 3 := h1 3 (by decide)
  have q4 : r 4 = ρ 4 := h1 4 (by decide)
  have q5 : r 5 = ρ 5 := h1 5 (by decide)
  have q6 : r 6 = ρ 6 := h1 6 (by decide)
  have q7 : r 7 = ρ 7 := h1 7 (by decide)
  have t10 : a 10 = α 10 := h3 10 (by decide +kernel)
  have t11 : a 11 = α 11 := h3 11 (by decide +kernel)
  have t12 : a 12 = α 12 := h3 12 (by decide +kernel)
  have t13 : a 13 = α 13 := h3 13 (by decide +kernel)
  have t15 : a 15 = α 15 := h3 15 (by decide +kernel)
  have t16 : a 16 = α 16 := h3 16 (by decide +kernel)
  have t19 : a 19 = α 19 := h3 19 (by decide +kernel)
  have t20 : a 20 = α 20 := h3 20 (by decide +kernel)
  have t21 : a 21 = α 21 := h3 21 (by decide +kernel)
  have t23 : a 23 = α 23 := h3 23 (by decide +kernel)
  have t24 : a 24 = α 24 := h3 24 (by decide +kernel)
  have t25 : a 25 = α 25 := h3 25 (by decide +kernel)
  have t32 : a 32 = α 32 := h3 32 (by decide +kernel)
  have t33 : a 33 = α 33 := h3 33 (by decide +kernel)
  have t34 : a 34 = α 34 := h3 34 (by decide +kernel)
  have t7 : a 7 = α 7 := h3 7 (by decide +kernel)
  have t8 : a 8 = α 8 := h3 8 (by decide +kernel)
  have q14 : r 14 = z.toInt := (hz.trans (Int.add_zero _)).symm
  have f0 := h9 _ (List.Mem.head _)
  rw [hFp_199, show PT0 199 = P_onvX from rfl] at f0
  simp only [List.map_cons, List.map_nil, den_s, den_c, Int.add_zero, q14, q2, q3, q4, q5, q6, q7, t10, t11, t12, t13, t15, t16, t19, t20, t21, t23, t24, t25, t32, t33, t34, t7, t8] at f0
  exact ⟨z, rfl, h5, r', a', h6, nrc h7 h1 [0, 1, 2, 3, 4, 5, 6, 7, 13] (by decide +kernel) (frc h8 h3 [2, 4, 7, 8, 10, 11, 12, 13, 15, 16, 19, 20, 21, 23, 24, 25, 32, 33, 34, 41, 42, 43, 44, 45, 46] (by decide +kernel) ⟨f0, trivial⟩)⟩
set_option maxRecDepth 1000000 in
theorem sy_never {h : AH} {ρ : Nat → Int} {α : Nat → Int → Int} (S : SD bY gY2 ρ α h) (H : P_ly [] [α 1]) : Ct mX7_never 12 0 0 [.ref 0] h (fun v hp' => ∃ z : Int32, v = some (.int z) ∧ hp'.length = gY2.length ∧ ∃ ρ' α', SD bY gY2 ρ' α' hp' ∧ ρ' 4 = ρ 4 ∧ ρ' 5 = ρ 5 ∧ ρ' 6 = ρ 6 ∧ ρ' 7 = ρ 7 ∧ ρ' 12 = ρ 12 ∧ α' 1 = α 1 ∧ α' 2 = α 2 ∧ α' 9 = α 9 ∧ α' 10 = α 10 ∧ α' 11 = α 11 ∧ α' 12 = α 12 ∧ α' 13 = α 13 ∧ α' 14 = α 14 ∧ α' 15 = α 15 ∧ α' 16 = α 16 ∧ α' 26 = α 26 ∧ α' 27 = α 27 ∧ α' 28 = α 28 ∧ α' 30 = α 30 ∧ α' 31 = α 31 ∧ α' 32 = α 32 ∧ α' 33 = α 33 ∧ P_onvY [z.toInt, ρ 7, ρ' 2, ρ' 3, ρ 4, ρ 5, ρ 6] [α 1, α 2, α' 3, α' 4, α' 5, α' 6, α' 7, α' 8, α' 17, α' 18, α 9, α 10, α 11, α 12, α 13, α 14, α 15, α 16, α 26, α 27, α 28] ∧ True) := by
  refine Ct_weak (sideS (PT := PT0) (c := c_yo_never) (Bs := bY) (g := gY2) (N := mX7_never) (n := 0) rfl (by decide) (k_yo_never hpl_15) rfl rfl rfl (by decide +kernel) S [] rfl (fun r _ f hf => by cases List.mem_singleton.mp hf; exact Eq.mpr (hFp_78 [] [1]) H)) (fun v hp' q => ?_)
  obtain ⟨o, ho, r, a, r', a', h1, h2, h3, h4, h5, h6, h7, h8, h9⟩ := q
  cases List.mem_singleton.mp ho
  obtain ⟨z, rfl, hz⟩ := rO_int h4
  have t41 : a 41 = a' 17 := ((h8 17 (by decide +kernel)).trans (congrArg a (by decide +kernel))).symm
  have t42 : a 42 = a' 18 := ((h8 18 (by decide +kernel)).trans (congrArg a (by decide +kernel))).symm
  have t35 : a 35 = a' 3 := ((h8 3 (by decide +kernel)).trans (congrArg a (by decide +kernel))).symm
  have t36 : a 36 = a' 4 := ((h8 4 (by decide +kernel)).trans (congrArg a (by decide +kernel))).symm
  have t37 : a 37 = a' 5 := ((h8 5 (by decide +kernel)).trans (congrArg a (by decide +kernel))).symm
  have t38 : a 38 = a' 6 := ((h8 6 (by decide +kernel)).trans (congrArg a (by decide +kernel))).symm
  have t39 : a 39 = a' 7 := ((h8 7 (by decide +kernel)).trans (congrArg a (by decide +kernel))).symm
  have t40 : a 40 = a' 8 := ((h8 8 (by decide +kernel)).trans (congrArg a (by decide +kernel))).symm
  have q14 : r 14 = r' 2 := (((h7 2).trans (den_of (m := (some 14, 0)) (by decide +kernel))).trans (Int.add_zero _)).symm
  have q15 : r 15 = r' 3 := (((h7 3).trans (den_of (m := (some 15, 0)) (by decide +kernel))).trans (Int.add_zero _)).symm
  have q4 : r 4 = ρ 4 := h1 4 (by decide)
  have q5 : r 5 = ρ 5 := h1 5 (by decide)
  have q6 : r 6 = ρ 6 := h1 6 (by decide)
  have q7 : r 7 = ρ 7 := h1 7 (by decide)
  have t1 : a 1 = α 1 := h3 1 (by decide +kernel)
  have t10 : a 10 = α 10 := h3 10 (by decide +kernel)
  have t11 : a 11 = α 11 := h3 11 (by decide +kernel)
  have t12 : a 12 = α 12 := h3 12 (by decide +kernel)
  have t13 : a 13 = α 13 := h3 13 (by decide +kernel)
  have t14 : a 14 = α 14 := h3 14 (by decide +kernel)
  have t15 : a 15 = α 15 := h3 15 (by decide +kernel)
  have t16 : a 16 = α 16 := h3 16 (by decide +kernel)
  have t2 : a 2 = α 2 := h3 2 (by decide +kernel)
  have t26 : a 26 = α 26 := h3 26 (by decide +kernel)
  have t27 : a 27 = α 27 := h3 27 (by decide +kernel)
  have t28 : a 28 = α 28 := h3 28 (by decide +kernel)
  have t9 : a 9 = α 9 := h3 9 (by decide +kernel)
  have q13 : r 13 = z.toInt := (hz.trans (Int.add_zero _)).symm
  have f0 := h9 _ (List.Mem.head _)
  rw [hFp_202, show PT0 202 = P_onvY from rfl] at f0
  simp only [List.map_cons, List.map_nil, den_s, den_c, Int.add_zero, q13, q14, q15, q4, q5, q6, q7, t1, t10, t11, t12, t13, t14, t15, t16, t2, t26, t27, t28, t35, t36, t37, t38, t39, t40, t41, t42, t9] at f0
  exact ⟨z, rfl, h5, r', a', h6, nrc h7 h1 [4, 5, 6, 7, 12] (by decide +kernel) (frc h8 h3 [1, 2, 9, 10, 11, 12, 13, 14, 15, 16, 26, 27, 28, 30, 31, 32, 33] (by decide +kernel) ⟨f0, trivial⟩)⟩
set_option maxRecDepth 1000000 in
theorem sx_was {h : AH} {ρ : Nat → Int} {α : Nat → Int → Int} (S : SD bT (gX 999) ρ α h) (H : True) (a0 : Int32) (a1 : Int32) : Ct mX6_was 12 0 0 [.ref 0, .int a0, .int a1] h (fun v hp' => ∃ z : Int32, v = some (.int z) ∧ hp'.length = (gX 999).length ∧ ∃ ρ' α', SD bT (gX 999) ρ' α' hp' ∧ ρ' 0 = ρ 0 ∧ ρ' 1 = ρ 1 ∧ ρ' 2 = ρ 2 ∧ ρ' 3 = ρ 3 ∧ ρ' 4 = ρ 4 ∧ ρ' 5 = ρ 5 ∧ ρ' 6 = ρ 6 ∧ ρ' 7 = ρ 7 ∧ ρ' 13 = ρ 13 ∧ α' 2 = α 2 ∧ α' 4 = α 4 ∧ α' 10 = α 10 ∧ α' 11 = α 11 ∧ α' 12 = α 12 ∧ α' 13 = α 13 ∧ α' 15 = α 15 ∧ α' 16 = α 16 ∧ α' 19 = α 19 ∧ α' 20 = α 20 ∧ α' 21 = α 21 ∧ α' 23 = α 23 ∧ α' 24 = α 24 ∧ α' 25 = α 25 ∧ α' 32 = α 32 ∧ α' 33 = α 33 ∧ α' 34 = α 34 ∧ α' 41 = α 41 ∧ α' 42 = α 42 ∧ α' 43 = α 43 ∧ α' 44 = α 44 ∧ α' 45 = α 45 ∧ α' 46 = α 46 ∧ α' 7 = α 7 ∧ α' 8 = α 8 ∧ True) := by
  refine Ct_weak (sideS (PT := PT0) (c := c_xf_was) (Bs := bT) (g := (gX 999)) (N := mX6_was) (n := 2) rfl (by decide) (k_xf_was hpl_15) rfl rfl rfl (by decide +kernel) S [a0, a1] rfl (fun _ _ f hf => absurd hf List.not_mem_nil)) (fun v hp' q => ?_)
  obtain ⟨o, ho, r, a, r', a', h1, h2, h3, h4, h5, h6, h7, h8, h9⟩ := q
  cases List.mem_singleton.mp ho
  obtain ⟨z, rfl, hz⟩ := rO_int h4
  have t58 : a 58 = a' 7 := ((h8 7 (by decide +kernel)).trans (congrArg a (by decide +kernel))).symm
  have t59 : a 59 = a' 8 := ((h8 8 (by decide +kernel)).trans (congrArg a (by decide +kernel))).symm
  have t7 : a 7 = α 7 := h3 7 (by decide +kernel)
  have t8 : a 8 = α 8 := h3 8 (by decide +kernel)
  have f0 := h9 _ (List.Mem.head _)
  rw [hF27] at f0
  simp only [List.map_cons, List.map_nil, den_s, den_c, Int.add_zero, t58, t59, t7, t8] at f0
  have f1 := h9 _ (List.Mem.tail _ (List.Mem.head _))
  rw [hF27] at f1
  simp only [List.map_cons, List.map_nil, den_s, den_c, Int.add_zero, t58, t59, t7, t8] at f1
  exact ⟨z, rfl, h5, r', a', h6, nrc h7 h1 [0, 1, 2, 3, 4, 5, 6, 7, 13] (by decide +kernel) (frc h8 h3 [2, 4, 10, 11, 12, 13, 15, 16, 19, 20, 21, 23, 24, 25, 32, 33, 34, 41, 42, 43, 44, 45, 46] (by decide +kernel) ⟨f0, f1, trivial⟩)⟩
set_option maxRecDepth 1000000 in
theorem sy_was {h : AH} {ρ : Nat → Int} {α : Nat → Int → Int} (S : SD bY gY2 ρ α h) (H : P_ly [] [α 1]) (a0 : Int32) (a1 : Int32) : Ct mX7_was 12 0 0 [.ref 0, .int a0, .int a1] h (fun v hp' => ∃ z : Int32, v = some (.int z) ∧ hp'.length = gY2.length ∧ ∃ ρ' α', SD bY gY2 ρ' α' hp' ∧ ρ' 4 = ρ 4 ∧ ρ' 5 = ρ 5 ∧ ρ' 6 = ρ 6 ∧ ρ' 7 = ρ 7 ∧ ρ' 12 = ρ 12 ∧ α' 1 = α 1 ∧ α' 2 = α 2 ∧ α' 9 = α 9 ∧ α' 10 = α 10 ∧ α' 11 = α 11 ∧ α' 12 = α 12 ∧ α' 13 = α 13 ∧ α' 14 = α 14 ∧ α' 15 = α 15 ∧ α' 16 = α 16 ∧ α' 26 = α 26 ∧ α' 27 = α 27 ∧ α' 28 = α 28 ∧ α' 30 = α 30 ∧ α' 31 = α 31 ∧ α' 32 = α 32 ∧ α' 33 = α 33 ∧ True) := by
  refine Ct_weak (sideS (PT := PT0) (c := c_yf_was) (Bs := bY) (g := gY2) (N := mX7_was) (n := 2) rfl (by decide) (k_yf_was hpl_15) rfl rfl rfl (by decide +kernel) S [a0, a1] rfl (fun r _ f hf => by cases List.mem_singleton.mp hf; exact Eq.mpr (hFp_78 [] [1]) H)) (fun v hp' q => ?_)
  obtain ⟨o, ho, r, a, r', a', h1, h2, h3, h4, h5, h6, h7, h8, h9⟩ := q
  cases List.mem_singleton.mp ho
  obtain ⟨z, rfl, hz⟩ := rO_int h4
  exact ⟨z, rfl, h5, r', a', h6, nrc h7 h1 [4, 5, 6, 7, 12] (by decide +kernel) (frc h8 h3 [1, 2, 9, 10, 11, 12, 13, 14, 15, 16, 26, 27, 28, 30, 31, 32, 33] (by decide +kernel) trivial)⟩
set_option maxRecDepth 1000000 in
theorem sx_ask {h : AH} {ρ : Nat → Int} {α : Nat → Int → Int} (S : SD bT (gX 999) ρ α h) (H : True) (a0 : Int32) : Ct mX6_ask 12 0 0 [.ref 0, .int a0] h (fun v hp' => ∃ z : Int32, v = some (.int z) ∧ hp'.length = (gX 999).length ∧ ∃ ρ' α', SD bT (gX 999) ρ' α' hp' ∧ ρ' 0 = ρ 0 ∧ ρ' 1 = ρ 1 ∧ ρ' 2 = ρ 2 ∧ ρ' 3 = ρ 3 ∧ ρ' 4 = ρ 4 ∧ ρ' 5 = ρ 5 ∧ ρ' 6 = ρ 6 ∧ ρ' 7 = ρ 7 ∧ ρ' 13 = ρ 13 ∧ α' 2 = α 2 ∧ α' 4 = α 4 ∧ α' 7 = α 7 ∧ α' 10 = α 10 ∧ α' 11 = α 11 ∧ α' 12 = α 12 ∧ α' 13 = α 13 ∧ α' 15 = α 15 ∧ α' 16 = α 16 ∧ α' 19 = α 19 ∧ α' 20 = α 20 ∧ α' 21 = α 21 ∧ α' 23 = α 23 ∧ α' 24 = α 24 ∧ α' 25 = α 25 ∧ α' 32 = α 32 ∧ α' 33 = α 33 ∧ α' 34 = α 34 ∧ α' 41 = α 41 ∧ α' 42 = α 42 ∧ α' 43 = α 43 ∧ α' 44 = α 44 ∧ α' 45 = α 45 ∧ α' 46 = α 46 ∧ α' 8 = α 8 ∧ True) := by
  refine Ct_weak (sideS (PT := PT0) (c := c_xf_ask) (Bs := bT) (g := (gX 999)) (N := mX6_ask) (n := 1) rfl (by decide) (k_xf_ask hpl_15) rfl rfl rfl (by decide +kernel) S [a0] rfl (fun _ _ f hf => absurd hf List.not_mem_nil)) (fun v hp' q => ?_)
  obtain ⟨o, ho, r, a, r', a', h1, h2, h3, h4, h5, h6, h7, h8, h9⟩ := q
  cases List.mem_singleton.mp ho
  obtain ⟨z, rfl, hz⟩ := rO_int h4
  have t58 : a 58 = a' 8 := ((h8 8 (by decide +kernel)).trans (congrArg a (by decide +kernel))).symm
  have t8 : a 8 = α 8 := h3 8 (by decide +kernel)
  have f0 := h9 _ (List.Mem.head _)
  rw [hF27] at f0
  simp only [List.map_cons, List.map_nil, den_s, den_c, Int.add_zero, t58, t8] at f0
  exact ⟨z, rfl, h5, r', a', h6, nrc h7 h1 [0, 1, 2, 3, 4, 5, 6, 7, 13] (by decide +kernel) (frc h8 h3 [2, 4, 7, 10, 11, 12, 13, 15, 16, 19, 20, 21, 23, 24, 25, 32, 33, 34, 41, 42, 43, 44, 45, 46] (by decide +kernel) ⟨f0, trivial⟩)⟩
set_option maxRecDepth 1000000 in
theorem sy_ask {h : AH} {ρ : Nat → Int} {α : Nat → Int → Int} (S : SD bY gY2 ρ α h) (H : P_ly [] [α 1]) (a0 : Int32) : Ct mX7_ask 12 0 0 [.ref 0, .int a0] h (fun v hp' => ∃ z : Int32, v = some (.int z) ∧ hp'.length = gY2.length ∧ ∃ ρ' α', SD bY gY2 ρ' α' hp' ∧ ρ' 4 = ρ 4 ∧ ρ' 5 = ρ 5 ∧ ρ' 6 = ρ 6 ∧ ρ' 7 = ρ 7 ∧ ρ' 12 = ρ 12 ∧ α' 1 = α 1 ∧ α' 2 = α 2 ∧ α' 9 = α 9 ∧ α' 10 = α 10 ∧ α' 11 = α 11 ∧ α' 12 = α 12 ∧ α' 13 = α 13 ∧ α' 14 = α 14 ∧ α' 15 = α 15 ∧ α' 16 = α 16 ∧ α' 26 = α 26 ∧ α' 27 = α 27 ∧ α' 28 = α 28 ∧ α' 30 = α 30 ∧ α' 31 = α 31 ∧ α' 32 = α 32 ∧ α' 33 = α 33 ∧ True) := by
  refine Ct_weak (sideS (PT := PT0) (c := c_yf_ask) (Bs := bY) (g := gY2) (N := mX7_ask) (n := 1) rfl (by decide) (k_yf_ask hpl_15) rfl rfl rfl (by decide +kernel) S [a0] rfl (fun r _ f hf => by cases List.mem_singleton.mp hf; exact Eq.mpr (hFp_78 [] [1]) H)) (fun v hp' q => ?_)
  obtain ⟨o, ho, r, a, r', a', h1, h2, h3, h4, h5, h6, h7, h8, h9⟩ := q
  cases List.mem_singleton.mp ho
  obtain ⟨z, rfl, hz⟩ := rO_int h4
  exact ⟨z, rfl, h5, r', a', h6, nrc h7 h1 [4, 5, 6, 7, 12] (by decide +kernel) (frc h8 h3 [1, 2, 9, 10, 11, 12, 13, 14, 15, 16, 26, 27, 28, 30, 31, 32, 33] (by decide +kernel) trivial)⟩
set_option maxRecDepth 1000000 in
theorem sx_word {h : AH} {ρ : Nat → Int} {α : Nat → Int → Int} (S : SD bT (gX 999) ρ α h) (H : True) (a0 : Int32) (a1 : Int32) (a2 : Int32) (a3 : Int32) : Ct mX6_word 12 0 0 [.ref 0, .int a0, .int a1, .int a2, .int a3] h (fun v hp' => ∃ z : Int64, v = some (.long z) ∧ hp'.length = (gX 999).length ∧ ∃ ρ' α', SD bT (gX 999) ρ' α' hp' ∧ ρ' 0 = ρ 0 ∧ ρ' 1 = ρ 1 ∧ ρ' 2 = ρ 2 ∧ ρ' 3 = ρ 3 ∧ ρ' 4 = ρ 4 ∧ ρ' 5 = ρ 5 ∧ ρ' 6 = ρ 6 ∧ ρ' 7 = ρ 7 ∧ ρ' 13 = ρ 13 ∧ α' 2 = α 2 ∧ α' 4 = α 4 ∧ α' 7 = α 7 ∧ α' 8 = α 8 ∧ α' 10 = α 10 ∧ α' 11 = α 11 ∧ α' 12 = α 12 ∧ α' 13 = α 13 ∧ α' 15 = α 15 ∧ α' 16 = α 16 ∧ α' 19 = α 19 ∧ α' 20 = α 20 ∧ α' 21 = α 21 ∧ α' 23 = α 23 ∧ α' 24 = α 24 ∧ α' 25 = α 25 ∧ α' 32 = α 32 ∧ α' 33 = α 33 ∧ α' 34 = α 34 ∧ α' 41 = α 41 ∧ α' 42 = α 42 ∧ α' 43 = α 43 ∧ α' 44 = α 44 ∧ α' 45 = α 45 ∧ α' 46 = α 46 ∧ True) := by
  refine Ct_weak (sideS (PT := PT0) (c := c_xf_word) (Bs := bT) (g := (gX 999)) (N := mX6_word) (n := 4) rfl (by decide) (k_xf_word hpl_15) rfl rfl rfl (by decide +kernel) S [a0, a1, a2, a3] rfl (fun _ _ f hf => absurd hf List.not_mem_nil)) (fun v hp' q => ?_)
  obtain ⟨o, ho, r, a, r', a', h1, h2, h3, h4, h5, h6, h7, h8, h9⟩ := q
  cases List.mem_singleton.mp ho
  obtain ⟨z, rfl⟩ := rO_long h4
  exact ⟨z, rfl, h5, r', a', h6, nrc h7 h1 [0, 1, 2, 3, 4, 5, 6, 7, 13] (by decide +kernel) (frc h8 h3 [2, 4, 7, 8, 10, 11, 12, 13, 15, 16, 19, 20, 21, 23, 24, 25, 32, 33, 34, 41, 42, 43, 44, 45, 46] (by decide +kernel) trivial)⟩
set_option maxRecDepth 1000000 in
theorem sy_word {h : AH} {ρ : Nat → Int} {α : Nat → Int → Int} (S : SD bY gY2 ρ α h) (H : P_ly [] [α 1]) (a0 : Int32) (a1 : Int32) (a2 : Int32) (a3 : Int32) : Ct mX7_word 12 0 0 [.ref 0, .int a0, .int a1, .int a2, .int a3] h (fun v hp' => ∃ z : Int64, v = some (.long z) ∧ hp'.length = gY2.length ∧ ∃ ρ' α', SD bY gY2 ρ' α' hp' ∧ ρ' 4 = ρ 4 ∧ ρ' 5 = ρ 5 ∧ ρ' 6 = ρ 6 ∧ ρ' 7 = ρ 7 ∧ ρ' 12 = ρ 12 ∧ α' 1 = α 1 ∧ α' 2 = α 2 ∧ α' 9 = α 9 ∧ α' 10 = α 10 ∧ α' 11 = α 11 ∧ α' 12 = α 12 ∧ α' 13 = α 13 ∧ α' 14 = α 14 ∧ α' 15 = α 15 ∧ α' 16 = α 16 ∧ α' 26 = α 26 ∧ α' 27 = α 27 ∧ α' 28 = α 28 ∧ α' 30 = α 30 ∧ α' 31 = α 31 ∧ α' 32 = α 32 ∧ α' 33 = α 33 ∧ True) := by
  refine Ct_weak (sideS (PT := PT0) (c := c_yf_word) (Bs := bY) (g := gY2) (N := mX7_word) (n := 4) rfl (by decide) (k_yf_word hpl_15) rfl rfl rfl (by decide +kernel) S [a0, a1, a2, a3] rfl (fun r _ f hf => by cases List.mem_singleton.mp hf; exact Eq.mpr (hFp_78 [] [1]) H)) (fun v hp' q => ?_)
  obtain ⟨o, ho, r, a, r', a', h1, h2, h3, h4, h5, h6, h7, h8, h9⟩ := q
  cases List.mem_singleton.mp ho
  obtain ⟨z, rfl⟩ := rO_long h4
  exact ⟨z, rfl, h5, r', a', h6, nrc h7 h1 [4, 5, 6, 7, 12] (by decide +kernel) (frc h8 h3 [1, 2, 9, 10, 11, 12, 13, 14, 15, 16, 26, 27, 28, 30, 31, 32, 33] (by decide +kernel) trivial)⟩
set_option maxRecDepth 1000000 in
theorem sx_year {h : AH} {ρ : Nat → Int} {α : Nat → Int → Int} (S : SD bT (gX 999) ρ α h) (H : True) (a0 : Int32) (a1 : Int32) (a2 : Int32) : Ct mX6_year 12 0 0 [.ref 0, .int a0, .int a1, .int a2] h (fun v hp' => ∃ z : Int32, v = some (.int z) ∧ hp'.length = (gX 999).length ∧ ∃ ρ' α', SD bT (gX 999) ρ' α' hp' ∧ ρ' 0 = ρ 0 ∧ ρ' 1 = ρ 1 ∧ ρ' 2 = ρ 2 ∧ ρ' 3 = ρ 3 ∧ ρ' 4 = ρ 4 ∧ ρ' 5 = ρ 5 ∧ ρ' 6 = ρ 6 ∧ ρ' 7 = ρ 7 ∧ ρ' 13 = ρ 13 ∧ α' 2 = α 2 ∧ α' 4 = α 4 ∧ α' 7 = α 7 ∧ α' 8 = α 8 ∧ α' 10 = α 10 ∧ α' 11 = α 11 ∧ α' 12 = α 12 ∧ α' 13 = α 13 ∧ α' 15 = α 15 ∧ α' 16 = α 16 ∧ α' 19 = α 19 ∧ α' 20 = α 20 ∧ α' 21 = α 21 ∧ α' 23 = α 23 ∧ α' 24 = α 24 ∧ α' 25 = α 25 ∧ α' 32 = α 32 ∧ α' 33 = α 33 ∧ α' 34 = α 34 ∧ α' 41 = α 41 ∧ α' 42 = α 42 ∧ α' 43 = α 43 ∧ α' 44 = α 44 ∧ α' 45 = α 45 ∧ α' 46 = α 46 ∧ True) := by
  refine Ct_weak (sideS (PT := PT0) (c := c_xf_year) (Bs := bT) (g := (gX 999)) (N := mX6_year) (n := 3) rfl (by decide) (k_xf_year hpl_15) rfl rfl rfl (by decide +kernel) S [a0, a1, a2] rfl (fun _ _ f hf => absurd hf List.not_mem_nil)) (fun v hp' q => ?_)
  obtain ⟨o, ho, r, a, r', a', h1, h2, h3, h4, h5, h6, h7, h8, h9⟩ := q
  cases List.mem_singleton.mp ho
  obtain ⟨z, rfl, hz⟩ := rO_int h4
  exact ⟨z, rfl, h5, r', a', h6, nrc h7 h1 [0, 1, 2, 3, 4, 5, 6, 7, 13] (by decide +kernel) (frc h8 h3 [2, 4, 7, 8, 10, 11, 12, 13, 15, 16, 19, 20, 21, 23, 24, 25, 32, 33, 34, 41, 42, 43, 44, 45, 46] (by decide +kernel) trivial)⟩
set_option maxRecDepth 1000000 in
theorem sy_year {h : AH} {ρ : Nat → Int} {α : Nat → Int → Int} (S : SD bY gY2 ρ α h) (H : P_ly [] [α 1]) (a0 : Int32) (a1 : Int32) (a2 : Int32) : Ct mX7_year 12 0 0 [.ref 0, .int a0, .int a1, .int a2] h (fun v hp' => ∃ z : Int32, v = some (.int z) ∧ hp'.length = gY2.length ∧ ∃ ρ' α', SD bY gY2 ρ' α' hp' ∧ ρ' 4 = ρ 4 ∧ ρ' 5 = ρ 5 ∧ ρ' 6 = ρ 6 ∧ ρ' 7 = ρ 7 ∧ ρ' 12 = ρ 12 ∧ α' 1 = α 1 ∧ α' 2 = α 2 ∧ α' 9 = α 9 ∧ α' 10 = α 10 ∧ α' 11 = α 11 ∧ α' 12 = α 12 ∧ α' 13 = α 13 ∧ α' 14 = α 14 ∧ α' 15 = α 15 ∧ α' 16 = α 16 ∧ α' 26 = α 26 ∧ α' 27 = α 27 ∧ α' 28 = α 28 ∧ α' 30 = α 30 ∧ α' 31 = α 31 ∧ α' 32 = α 32 ∧ α' 33 = α 33 ∧ True) := by
  refine Ct_weak (sideS (PT := PT0) (c := c_yf_year) (Bs := bY) (g := gY2) (N := mX7_year) (n := 3) rfl (by decide) (k_yf_year hpl_15) rfl rfl rfl (by decide +kernel) S [a0, a1, a2] rfl (fun r _ f hf => by cases List.mem_singleton.mp hf; exact Eq.mpr (hFp_78 [] [1]) H)) (fun v hp' q => ?_)
  obtain ⟨o, ho, r, a, r', a', h1, h2, h3, h4, h5, h6, h7, h8, h9⟩ := q
  cases List.mem_singleton.mp ho
  obtain ⟨z, rfl, hz⟩ := rO_int h4
  exact ⟨z, rfl, h5, r', a', h6, nrc h7 h1 [4, 5, 6, 7, 12] (by decide +kernel) (frc h8 h3 [1, 2, 9, 10, 11, 12, 13, 14, 15, 16, 26, 27, 28, 30, 31, 32, 33] (by decide +kernel) trivial)⟩
set_option maxRecDepth 1000000 in
theorem sx_sheet {h : AH} {ρ : Nat → Int} {α : Nat → Int → Int} (S : SD bT (gX 999) ρ α h) (H : True) (a0 : Int32) (a1 : Int32) (a2 : Int32) : Ct mX6_sheet 12 0 0 [.ref 0, .int a0, .int a1, .int a2] h (fun v hp' => ∃ z : Int32, v = some (.int z) ∧ hp'.length = (gX 999).length ∧ ∃ ρ' α', SD bT (gX 999) ρ' α' hp' ∧ ρ' 0 = ρ 0 ∧ ρ' 1 = ρ 1 ∧ ρ' 2 = ρ 2 ∧ ρ' 3 = ρ 3 ∧ ρ' 4 = ρ 4 ∧ ρ' 5 = ρ 5 ∧ ρ' 6 = ρ 6 ∧ ρ' 7 = ρ 7 ∧ α' 2 = α 2 ∧ α' 4 = α 4 ∧ α' 7 = α 7 ∧ α' 8 = α 8 ∧ α' 10 = α 10 ∧ α' 11 = α 11 ∧ α' 12 = α 12 ∧ α' 13 = α 13 ∧ α' 15 = α 15 ∧ α' 16 = α 16 ∧ α' 19 = α 19 ∧ α' 20 = α 20 ∧ α' 21 = α 21 ∧ α' 23 = α 23 ∧ α' 24 = α 24 ∧ α' 25 = α 25 ∧ α' 32 = α 32 ∧ α' 33 = α 33 ∧ α' 34 = α 34 ∧ P_shX [z.toInt, a0.toInt, a1.toInt, a2.toInt, ρ 13, ρ' 13] [α 45, α 46, α 41, α 42, α 43, α 44, α' 45, α' 46, α' 41, α' 42, α' 43, α' 44] ∧ True) := by
  refine Ct_weak (sideS (PT := PT0) (c := c_xo_sheet) (Bs := bT) (g := (gX 999)) (N := mX6_sheet) (n := 3) rfl (by decide) (k_xo_sheet hpl_8) rfl rfl rfl (by decide +kernel) S [a0, a1, a2] rfl (fun _ _ f hf => absurd hf List.not_mem_nil)) (fun v hp' q => ?_)
  obtain ⟨o, ho, r, a, r', a', h1, h2, h3, h4, h5, h6, h7, h8, h9⟩ := q
  cases List.mem_singleton.mp ho
  obtain ⟨z, rfl, hz⟩ := rO_int h4
  have t58 : a 58 = a' 41 := ((h8 41 (by decide +kernel)).trans (congrArg a (by decide +kernel))).symm
  have t59 : a 59 = a' 42 := ((h8 42 (by decide +kernel)).trans (congrArg a (by decide +kernel))).symm
  have t60 : a 60 = a' 43 := ((h8 43 (by decide +kernel)).trans (congrArg a (by decide +kernel))).symm
  have t61 : a 61 = a' 44 := ((h8 44 (by decide +kernel)).trans (congrArg a (by decide +kernel))).symm
  have t62 : a 62 = a' 45 := ((h8 45 (by decide +kernel)).trans (congrArg a (by decide +kernel))).symm
  have t63 : a 63 = a' 46 := ((h8 46 (by decide +kernel)).trans (congrArg a (by decide +kernel))).symm
  have q18 : r 18 = r' 13 := (((h7 13).trans (den_of (m := (some 18, 0)) (by decide +kernel))).trans (Int.add_zero _)).symm
  have q14 : r 14 = a0.toInt := h2 0 (by decide)
  have q15 : r 15 = a1.toInt := h2 1 (by decide)
  have q16 : r 16 = a2.toInt := h2 2 (by decide)
  have q13 : r 13 = ρ 13 := h1 13 (by decide)
  have t41 : a 41 = α 41 := h3 41 (by decide +kernel)
  have t42 : a 42 = α 42 := h3 42 (by decide +kernel)
  have t43 : a 43 = α 43 := h3 43 (by decide +kernel)
  have t44 : a 44 = α 44 := h3 44 (by decide +kernel)
  have t45 : a 45 = α 45 := h3 45 (by decide +kernel)
  have t46 : a 46 = α 46 := h3 46 (by decide +kernel)
  have q17 : r 17 = z.toInt := (hz.trans (Int.add_zero _)).symm
  have f0 := h9 _ (List.Mem.head _)
  rw [hFp_125, show PT0 125 = P_shX from rfl] at f0
  simp only [List.map_cons, List.map_nil, den_s, den_c, Int.add_zero, q13, q14, q15, q16, q17, q18, t41, t42, t43, t44, t45, t46, t58, t59, t60, t61, t62, t63] at f0
  exact ⟨z, rfl, h5, r', a', h6, nrc h7 h1 [0, 1, 2, 3, 4, 5, 6, 7] (by decide +kernel) (frc h8 h3 [2, 4, 7, 8, 10, 11, 12, 13, 15, 16, 19, 20, 21, 23, 24, 25, 32, 33, 34] (by decide +kernel) ⟨f0, trivial⟩)⟩
set_option maxRecDepth 1000000 in
theorem sy_sheet {h : AH} {ρ : Nat → Int} {α : Nat → Int → Int} (S : SD bY gY2 ρ α h) (H : P_ly [] [α 1]) (a0 : Int32) (a1 : Int32) (a2 : Int32) : Ct mX7_sheet 12 0 0 [.ref 0, .int a0, .int a1, .int a2] h (fun v hp' => ∃ z : Int32, v = some (.int z) ∧ hp'.length = gY2.length ∧ ∃ ρ' α', SD bY gY2 ρ' α' hp' ∧ ρ' 4 = ρ 4 ∧ ρ' 5 = ρ 5 ∧ ρ' 6 = ρ 6 ∧ ρ' 7 = ρ 7 ∧ α' 1 = α 1 ∧ α' 2 = α 2 ∧ α' 9 = α 9 ∧ α' 10 = α 10 ∧ α' 11 = α 11 ∧ α' 12 = α 12 ∧ α' 13 = α 13 ∧ α' 14 = α 14 ∧ α' 15 = α 15 ∧ α' 16 = α 16 ∧ α' 26 = α 26 ∧ α' 27 = α 27 ∧ α' 28 = α 28 ∧ P_shY [z.toInt, a0.toInt, a1.toInt, a2.toInt, ρ 12, ρ' 12] [α 30, α 31, α 32, α 33, α' 30, α' 31, α' 32, α' 33] ∧ True) := by
  refine Ct_weak (sideS (PT := PT0) (c := c_yo_sheet) (Bs := bY) (g := gY2) (N := mX7_sheet) (n := 3) rfl (by decide) (k_yo_sheet hpl_8) rfl rfl rfl (by decide +kernel) S [a0, a1, a2] rfl (fun _ _ f hf => absurd hf List.not_mem_nil)) (fun v hp' q => ?_)
  obtain ⟨o, ho, r, a, r', a', h1, h2, h3, h4, h5, h6, h7, h8, h9⟩ := q
  cases List.mem_singleton.mp ho
  obtain ⟨z, rfl, hz⟩ := rO_int h4
  have t35 : a 35 = a' 30 := ((h8 30 (by decide +kernel)).trans (congrArg a (by decide +kernel))).symm
  have t36 : a 36 = a' 31 := ((h8 31 (by decide +kernel)).trans (congrArg a (by decide +kernel))).symm
  have t37 : a 37 = a' 32 := ((h8 32 (by decide +kernel)).trans (congrArg a (by decide +kernel))).symm
  have t38 : a 38 = a' 33 := ((h8 33 (by decide +kernel)).trans (congrArg a (by decide +kernel))).symm
  have q17 : r 17 = r' 12 := (((h7 12).trans (den_of (m := (some 17, 0)) (by decide +kernel))).trans (Int.add_zero _)).symm
  have q13 : r 13 = a0.toInt := h2 0 (by decide)
  have q14 : r 14 = a1.toInt := h2 1 (by decide)
  have q15 : r 15 = a2.toInt := h2 2 (by decide)
  have q12 : r 12 = ρ 12 := h1 12 (by decide)
  have t30 : a 30 = α 30 := h3 30 (by decide +kernel)
  have t31 : a 31 = α 31 := h3 31 (by decide +kernel)
  have t32 : a 32 = α 32 := h3 32 (by decide +kernel)
  have t33 : a 33 = α 33 := h3 33 (by decide +kernel)
  have q16 : r 16 = z.toInt := (hz.trans (Int.add_zero _)).symm
  have f0 := h9 _ (List.Mem.head _)
  rw [hFp_126, show PT0 126 = P_shY from rfl] at f0
  simp only [List.map_cons, List.map_nil, den_s, den_c, Int.add_zero, q12, q13, q14, q15, q16, q17, t30, t31, t32, t33, t35, t36, t37, t38] at f0
  exact ⟨z, rfl, h5, r', a', h6, nrc h7 h1 [4, 5, 6, 7] (by decide +kernel) (frc h8 h3 [1, 2, 9, 10, 11, 12, 13, 14, 15, 16, 26, 27, 28] (by decide +kernel) ⟨f0, trivial⟩)⟩
set_option maxRecDepth 1000000 in
theorem sx_lose {h : AH} {ρ : Nat → Int} {α : Nat → Int → Int} (S : SD bT (gX 999) ρ α h) (H : True) (a0 : Int32) : Ct mX6_lose 12 0 0 [.ref 0, .int a0] h (fun v hp' => ∃ z : Int32, v = some (.int z) ∧ hp'.length = (gX 999).length ∧ ∃ ρ' α', SD bT (gX 999) ρ' α' hp' ∧ ρ' 0 = ρ 0 ∧ ρ' 1 = ρ 1 ∧ ρ' 2 = ρ 2 ∧ ρ' 3 = ρ 3 ∧ ρ' 4 = ρ 4 ∧ ρ' 5 = ρ 5 ∧ ρ' 6 = ρ 6 ∧ ρ' 7 = ρ 7 ∧ α' 2 = α 2 ∧ α' 4 = α 4 ∧ α' 7 = α 7 ∧ α' 8 = α 8 ∧ α' 10 = α 10 ∧ α' 11 = α 11 ∧ α' 12 = α 12 ∧ α' 13 = α 13 ∧ α' 15 = α 15 ∧ α' 16 = α 16 ∧ α' 19 = α 19 ∧ α' 20 = α 20 ∧ α' 21 = α 21 ∧ α' 23 = α 23 ∧ α' 24 = α 24 ∧ α' 25 = α 25 ∧ α' 32 = α 32 ∧ α' 33 = α 33 ∧ α' 34 = α 34 ∧ α' 41 = α 41 ∧ α' 42 = α 42 ∧ α' 43 = α 43 ∧ α' 44 = α 44 ∧ α' 45 = α 45 ∧ P_loX [z.toInt, a0.toInt, ρ 13, ρ' 13] [α 45, α 46, α' 46] ∧ True) := by
  refine Ct_weak (sideS (PT := PT0) (c := c_xo_lose) (Bs := bT) (g := (gX 999)) (N := mX6_lose) (n := 1) rfl (by decide) (k_xo_lose hpl_8) rfl rfl rfl (by decide +kernel) S [a0] rfl (fun _ _ f hf => absurd hf List.not_mem_nil)) (fun v hp' q => ?_)
  obtain ⟨o, ho, r, a, r', a', h1, h2, h3, h4, h5, h6, h7, h8, h9⟩ := q
  cases List.mem_singleton.mp ho
  obtain ⟨z, rfl, hz⟩ := rO_int h4
  have t58 : a 58 = a' 46 := ((h8 46 (by decide +kernel)).trans (congrArg a (by decide +kernel))).symm
  have q16 : r 16 = r' 13 := (((h7 13).trans (den_of (m := (some 16, 0)) (by decide +kernel))).trans (Int.add_zero _)).symm
  have q14 : r 14 = a0.toInt := h2 0 (by decide)
  have q13 : r 13 = ρ 13 := h1 13 (by decide)
  have t45 : a 45 = α 45 := h3 45 (by decide +kernel)
  have t46 : a 46 = α 46 := h3 46 (by decide +kernel)
  have q15 : r 15 = z.toInt := (hz.trans (Int.add_zero _)).symm
  have f0 := h9 _ (List.Mem.head _)
  rw [hFp_129, show PT0 129 = P_loX from rfl] at f0
  simp only [List.map_cons, List.map_nil, den_s, den_c, Int.add_zero, q13, q14, q15, q16, t45, t46, t58] at f0
  exact ⟨z, rfl, h5, r', a', h6, nrc h7 h1 [0, 1, 2, 3, 4, 5, 6, 7] (by decide +kernel) (frc h8 h3 [2, 4, 7, 8, 10, 11, 12, 13, 15, 16, 19, 20, 21, 23, 24, 25, 32, 33, 34, 41, 42, 43, 44, 45] (by decide +kernel) ⟨f0, trivial⟩)⟩
set_option maxRecDepth 1000000 in
theorem sy_lose {h : AH} {ρ : Nat → Int} {α : Nat → Int → Int} (S : SD bY gY2 ρ α h) (H : P_ly [] [α 1]) (a0 : Int32) : Ct mX7_lose 12 0 0 [.ref 0, .int a0] h (fun v hp' => ∃ z : Int32, v = some (.int z) ∧ hp'.length = gY2.length ∧ ∃ ρ' α', SD bY gY2 ρ' α' hp' ∧ ρ' 4 = ρ 4 ∧ ρ' 5 = ρ 5 ∧ ρ' 6 = ρ 6 ∧ ρ' 7 = ρ 7 ∧ α' 1 = α 1 ∧ α' 2 = α 2 ∧ α' 9 = α 9 ∧ α' 10 = α 10 ∧ α' 11 = α 11 ∧ α' 12 = α 12 ∧ α' 13 = α 13 ∧ α' 14 = α 14 ∧ α' 15 = α 15 ∧ α' 16 = α 16 ∧ α' 26 = α 26 ∧ α' 27 = α 27 ∧ α' 28 = α 28 ∧ α' 31 = α 31 ∧ α' 32 = α 32 ∧ α' 33 = α 33 ∧ P_loY [z.toInt, a0.toInt, ρ 12, ρ' 12] [α 30, α 32, α' 30] ∧ True) := by
  refine Ct_weak (sideS (PT := PT0) (c := c_yo_lose) (Bs := bY) (g := gY2) (N := mX7_lose) (n := 1) rfl (by decide) (k_yo_lose hpl_8) rfl rfl rfl (by decide +kernel) S [a0] rfl (fun _ _ f hf => absurd hf List.not_mem_nil)) (fun v hp' q => ?_)
  obtain ⟨o, ho, r, a, r', a', h1, h2, h3, h4, h5, h6, h7, h8, h9⟩ := q
  cases List.mem_singleton.mp ho
  obtain ⟨z, rfl, hz⟩ := rO_int h4
  have t35 : a 35 = a' 30 := ((h8 30 (by decide +kernel)).trans (congrArg a (by decide +kernel))).symm
  have q15 : r 15 = r' 12 := (((h7 12).trans (den_of (m := (some 15, 0)) (by decide +kernel))).trans (Int.add_zero _)).symm
  have q13 : r 13 = a0.toInt := h2 0 (by decide)
  have q12 : r 12 = ρ 12 := h1 12 (by decide)
  have t30 : a 30 = α 30 := h3 30 (by decide +kernel)
  have t32 : a 32 = α 32 := h3 32 (by decide +kernel)
  have q14 : r 14 = z.toInt := (hz.trans (Int.add_zero _)).symm
  have f0 := h9 _ (List.Mem.head _)
  rw [hFp_130, show PT0 130 = P_loY from rfl] at f0
  simp only [List.map_cons, List.map_nil, den_s, den_c, Int.add_zero, q12, q13, q14, q15, t30, t32, t35] at f0
  exact ⟨z, rfl, h5, r', a', h6, nrc h7 h1 [4, 5, 6, 7] (by decide +kernel) (frc h8 h3 [1, 2, 9, 10, 11, 12, 13, 14, 15, 16, 26, 27, 28, 31, 32, 33] (by decide +kernel) ⟨f0, trivial⟩)⟩
set_option maxRecDepth 1000000 in
theorem sx_put {h : AH} {ρ : Nat → Int} {α : Nat → Int → Int} (S : SD bT (gX 999) ρ α h) (H : True) (a0 : Int32) (a1 : Int32) (a2 : Int32) (a3 : Int32) : Ct mX6_put 12 0 0 [.ref 0, .int a0, .int a1, .int a2, .int a3] h (fun v hp' => ∃ z : Int32, v = some (.int z) ∧ hp'.length = (gX 999).length ∧ ∃ ρ' α', SD bT (gX 999) ρ' α' hp' ∧ ρ' 0 = ρ 0 ∧ ρ' 1 = ρ 1 ∧ ρ' 2 = ρ 2 ∧ ρ' 3 = ρ 3 ∧ ρ' 4 = ρ 4 ∧ ρ' 5 = ρ 5 ∧ ρ' 6 = ρ 6 ∧ ρ' 7 = ρ 7 ∧ α' 2 = α 2 ∧ α' 4 = α 4 ∧ α' 7 = α 7 ∧ α' 8 = α 8 ∧ α' 10 = α 10 ∧ α' 11 = α 11 ∧ α' 12 = α 12 ∧ α' 13 = α 13 ∧ α' 15 = α 15 ∧ α' 16 = α 16 ∧ α' 19 = α 19 ∧ α' 20 = α 20 ∧ α' 21 = α 21 ∧ α' 23 = α 23 ∧ α' 24 = α 24 ∧ α' 25 = α 25 ∧ α' 32 = α 32 ∧ α' 33 = α 33 ∧ α' 34 = α 34 ∧ α' 45 = α 45 ∧ α' 46 = α 46 ∧ P_puX [z.toInt, a0.toInt, a1.toInt, a2.toInt, a3.toInt, ρ 13, ρ' 13] [α 45, α 46, α 41, α 42, α 43, α 44, α' 41, α' 42, α' 43, α' 44] ∧ True) := by
  refine Ct_weak (sideS (PT := PT0) (c := c_xo_put) (Bs := bT) (g := (gX 999)) (N := mX6_put) (n := 4) rfl (by decide) (k_xo_put hpl_8) rfl rfl rfl (by decide +kernel) S [a0, a1, a2, a3] rfl (fun _ _ f hf => absurd hf List.not_mem_nil)) (fun v hp' q => ?_)
  obtain ⟨o, ho, r, a, r', a', h1, h2, h3, h4, h5, h6, h7, h8, h9⟩ := q
  cases List.mem_singleton.mp ho
  obtain ⟨z, rfl, hz⟩ := rO_int h4
  have t58 : a 58 = a' 41 := ((h8 41 (by decide +kernel)).trans (congrArg a (by decide +kernel))).symm
  have t59 : a 59 = a' 42 := ((h8 42 (by decide +kernel)).trans (congrArg a (by decide +kernel))).symm
  have t60 : a 60 = a' 43 := ((h8 43 (by decide +kernel)).trans (congrArg a (by decide +kernel))).symm
  have t61 : a 61 = a' 44 := ((h8 44 (by decide +kernel)).trans (congrArg a (by decide +kernel))).symm
  have q19 : r 19 = r' 13 := (((h7 13).trans (den_of (m := (some 19, 0)) (by decide +kernel))).trans (Int.add_zero _)).symm
  have q14 : r 14 = a0.toInt := h2 0 (by decide)
  have q15 : r 15 = a1.toInt := h2 1 (by decide)
  have q16 : r 16 = a2.toInt := h2 2 (by decide)
  have q17 : r 17 = a3.toInt := h2 3 (by decide)
  have q13 : r 13 = ρ 13 := h1 13 (by decide)
  have t41 : a 41 = α 41 := h3 41 (by decide +kernel)
  have t42 : a 42 = α 42 := h3 42 (by decide +kernel)
  have t43 : a 43 = α 43 := h3 43 (by decide +kernel)
  have t44 : a 44 = α 44 := h3 44 (by decide +kernel)
  have t45 : a 45 = α 45 := h3 45 (by decide +kernel)
  have t46 : a 46 = α 46 := h3 46 (by decide +kernel)
  have q18 : r 18 = z.toInt := (hz.trans (Int.add_zero _)).symm
  have f0 := h9 _ (List.Mem.head _)
  rw [hFp_131, show PT0 131 = P_puX from rfl] at f0
  simp only [List.map_cons, List.map_nil, den_s, den_c, Int.add_zero, q13, q14, q15, q16, q17, q18, q19, t41, t42, t43, t44, t45, t46, t58, t59, t60, t61] at f0
  exact ⟨z, rfl, h5, r', a', h6, nrc h7 h1 [0, 1, 2, 3, 4, 5, 6, 7] (by decide +kernel) (frc h8 h3 [2, 4, 7, 8, 10, 11, 12, 13, 15, 16, 19, 20, 21, 23, 24, 25, 32, 33, 34, 45, 46] (by decide +kernel) ⟨f0, trivial⟩)⟩
set_option maxRecDepth 1000000 in
theorem sy_put {h : AH} {ρ : Nat → Int} {α : Nat → Int → Int} (S : SD bY gY2 ρ α h) (H : P_ly [] [α 1]) (a0 : Int32) (a1 : Int32) (a2 : Int32) (a3 : Int32) : Ct mX7_put 12 0 0 [.ref 0, .int a0, .int a1, .int a2, .int a3] h (fun v hp' => ∃ z : Int32, v = some (.int z) ∧ hp'.length = gY2.length ∧ ∃ ρ' α', SD bY gY2 ρ' α' hp' ∧ ρ' 4 = ρ 4 ∧ ρ' 5 = ρ 5 ∧ ρ' 6 = ρ 6 ∧ ρ' 7 = ρ 7 ∧ α' 1 = α 1 ∧ α' 2 = α 2 ∧ α' 9 = α 9 ∧ α' 10 = α 10 ∧ α' 11 = α 11 ∧ α' 12 = α 12 ∧ α' 13 = α 13 ∧ α' 14 = α 14 ∧ α' 15 = α 15 ∧ α' 16 = α 16 ∧ α' 26 = α 26 ∧ α' 27 = α 27 ∧ α' 28 = α 28 ∧ α' 30 = α 30 ∧ α' 31 = α 31 ∧ α' 32 = α 32 ∧ P_puY [z.toInt, a0.toInt, a1.toInt, a2.toInt, a3.toInt, ρ 12, ρ' 12] [α 30, α 31, α 32, α 33, α' 33] ∧ True) := by
  refine Ct_weak (sideS (PT := PT0) (c := c_yo_put) (Bs := bY) (g := gY2) (N := mX7_put) (n := 4) rfl (by decide) (k_yo_put hpl_8) rfl rfl rfl (by decide +kernel) S [a0, a1, a2, a3] rfl (fun _ _ f hf => absurd hf List.not_mem_nil)) (fun v hp' q => ?_)
  obtain ⟨o, ho, r, a, r', a', h1, h2, h3, h4, h5, h6, h7, h8, h9⟩ := q
  cases List.mem_singleton.mp ho
  obtain ⟨z, rfl, hz⟩ := rO_int h4
  have t35 : a 35 = a' 33 := ((h8 33 (by decide +kernel)).trans (congrArg a (by decide +kernel))).symm
  have q18 : r 18 = r' 12 := (((h7 12).trans (den_of (m := (some 18, 0)) (by decide +kernel))).trans (Int.add_zero _)).symm
  have q13 : r 13 = a0.toInt := h2 0 (by decide)
  have q14 : r 14 = a1.toInt := h2 1 (by decide)
  have q15 : r 15 = a2.toInt := h2 2 (by decide)
  have q16 : r 16 = a3.toInt := h2 3 (by decide)
  have q12 : r 12 = ρ 12 := h1 12 (by decide)
  have t30 : a 30 = α 30 := h3 30 (by decide +kernel)
  have t31 : a 31 = α 31 := h3 31 (by decide +kernel)
  have t32 : a 32 = α 32 := h3 32 (by decide +kernel)
  have t33 : a 33 = α 33 := h3 33 (by decide +kernel)
  have q17 : r 17 = z.toInt := (hz.trans (Int.add_zero _)).symm
  have f0 := h9 _ (List.Mem.head _)
  rw [hFp_132, show PT0 132 = P_puY from rfl] at f0
  simp only [List.map_cons, List.map_nil, den_s, den_c, Int.add_zero, q12, q13, q14, q15, q16, q17, q18, t30, t31, t32, t33, t35] at f0
  exact ⟨z, rfl, h5, r', a', h6, nrc h7 h1 [4, 5, 6, 7] (by decide +kernel) (frc h8 h3 [1, 2, 9, 10, 11, 12, 13, 14, 15, 16, 26, 27, 28, 30, 31, 32] (by decide +kernel) ⟨f0, trivial⟩)⟩
set_option maxRecDepth 1000000 in
theorem sx_get {h : AH} {ρ : Nat → Int} {α : Nat → Int → Int} (S : SD bT (gX 999) ρ α h) (H : True) (a0 : Int32) (a1 : Int32) (a2 : Int32) : Ct mX6_get 12 0 0 [.ref 0, .int a0, .int a1, .int a2] h (fun v hp' => ∃ z : Int32, v = some (.int z) ∧ hp'.length = (gX 999).length ∧ ∃ ρ' α', SD bT (gX 999) ρ' α' hp' ∧ ρ' 0 = ρ 0 ∧ ρ' 1 = ρ 1 ∧ ρ' 2 = ρ 2 ∧ ρ' 3 = ρ 3 ∧ ρ' 4 = ρ 4 ∧ ρ' 5 = ρ 5 ∧ ρ' 6 = ρ 6 ∧ ρ' 7 = ρ 7 ∧ α' 2 = α 2 ∧ α' 4 = α 4 ∧ α' 7 = α 7 ∧ α' 8 = α 8 ∧ α' 10 = α 10 ∧ α' 11 = α 11 ∧ α' 12 = α 12 ∧ α' 13 = α 13 ∧ α' 15 = α 15 ∧ α' 16 = α 16 ∧ α' 19 = α 19 ∧ α' 20 = α 20 ∧ α' 21 = α 21 ∧ α' 23 = α 23 ∧ α' 24 = α 24 ∧ α' 25 = α 25 ∧ α' 32 = α 32 ∧ α' 33 = α 33 ∧ α' 34 = α 34 ∧ α' 41 = α 41 ∧ α' 42 = α 42 ∧ α' 43 = α 43 ∧ α' 44 = α 44 ∧ α' 45 = α 45 ∧ α' 46 = α 46 ∧ P_geX [z.toInt, a0.toInt, a1.toInt, a2.toInt, ρ 13, ρ' 13] [α 45, α 46, α 41, α 42, α 43, α 44] ∧ True) := by
  refine Ct_weak (sideS (PT := PT0) (c := c_xo_get) (Bs := bT) (g := (gX 999)) (N := mX6_get) (n := 3) rfl (by decide) (k_xo_get hpl_8) rfl rfl rfl (by decide +kernel) S [a0, a1, a2] rfl (fun _ _ f hf => absurd hf List.not_mem_nil)) (fun v hp' q => ?_)
  obtain ⟨o, ho, r, a, r', a', h1, h2, h3, h4, h5, h6, h7, h8, h9⟩ := q
  cases List.mem_singleton.mp ho
  obtain ⟨z, rfl, hz⟩ := rO_int h4
  have q18 : r 18 = r' 13 := (((h7 13).trans (den_of (m := (some 18, 0)) (by decide +kernel))).trans (Int.add_zero _)).symm
  have q14 : r 14 = a0.toInt := h2 0 (by decide)
  have q15 : r 15 = a1.toInt := h2 1 (by decide)
  have q16 : r 16 = a2.toInt := h2 2 (by decide)
  have q13 : r 13 = ρ 13 := h1 13 (by decide)
  have t41 : a 41 = α 41 := h3 41 (by decide +kernel)
  have t42 : a 42 = α 42 := h3 42 (by decide +kernel)
  have t43 : a 43 = α 43 := h3 43 (by decide +kernel)
  have t44 : a 44 = α 44 := h3 44 (by decide +kernel)
  have t45 : a 45 = α 45 := h3 45 (by decide +kernel)
  have t46 : a 46 = α 46 := h3 46 (by decide +kernel)
  have q17 : r 17 = z.toInt := (hz.trans (Int.add_zero _)).symm
  have f0 := h9 _ (List.Mem.head _)
  rw [hFp_133, show PT0 133 = P_geX from rfl] at f0
  simp only [List.map_cons, List.map_nil, den_s, den_c, Int.add_zero, q13, q14, q15, q16, q17, q18, t41, t42, t43, t44, t45, t46] at f0
  exact ⟨z, rfl, h5, r', a', h6, nrc h7 h1 [0, 1, 2, 3, 4, 5, 6, 7] (by decide +kernel) (frc h8 h3 [2, 4, 7, 8, 10, 11, 12, 13, 15, 16, 19, 20, 21, 23, 24, 25, 32, 33, 34, 41, 42, 43, 44, 45, 46] (by decide +kernel) ⟨f0, trivial⟩)⟩
set_option maxRecDepth 1000000 in
theorem sy_get {h : AH} {ρ : Nat → Int} {α : Nat → Int → Int} (S : SD bY gY2 ρ α h) (H : P_ly [] [α 1]) (a0 : Int32) (a1 : Int32) (a2 : Int32) : Ct mX7_get 12 0 0 [.ref 0, .int a0, .int a1, .int a2] h (fun v hp' => ∃ z : Int32, v = some (.int z) ∧ hp'.length = gY2.length ∧ ∃ ρ' α', SD bY gY2 ρ' α' hp' ∧ ρ' 4 = ρ 4 ∧ ρ' 5 = ρ 5 ∧ ρ' 6 = ρ 6 ∧ ρ' 7 = ρ 7 ∧ α' 1 = α 1 ∧ α' 2 = α 2 ∧ α' 9 = α 9 ∧ α' 10 = α 10 ∧ α' 11 = α 11 ∧ α' 12 = α 12 ∧ α' 13 = α 13 ∧ α' 14 = α 14 ∧ α' 15 = α 15 ∧ α' 16 = α 16 ∧ α' 26 = α 26 ∧ α' 27 = α 27 ∧ α' 28 = α 28 ∧ α' 30 = α 30 ∧ α' 31 = α 31 ∧ α' 32 = α 32 ∧ α' 33 = α 33 ∧ P_geY [z.toInt, a0.toInt, a1.toInt, a2.toInt, ρ 12, ρ' 12] [α 30, α 31, α 32, α 33] ∧ True) := by
  refine Ct_weak (sideS (PT := PT0) (c := c_yo_get) (Bs := bY) (g := gY2) (N := mX7_get) (n := 3) rfl (by decide) (k_yo_get hpl_8) rfl rfl rfl (by decide +kernel) S [a0, a1, a2] rfl (fun _ _ f hf => absurd hf List.not_mem_nil)) (fun v hp' q => ?_)
  obtain ⟨o, ho, r, a, r', a', h1, h2, h3, h4, h5, h6, h7, h8, h9⟩ := q
  cases List.mem_singleton.mp ho
  obtain ⟨z, rfl, hz⟩ := rO_int h4
  have q17 : r 17 = r' 12 := (((h7 12).trans (den_of (m := (some 17, 0)) (by decide +kernel))).trans (Int.add_zero _)).symm
  have q13 : r 13 = a0.toInt := h2 0 (by decide)
  have q14 : r 14 = a1.toInt := h2 1 (by decide)
  have q15 : r 15 = a2.toInt := h2 2 (by decide)
  have q12 : r 12 = ρ 12 := h1 12 (by decide)
  have t30 : a 30 = α 30 := h3 30 (by decide +kernel)
  have t31 : a 31 = α 31 := h3 31 (by decide +kernel)
  have t32 : a 32 = α 32 := h3 32 (by decide +kernel)
  have t33 : a 33 = α 33 := h3 33 (by decide +kernel)
  have q16 : r 16 = z.toInt := (hz.trans (Int.add_zero _)).symm
  have f0 := h9 _ (List.Mem.head _)
  rw [hFp_134, show PT0 134 = P_geY from rfl] at f0
  simp only [List.map_cons, List.map_nil, den_s, den_c, Int.add_zero, q12, q13, q14, q15, q16, q17, t30, t31, t32, t33] at f0
  exact ⟨z, rfl, h5, r', a', h6, nrc h7 h1 [4, 5, 6, 7] (by decide +kernel) (frc h8 h3 [1, 2, 9, 10, 11, 12, 13, 14, 15, 16, 26, 27, 28, 30, 31, 32, 33] (by decide +kernel) ⟨f0, trivial⟩)⟩
set_option maxRecDepth 1000000 in
theorem sx_copy {h : AH} {ρ : Nat → Int} {α : Nat → Int → Int} (S : SD bT (gX 999) ρ α h) (H : True) (a0 : Int32) (a1 : Int32) (a2 : Int32) (a3 : Int32) (a4 : Int32) : Ct mX6_copy 12 0 0 [.ref 0, .int a0, .int a1, .int a2, .int a3, .int a4] h (fun v hp' => ∃ z : Int32, v = some (.int z) ∧ hp'.length = (gX 999).length ∧ ∃ ρ' α', SD bT (gX 999) ρ' α' hp' ∧ ρ' 0 = ρ 0 ∧ ρ' 1 = ρ 1 ∧ ρ' 2 = ρ 2 ∧ ρ' 3 = ρ 3 ∧ ρ' 4 = ρ 4 ∧ ρ' 5 = ρ 5 ∧ ρ' 6 = ρ 6 ∧ ρ' 7 = ρ 7 ∧ α' 2 = α 2 ∧ α' 4 = α 4 ∧ α' 7 = α 7 ∧ α' 8 = α 8 ∧ α' 10 = α 10 ∧ α' 11 = α 11 ∧ α' 12 = α 12 ∧ α' 13 = α 13 ∧ α' 15 = α 15 ∧ α' 16 = α 16 ∧ α' 19 = α 19 ∧ α' 20 = α 20 ∧ α' 21 = α 21 ∧ α' 23 = α 23 ∧ α' 24 = α 24 ∧ α' 25 = α 25 ∧ α' 32 = α 32 ∧ α' 33 = α 33 ∧ α' 34 = α 34 ∧ α' 45 = α 45 ∧ α' 46 = α 46 ∧ P_cpX [z.toInt, a0.toInt, a1.toInt, a2.toInt, a3.toInt, a4.toInt, ρ 13, ρ' 13] [α 45, α 46, α 41, α 42, α 43, α 44, α' 41, α' 42, α' 43, α' 44] ∧ True) := by
  refine Ct_weak (sideS (PT := PT0) (c := c_xo_copy) (Bs := bT) (g := (gX 999)) (N := mX6_copy) (n := 5) rfl (by decide) (k_xo_copy hpl_9) rfl rfl rfl (by decide +kernel) S [a0, a1, a2, a3, a4] rfl (fun _ _ f hf => absurd hf List.not_mem_nil)) (fun v hp' q => ?_)
  obtain ⟨o, ho, r, a, r', a', h1, h2, h3, h4, h5, h6, h7, h8, h9⟩ := q
  cases List.mem_singleton.mp ho
  obtain ⟨z, rfl, hz⟩ := rO_int h4
  have t58 : a 58 = a' 41 := ((h8 41 (by decide +kernel)).trans (congrArg a (by decide +kernel))).symm
  have t59 : a 59 = a' 42 := ((h8 42 (by decide +kernel)).trans (congrArg a (by decide +kernel))).symm
  have t60 : a 60 = a' 43 := ((h8 43 (by decide +kernel)).trans (congrArg a (by decide +kernel))).symm
  have t61 : a 61 = a' 44 := ((h8 44 (by decide +kernel)).trans (congrArg a (by decide +kernel))).symm
  have q20 : r 20 = r' 13 := (((h7 13).trans (den_of (m := (some 20, 0)) (by decide +kernel))).trans (Int.add_zero _)).symm
  have q14 : r 14 = a0.toInt := h2 0 (by decide)
  have q15 : r 15 = a1.toInt := h2 1 (by decide)
  have q16 : r 16 = a2.toInt := h2 2 (by decide)
  have q17 : r 17 = a3.toInt := h2 3 (by decide)
  have q18 : r 18 = a4.toInt := h2 4 (by decide)
  have q13 : r 13 = ρ 13 := h1 13 (by decide)
  have t41 : a 41 = α 41 := h3 41 (by decide +kernel)
  have t42 : a 42 = α 42 := h3 42 (by decide +kernel)
  have t43 : a 43 = α 43 := h3 43 (by decide +kernel)
  have t44 : a 44 = α 44 := h3 44 (by decide +kernel)
  have t45 : a 45 = α 45 := h3 45 (by decide +kernel)
  have t46 : a 46 = α 46 := h3 46 (by decide +kernel)
  have q19 : r 19 = z.toInt := (hz.trans (Int.add_zero _)).symm
  have f0 := h9 _ (List.Mem.head _)
  rw [hFp_135, show PT0 135 = P_cpX from rfl] at f0
  simp only [List.map_cons, List.map_nil, den_s, den_c, Int.add_zero, q13, q14, q15, q16, q17, q18, q19, q20, t41, t42, t43, t44, t45, t46, t58, t59, t60, t61] at f0
  exact ⟨z, rfl, h5, r', a', h6, nrc h7 h1 [0, 1, 2, 3, 4, 5, 6, 7] (by decide +kernel) (frc h8 h3 [2, 4, 7, 8, 10, 11, 12, 13, 15, 16, 19, 20, 21, 23, 24, 25, 32, 33, 34, 45, 46] (by decide +kernel) ⟨f0, trivial⟩)⟩
set_option maxRecDepth 1000000 in
theorem sy_copy {h : AH} {ρ : Nat → Int} {α : Nat → Int → Int} (S : SD bY gY2 ρ α h) (H : P_ly [] [α 1]) (a0 : Int32) (a1 : Int32) (a2 : Int32) (a3 : Int32) (a4 : Int32) : Ct mX7_copy 12 0 0 [.ref 0, .int a0, .int a1, .int a2, .int a3, .int a4] h (fun v hp' => ∃ z : Int32, v = some (.int z) ∧ hp'.length = gY2.length ∧ ∃ ρ' α', SD bY gY2 ρ' α' hp' ∧ ρ' 4 = ρ 4 ∧ ρ' 5 = ρ 5 ∧ ρ' 6 = ρ 6 ∧ ρ' 7 = ρ 7 ∧ α' 1 = α 1 ∧ α' 2 = α 2 ∧ α' 9 = α 9 ∧ α' 10 = α 10 ∧ α' 11 = α 11 ∧ α' 12 = α 12 ∧ α' 13 = α 13 ∧ α' 14 = α 14 ∧ α' 15 = α 15 ∧ α' 16 = α 16 ∧ α' 26 = α 26 ∧ α' 27 = α 27 ∧ α' 28 = α 28 ∧ α' 30 = α 30 ∧ α' 31 = α 31 ∧ α' 32 = α 32 ∧ P_cpY [z.toInt, a0.toInt, a1.toInt, a2.toInt, a3.toInt, a4.toInt, ρ 12, ρ' 12] [α 30, α 31, α 32, α 33, α' 33] ∧ True) := by
  refine Ct_weak (sideS (PT := PT0) (c := c_yo_copy) (Bs := bY) (g := gY2) (N := mX7_copy) (n := 5) rfl (by decide) (k_yo_copy hpl_9) rfl rfl rfl (by decide +kernel) S [a0, a1, a2, a3, a4] rfl (fun _ _ f hf => absurd hf List.not_mem_nil)) (fun v hp' q => ?_)
  obtain ⟨o, ho, r, a, r', a', h1, h2, h3, h4, h5, h6, h7, h8, h9⟩ := q
  cases List.mem_singleton.mp ho
  obtain ⟨z, rfl, hz⟩ := rO_int h4
  have t35 : a 35 = a' 33 := ((h8 33 (by decide +kernel)).trans (congrArg a (by decide +kernel))).symm
  have q19 : r 19 = r' 12 := (((h7 12).trans (den_of (m := (some 19, 0)) (by decide +kernel))).trans (Int.add_zero _)).symm
  have q13 : r 13 = a0.toInt := h2 0 (by decide)
  have q14 : r 14 = a1.toInt := h2 1 (by decide)
  have q15 : r 15 = a2.toInt := h2 2 (by decide)
  have q16 : r 16 = a3.toInt := h2 3 (by decide)
  have q17 : r 17 = a4.toInt := h2 4 (by decide)
  have q12 : r 12 = ρ 12 := h1 12 (by decide)
  have t30 : a 30 = α 30 := h3 30 (by decide +kernel)
  have t31 : a 31 = α 31 := h3 31 (by decide +kernel)
  have t32 : a 32 = α 32 := h3 32 (by decide +kernel)
  have t33 : a 33 = α 33 := h3 33 (by decide +kernel)
  have q18 : r 18 = z.toInt := (hz.trans (Int.add_zero _)).symm
  have f0 := h9 _ (List.Mem.head _)
  rw [hFp_136, show PT0 136 = P_cpY from rfl] at f0
  simp only [List.map_cons, List.map_nil, den_s, den_c, Int.add_zero, q12, q13, q14, q15, q16, q17, q18, q19, t30, t31, t32, t33, t35] at f0
  exact ⟨z, rfl, h5, r', a', h6, nrc h7 h1 [4, 5, 6, 7] (by decide +kernel) (frc h8 h3 [1, 2, 9, 10, 11, 12, 13, 14, 15, 16, 26, 27, 28, 30, 31, 32] (by decide +kernel) ⟨f0, trivial⟩)⟩
set_option maxRecDepth 1000000 in
theorem sx_write {h : AH} {ρ : Nat → Int} {α : Nat → Int → Int} (S : SD bT (gX 999) ρ α h) (H : True) (a0 : Int32) (a1 : Int32) : Ct mX6_write 12 0 0 [.ref 0, .int a0, .int a1] h (fun v hp' => ∃ z : Int32, v = some (.int z) ∧ hp'.length = (gX 999).length ∧ ∃ ρ' α', SD bT (gX 999) ρ' α' hp' ∧ ρ' 0 = ρ 0 ∧ ρ' 1 = ρ 1 ∧ ρ' 2 = ρ 2 ∧ ρ' 3 = ρ 3 ∧ ρ' 4 = ρ 4 ∧ ρ' 5 = ρ 5 ∧ ρ' 6 = ρ 6 ∧ ρ' 7 = ρ 7 ∧ α' 2 = α 2 ∧ α' 4 = α 4 ∧ α' 7 = α 7 ∧ α' 8 = α 8 ∧ α' 10 = α 10 ∧ α' 11 = α 11 ∧ α' 12 = α 12 ∧ α' 13 = α 13 ∧ α' 15 = α 15 ∧ α' 16 = α 16 ∧ α' 19 = α 19 ∧ α' 20 = α 20 ∧ α' 21 = α 21 ∧ α' 23 = α 23 ∧ α' 24 = α 24 ∧ α' 25 = α 25 ∧ α' 32 = α 32 ∧ α' 33 = α 33 ∧ α' 34 = α 34 ∧ α' 45 = α 45 ∧ α' 46 = α 46 ∧ P_owX [z.toInt, a0.toInt, a1.toInt, ρ 13, ρ' 13, ρ 2, ρ 3, ρ 4, ρ 5, ρ 6, 0, 0] [α 7, α 8, α 10, α 11, α 12, α 13, α 15, α 16, α 19, α 20, α 21, α 23, α 24, α 25, α 45, α 46, α 41, α 42, α 43, α 44, α' 41, α' 42, α' 43, α' 44] ∧ True) := by
  refine Ct_weak (sideS (PT := PT0) (c := c_xo_writeC) (Bs := bT) (g := (gX 999)) (N := mX6_write) (n := 2) rfl (by decide) (k_xo_writeC hpl_11) rfl rfl rfl (by decide +kernel) S [a0, a1] rfl (fun _ _ f hf => absurd hf List.not_mem_nil)) (fun v hp' q => ?_)
  obtain ⟨o, ho, r, a, r', a', h1, h2, h3, h4, h5, h6, h7, h8, h9⟩ := q
  cases List.mem_singleton.mp ho
  obtain ⟨z, rfl, hz⟩ := rO_int h4
  have t63 : a 63 = a' 41 := ((h8 41 (by decide +kernel)).trans (congrArg a (by decide +kernel))).symm
  have t64 : a 64 = a' 42 := ((h8 42 (by decide +kernel)).trans (congrArg a (by decide +kernel))).symm
  have t65 : a 65 = a' 43 := ((h8 43 (by decide +kernel)).trans (congrArg a (by decide +kernel))).symm
  have t66 : a 66 = a' 44 := ((h8 44 (by decide +kernel)).trans (congrArg a (by decide +kernel))).symm
  have q17 : r 17 = r' 13 := (((h7 13).trans (den_of (m := (some 17, 0)) (by decide +kernel))).trans (Int.add_zero _)).symm
  have q14 : r 14 = a0.toInt := h2 0 (by decide)
  have q15 : r 15 = a1.toInt := h2 1 (by decide)
  have q13 : r 13 = ρ 13 := h1 13 (by decide)
  have q2 : r 2 = ρ 2 := h1 2 (by decide)
  have q3 : r 3 = ρ 3 := h1 3 (by decide)
  have q4 : r 4 = ρ 4 := h1 4 (by decide)
  have q5 : r 5 = ρ 5 := h1 5 (by decide)
  have q6 : r 6 = ρ 6 := h1 6 (by decide)
  have t10 : a 10 = α 10 := h3 10 (by decide +kernel)
  have t11 : a 11 = α 11 := h3 11 (by decide +kernel)
  have t12 : a 12 = α 12 := h3 12 (by decide +kernel)
  have t13 : a 13 = α 13 := h3 13 (by decide +kernel)
  have t15 : a 15 = α 15 := h3 15 (by decide +kernel)
  have t16 : a 16 = α 16 := h3 16 (by decide +kernel)
  have t19 : a 19 = α 19 := h3 19 (by decide +kernel)
  have t20 : a 20 = α 20 := h3 20 (by decide +kernel)
  have t21 : a 21 = α 21 := h3 21 (by decide +kernel)
  have t23 : a 23 = α 23 := h3 23 (by decide +kernel)
  have t24 : a 24 = α 24 := h3 24 (by decide +kernel)
  have t25 : a 25 = α 25 := h3 25 (by decide +kernel)
  have t41 : a 41 = α 41 := h3 41 (by decide +kernel)
  have t42 : a 42 = α 42 := h3 42 (by decide +kernel)
  have t43 : a 43 = α 43 := h3 43 (by decide +kernel)
  have t44 : a 44 = α 44 := h3 44 (by decide +kernel)
  have t45 : a 45 = α 45 := h3 45 (by decide +kernel)
  have t46 : a 46 = α 46 := h3 46 (by decide +kernel)
  have t7 : a 7 = α 7 := h3 7 (by decide +kernel)
  have t8 : a 8 = α 8 := h3 8 (by decide +kernel)
  have q16 : r 16 = z.toInt := (hz.trans (Int.add_zero _)).symm
  have f0 := h9 _ (List.Mem.head _)
  rw [hFp_162, show PT0 162 = P_owX from rfl] at f0
  simp only [List.map_cons, List.map_nil, den_s, den_c, Int.add_zero, q13, q14, q15, q16, q17, q2, q3, q4, q5, q6, t10, t11, t12, t13, t15, t16, t19, t20, t21, t23, t24, t25, t41, t42, t43, t44, t45, t46, t63, t64, t65, t66, t7, t8] at f0
  exact ⟨z, rfl, h5, r', a', h6, nrc h7 h1 [0, 1, 2, 3, 4, 5, 6, 7] (by decide +kernel) (frc h8 h3 [2, 4, 7, 8, 10, 11, 12, 13, 15, 16, 19, 20, 21, 23, 24, 25, 32, 33, 34, 45, 46] (by decide +kernel) ⟨f0, trivial⟩)⟩
set_option maxRecDepth 1000000 in
theorem sy_write {h : AH} {ρ : Nat → Int} {α : Nat → Int → Int} (S : SD bY gY2 ρ α h) (H : P_ly [] [α 1]) (a0 : Int32) (a1 : Int32) : Ct mX7_write 12 0 0 [.ref 0, .int a0, .int a1] h (fun v hp' => ∃ z : Int32, v = some (.int z) ∧ hp'.length = gY2.length ∧ ∃ ρ' α', SD bY gY2 ρ' α' hp' ∧ ρ' 4 = ρ 4 ∧ ρ' 5 = ρ 5 ∧ ρ' 6 = ρ 6 ∧ ρ' 7 = ρ 7 ∧ α' 1 = α 1 ∧ α' 2 = α 2 ∧ α' 9 = α 9 ∧ α' 10 = α 10 ∧ α' 11 = α 11 ∧ α' 12 = α 12 ∧ α' 13 = α 13 ∧ α' 14 = α 14 ∧ α' 15 = α 15 ∧ α' 16 = α 16 ∧ α' 26 = α 26 ∧ α' 27 = α 27 ∧ α' 28 = α 28 ∧ α' 30 = α 30 ∧ α' 31 = α 31 ∧ α' 32 = α 32 ∧ P_owY [z.toInt, a0.toInt, a1.toInt, ρ 12, ρ' 12, ρ' 2, ρ' 3, ρ 4, ρ 5, ρ 6] [α 1, α 2, α' 3, α' 4, α' 5, α' 6, α' 7, α' 8, α' 17, α' 18, α 9, α 10, α 11, α 12, α 13, α 14, α 15, α 16, α' 22, α' 23, α' 24, α' 19, α' 20, α' 21, α 30, α 31, α 32, α 33, α' 33] ∧ True) := by
  refine Ct_weak (sideS (PT := PT0) (c := c_yo_writeC) (Bs := bY) (g := gY2) (N := mX7_write) (n := 2) rfl (by decide) (k_yo_writeC hpl_12) rfl rfl rfl (by decide +kernel) S [a0, a1] rfl (fun r _ f hf => by cases List.mem_singleton.mp hf; exact Eq.mpr (hFp_78 [] [1]) H)) (fun v hp' q => ?_)
  obtain ⟨o, ho, r, a, r', a', h1, h2, h3, h4, h5, h6, h7, h8, h9⟩ := q
  cases List.mem_singleton.mp ho
  obtain ⟨z, rfl, hz⟩ := rO_int h4
  have t41 : a 41 = a' 17 := ((h8 17 (by decide +kernel)).trans (congrArg a (by decide +kernel))).symm
  have t42 : a 42 = a' 18 := ((h8 18 (by decide +kernel)).trans (congrArg a (by decide +kernel))).symm
  have t43 : a 43 = a' 19 := ((h8 19 (by decide +kernel)).trans (congrArg a (by decide +kernel))).symm
  have t44 : a 44 = a' 20 := ((h8 20 (by decide +kernel)).trans (congrArg a (by decide +kernel))).symm
  have t45 : a 45 = a' 21 := ((h8 21 (by decide +kernel)).trans (congrArg a (by decide +kernel))).symm
  have t46 : a 46 = a' 22 := ((h8 22 (by decide +kernel)).trans (congrArg a (by decide +kernel))).symm
  have t47 : a 47 = a' 23 := ((h8 23 (by decide +kernel)).trans (congrArg a (by decide +kernel))).symm
  have t48 : a 48 = a' 24 := ((h8 24 (by decide +kernel)).trans (congrArg a (by decide +kernel))).symm
  have t35 : a 35 = a' 3 := ((h8 3 (by decide +kernel)).trans (congrArg a (by decide +kernel))).symm
  have t49 : a 49 = a' 33 := ((h8 33 (by decide +kernel)).trans (congrArg a (by decide +kernel))).symm
  have t36 : a 36 = a' 4 := ((h8 4 (by decide +kernel)).trans (congrArg a (by decide +kernel))).symm
  have t37 : a 37 = a' 5 := ((h8 5 (by decide +kernel)).trans (congrArg a (by decide +kernel))).symm
  have t38 : a 38 = a' 6 := ((h8 6 (by decide +kernel)).trans (congrArg a (by decide +kernel))).symm
  have t39 : a 39 = a' 7 := ((h8 7 (by decide +kernel)).trans (congrArg a (by decide +kernel))).symm
  have t40 : a 40 = a' 8 := ((h8 8 (by decide +kernel)).trans (congrArg a (by decide +kernel))).symm
  have q22 : r 22 = r' 12 := (((h7 12).trans (den_of (m := (some 22, 0)) (by decide +kernel))).trans (Int.add_zero _)).symm
  have q16 : r 16 = r' 2 := (((h7 2).trans (den_of (m := (some 16, 0)) (by decide +kernel))).trans (Int.add_zero _)).symm
  have q17 : r 17 = r' 3 := (((h7 3).trans (den_of (m := (some 17, 0)) (by decide +kernel))).trans (Int.add_zero _)).symm
  have q13 : r 13 = a0.toInt := h2 0 (by decide)
  have q14 : r 14 = a1.toInt := h2 1 (by decide)
  have q12 : r 12 = ρ 12 := h1 12 (by decide)
  have q4 : r 4 = ρ 4 := h1 4 (by decide)
  have q5 : r 5 = ρ 5 := h1 5 (by decide)
  have q6 : r 6 = ρ 6 := h1 6 (by decide)
  have t1 : a 1 = α 1 := h3 1 (by decide +kernel)
  have t10 : a 10 = α 10 := h3 10 (by decide +kernel)
  have t11 : a 11 = α 11 := h3 11 (by decide +kernel)
  have t12 : a 12 = α 12 := h3 12 (by decide +kernel)
  have t13 : a 13 = α 13 := h3 13 (by decide +kernel)
  have t14 : a 14 = α 14 := h3 14 (by decide +kernel)
  have t15 : a 15 = α 15 := h3 15 (by decide +kernel)
  have t16 : a 16 = α 16 := h3 16 (by decide +kernel)
  have t2 : a 2 = α 2 := h3 2 (by decide +kernel)
  have t30 : a 30 = α 30 := h3 30 (by decide +kernel)
  have t31 : a 31 = α 31 := h3 31 (by decide +kernel)
  have t32 : a 32 = α 32 := h3 32 (by decide +kernel)
  have t33 : a 33 = α 33 := h3 33 (by decide +kernel)
  have t9 : a 9 = α 9 := h3 9 (by decide +kernel)
  have q15 : r 15 = z.toInt := (hz.trans (Int.add_zero _)).symm
  have f0 := h9 _ (List.Mem.head _)
  rw [hFp_178, show PT0 178 = P_owY from rfl] at f0
  simp only [List.map_cons, List.map_nil, den_s, den_c, Int.add_zero, q12, q13, q14, q15, q16, q17, q22, q4, q5, q6, t1, t10, t11, t12, t13, t14, t15, t16, t2, t30, t31, t32, t33, t35, t36, t37, t38, t39, t40, t41, t42, t43, t44, t45, t46, t47, t48, t49, t9] at f0
  exact ⟨z, rfl, h5, r', a', h6, nrc h7 h1 [4, 5, 6, 7] (by decide +kernel) (frc h8 h3 [1, 2, 9, 10, 11, 12, 13, 14, 15, 16, 26, 27, 28, 30, 31, 32] (by decide +kernel) ⟨f0, trivial⟩)⟩
set_option maxRecDepth 1000000 in
theorem sx_count {h : AH} {ρ : Nat → Int} {α : Nat → Int → Int} (S : SD bT (gX 999) ρ α h) (H : True) (a0 : Int32) : Ct mX6_count 12 0 0 [.ref 0, .int a0] h (fun v hp' => ∃ z : Int32, v = some (.int z) ∧ hp'.length = (gX 999).length ∧ ∃ ρ' α', SD bT (gX 999) ρ' α' hp' ∧ ρ' 0 = ρ 0 ∧ ρ' 1 = ρ 1 ∧ ρ' 2 = ρ 2 ∧ ρ' 3 = ρ 3 ∧ ρ' 4 = ρ 4 ∧ ρ' 5 = ρ 5 ∧ ρ' 6 = ρ 6 ∧ ρ' 7 = ρ 7 ∧ ρ' 13 = ρ 13 ∧ α' 2 = α 2 ∧ α' 4 = α 4 ∧ α' 7 = α 7 ∧ α' 8 = α 8 ∧ α' 10 = α 10 ∧ α' 11 = α 11 ∧ α' 12 = α 12 ∧ α' 13 = α 13 ∧ α' 15 = α 15 ∧ α' 16 = α 16 ∧ α' 19 = α 19 ∧ α' 20 = α 20 ∧ α' 21 = α 21 ∧ α' 23 = α 23 ∧ α' 24 = α 24 ∧ α' 25 = α 25 ∧ α' 32 = α 32 ∧ α' 33 = α 33 ∧ α' 34 = α 34 ∧ α' 41 = α 41 ∧ α' 42 = α 42 ∧ α' 43 = α 43 ∧ α' 44 = α 44 ∧ α' 45 = α 45 ∧ α' 46 = α 46 ∧ True) := by
  refine Ct_weak (sideS (PT := PT0) (c := c_xo_count) (Bs := bT) (g := (gX 999)) (N := mX6_count) (n := 1) rfl (by decide) (k_xo_count hpl_9) rfl rfl rfl (by decide +kernel) S [a0] rfl (fun _ _ f hf => absurd hf List.not_mem_nil)) (fun v hp' q => ?_)
  obtain ⟨o, ho, r, a, r', a', h1, h2, h3, h4, h5, h6, h7, h8, h9⟩ := q
  cases List.mem_singleton.mp ho
  obtain ⟨z, rfl, hz⟩ := rO_int h4
  exact ⟨z, rfl, h5, r', a', h6, nrc h7 h1 [0, 1, 2, 3, 4, 5, 6, 7, 13] (by decide +kernel) (frc h8 h3 [2, 4, 7, 8, 10, 11, 12, 13, 15, 16, 19, 20, 21, 23, 24, 25, 32, 33, 34, 41, 42, 43, 44, 45, 46] (by decide +kernel) trivial)⟩
set_option maxRecDepth 1000000 in
theorem sy_count {h : AH} {ρ : Nat → Int} {α : Nat → Int → Int} (S : SD bY gY2 ρ α h) (H : P_ly [] [α 1]) (a0 : Int32) : Ct mX7_count 12 0 0 [.ref 0, .int a0] h (fun v hp' => ∃ z : Int32, v = some (.int z) ∧ hp'.length = gY2.length ∧ ∃ ρ' α', SD bY gY2 ρ' α' hp' ∧ ρ' 4 = ρ 4 ∧ ρ' 5 = ρ 5 ∧ ρ' 6 = ρ 6 ∧ ρ' 7 = ρ 7 ∧ ρ' 12 = ρ 12 ∧ α' 1 = α 1 ∧ α' 2 = α 2 ∧ α' 9 = α 9 ∧ α' 10 = α 10 ∧ α' 11 = α 11 ∧ α' 12 = α 12 ∧ α' 13 = α 13 ∧ α' 14 = α 14 ∧ α' 15 = α 15 ∧ α' 16 = α 16 ∧ α' 26 = α 26 ∧ α' 27 = α 27 ∧ α' 28 = α 28 ∧ α' 30 = α 30 ∧ α' 31 = α 31 ∧ α' 32 = α 32 ∧ α' 33 = α 33 ∧ True) := by
  refine Ct_weak (sideS (PT := PT0) (c := c_yo_count) (Bs := bY) (g := gY2) (N := mX7_count) (n := 1) rfl (by decide) (k_yo_count hpl_9) rfl rfl rfl (by decide +kernel) S [a0] rfl (fun r _ f hf => by cases List.mem_singleton.mp hf; exact Eq.mpr (hFp_78 [] [1]) H)) (fun v hp' q => ?_)
  obtain ⟨o, ho, r, a, r', a', h1, h2, h3, h4, h5, h6, h7, h8, h9⟩ := q
  cases List.mem_singleton.mp ho
  obtain ⟨z, rfl, hz⟩ := rO_int h4
  exact ⟨z, rfl, h5, r', a', h6, nrc h7 h1 [4, 5, 6, 7, 12] (by decide +kernel) (frc h8 h3 [1, 2, 9, 10, 11, 12, 13, 14, 15, 16, 26, 27, 28, 30, 31, 32, 33] (by decide +kernel) trivial)⟩
set_option maxRecDepth 1000000 in
theorem sx_digest {h : AH} {ρ : Nat → Int} {α : Nat → Int → Int} (S : SD bT (gX 999) ρ α h) (H : True) : Ct mX6_digest 12 0 0 [.ref 0] h (fun v hp' => ∃ z : Int64, v = some (.long z) ∧ hp'.length = (gX 999).length ∧ ∃ ρ' α', SD bT (gX 999) ρ' α' hp' ∧ ρ' 0 = ρ 0 ∧ ρ' 1 = ρ 1 ∧ ρ' 2 = ρ 2 ∧ ρ' 3 = ρ 3 ∧ ρ' 4 = ρ 4 ∧ ρ' 5 = ρ 5 ∧ ρ' 6 = ρ 6 ∧ ρ' 7 = ρ 7 ∧ ρ' 13 = ρ 13 ∧ α' 2 = α 2 ∧ α' 4 = α 4 ∧ α' 19 = α 19 ∧ α' 20 = α 20 ∧ α' 21 = α 21 ∧ α' 23 = α 23 ∧ α' 24 = α 24 ∧ α' 25 = α 25 ∧ α' 32 = α 32 ∧ α' 33 = α 33 ∧ α' 34 = α 34 ∧ α' 41 = α 41 ∧ α' 42 = α 42 ∧ α' 43 = α 43 ∧ α' 44 = α 44 ∧ α' 45 = α 45 ∧ α' 46 = α 46 ∧ α' 7 = α 7 ∧ α' 8 = α 8 ∧ P_al [ρ 3] [α' 10, α 10] ∧ P_al [ρ 3] [α' 11, α 11] ∧ P_al [ρ 3] [α' 12, α 12] ∧ P_al [ρ 3] [α' 13, α 13] ∧ P_al [ρ 4] [α' 15, α 15] ∧ P_al [ρ 4] [α' 16, α 16] ∧ True) := by
  refine Ct_weak (sideS (PT := PT0) (c := c_xf_digest) (Bs := bT) (g := (gX 999)) (N := mX6_digest) (n := 0) rfl (by decide) (k_xf_digest hpl_15) rfl rfl rfl (by decide +kernel) S [] rfl (fun _ _ f hf => absurd hf List.not_mem_nil)) (fun v hp' q => ?_)
  obtain ⟨o, ho, r, a, r', a', h1, h2, h3, h4, h5, h6, h7, h8, h9⟩ := q
  cases List.mem_singleton.mp ho
  obtain ⟨z, rfl⟩ := rO_long h4
  have t60 : a 60 = a' 10 := ((h8 10 (by decide +kernel)).trans (congrArg a (by decide +kernel))).symm
  have t61 : a 61 = a' 11 := ((h8 11 (by decide +kernel)).trans (congrArg a (by decide +kernel))).symm
  have t62 : a 62 = a' 12 := ((h8 12 (by decide +kernel)).trans (congrArg a (by decide +kernel))).symm
  have t63 : a 63 = a' 13 := ((h8 13 (by decide +kernel)).trans (congrArg a (by decide +kernel))).symm
  have t64 : a 64 = a' 15 := ((h8 15 (by decide +kernel)).trans (congrArg a (by decide +kernel))).symm
  have t65 : a 65 = a' 16 := ((h8 16 (by decide +kernel)).trans (congrArg a (by decide +kernel))).symm
  have t58 : a 58 = a' 7 := ((h8 7 (by decide +kernel)).trans (congrArg a (by decide +kernel))).symm
  have t59 : a 59 = a' 8 := ((h8 8 (by decide +kernel)).trans (congrArg a (by decide +kernel))).symm
  have q3 : r 3 = ρ 3 := h1 3 (by decide)
  have q4 : r 4 = ρ 4 := h1 4 (by decide)
  have t10 : a 10 = α 10 := h3 10 (by decide +kernel)
  have t11 : a 11 = α 11 := h3 11 (by decide +kernel)
  have t12 : a 12 = α 12 := h3 12 (by decide +kernel)
  have t13 : a 13 = α 13 := h3 13 (by decide +kernel)
  have t15 : a 15 = α 15 := h3 15 (by decide +kernel)
  have t16 : a 16 = α 16 := h3 16 (by decide +kernel)
  have t7 : a 7 = α 7 := h3 7 (by decide +kernel)
  have t8 : a 8 = α 8 := h3 8 (by decide +kernel)
  have f0 := h9 _ (List.Mem.head _)
  rw [hF27] at f0
  simp only [List.map_cons, List.map_nil, den_s, den_c, Int.add_zero, q3, q4, t10, t11, t12, t13, t15, t16, t58, t59, t60, t61, t62, t63, t64, t65, t7, t8] at f0
  have f1 := h9 _ (List.Mem.tail _ (List.Mem.head _))
  rw [hF27] at f1
  simp only [List.map_cons, List.map_nil, den_s, den_c, Int.add_zero, q3, q4, t10, t11, t12, t13, t15, t16, t58, t59, t60, t61, t62, t63, t64, t65, t7, t8] at f1
  have f2 := h9 _ (List.Mem.tail _ (List.Mem.tail _ (List.Mem.head _)))
  rw [hFp_186, show PT0 186 = P_al from rfl] at f2
  simp only [List.map_cons, List.map_nil, den_s, den_c, Int.add_zero, q3, q4, t10, t11, t12, t13, t15, t16, t58, t59, t60, t61, t62, t63, t64, t65, t7, t8] at f2
  have f3 := h9 _ (List.Mem.tail _ (List.Mem.tail _ (List.Mem.tail _ (List.Mem.head _))))
  rw [hFp_186, show PT0 186 = P_al from rfl] at f3
  simp only [List.map_cons, List.map_nil, den_s, den_c, Int.add_zero, q3, q4, t10, t11, t12, t13, t15, t16, t58, t59, t60, t61, t62, t63, t64, t65, t7, t8] at f3
  have f4 := h9 _ (List.Mem.tail _ (List.Mem.tail _ (List.Mem.tail _ (List.Mem.tail _ (List.Mem.head _)))))
  rw [hFp_186, show PT0 186 = P_al from rfl] at f4
  simp only [List.map_cons, List.map_nil, den_s, den_c, Int.add_zero, q3, q4, t10, t11, t12, t13, t15, t16, t58, t59, t60, t61, t62, t63, t64, t65, t7, t8] at f4
  have f5 := h9 _ (List.Mem.tail _ (List.Mem.tail _ (List.Mem.tail _ (List.Mem.tail _ (List.Mem.tail _ (List.Mem.head _))))))
  rw [hFp_186, show PT0 186 = P_al from rfl] at f5
  simp only [List.map_cons, List.map_nil, den_s, den_c, Int.add_zero, q3, q4, t10, t11, t12, t13, t15, t16, t58, t59, t60, t61, t62, t63, t64, t65, t7, t8] at f5
  have f6 := h9 _ (List.Mem.tail _ (List.Mem.tail _ (List.Mem.tail _ (List.Mem.tail _ (List.Mem.tail _ (List.Mem.tail _ (List.Mem.head _)))))))
  rw [hFp_186, show PT0 186 = P_al from rfl] at f6
  simp only [List.map_cons, List.map_nil, den_s, den_c, Int.add_zero, q3, q4, t10, t11, t12, t13, t15, t16, t58, t59, t60, t61, t62, t63, t64, t65, t7, t8] at f6
  have f7 := h9 _ (List.Mem.tail _ (List.Mem.tail _ (List.Mem.tail _ (List.Mem.tail _ (List.Mem.tail _ (List.Mem.tail _ (List.Mem.tail _ (List.Mem.head _))))))))
  rw [hFp_186, show PT0 186 = P_al from rfl] at f7
  simp only [List.map_cons, List.map_nil, den_s, den_c, Int.add_zero, q3, q4, t10, t11, t12, t13, t15, t16, t58, t59, t60, t61, t62, t63, t64, t65, t7, t8] at f7
  exact ⟨z, rfl, h5, r', a', h6, nrc h7 h1 [0, 1, 2, 3, 4, 5, 6, 7, 13] (by decide +kernel) (frc h8 h3 [2, 4, 19, 20, 21, 23, 24, 25, 32, 33, 34, 41, 42, 43, 44, 45, 46] (by decide +kernel) ⟨f0, f1, f2, f3, f4, f5, f6, f7, trivial⟩)⟩
set_option maxRecDepth 1000000 in
theorem sy_digest {h : AH} {ρ : Nat → Int} {α : Nat → Int → Int} (S : SD bY gY2 ρ α h) (H : P_ly [] [α 1]) : Ct mX7_digest 12 0 0 [.ref 0] h (fun v hp' => ∃ z : Int64, v = some (.long z) ∧ hp'.length = gY2.length ∧ ∃ ρ' α', SD bY gY2 ρ' α' hp' ∧ ρ' 4 = ρ 4 ∧ ρ' 5 = ρ 5 ∧ ρ' 6 = ρ 6 ∧ ρ' 7 = ρ 7 ∧ ρ' 12 = ρ 12 ∧ α' 1 = α 1 ∧ α' 2 = α 2 ∧ α' 9 = α 9 ∧ α' 10 = α 10 ∧ α' 11 = α 11 ∧ α' 12 = α 12 ∧ α' 13 = α 13 ∧ α' 14 = α 14 ∧ α' 15 = α 15 ∧ α' 16 = α 16 ∧ α' 26 = α 26 ∧ α' 27 = α 27 ∧ α' 28 = α 28 ∧ α' 30 = α 30 ∧ α' 31 = α 31 ∧ α' 32 = α 32 ∧ α' 33 = α 33 ∧ True) := by
  refine Ct_weak (sideS (PT := PT0) (c := c_yf_digest) (Bs := bY) (g := gY2) (N := mX7_digest) (n := 0) rfl (by decide) (k_yf_digest hpl_15) rfl rfl rfl (by decide +kernel) S [] rfl (fun r _ f hf => by cases List.mem_singleton.mp hf; exact Eq.mpr (hFp_78 [] [1]) H)) (fun v hp' q => ?_)
  obtain ⟨o, ho, r, a, r', a', h1, h2, h3, h4, h5, h6, h7, h8, h9⟩ := q
  cases List.mem_singleton.mp ho
  obtain ⟨z, rfl⟩ := rO_long h4
  exact ⟨z, rfl, h5, r', a', h6, nrc h7 h1 [4, 5, 6, 7, 12] (by decide +kernel) (frc h8 h3 [1, 2, 9, 10, 11, 12, 13, 14, 15, 16, 26, 27, 28, 30, 31, 32, 33] (by decide +kernel) trivial)⟩
