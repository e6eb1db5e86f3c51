/-! ===== the operations, side by side: what of them is told; printed by wip/gen/x/row.py ===== -/
def PT0 : PTy := fun n => ([P_allP, P_allV, P_ffP, P_ffV, P_nP, P_nV, P_tkP, P_tkV, P_by0, P_by1, P_rpI, P_rvI, P_rdP, P_rdV, P_ly, P_fo, P_ent, P_entI, P_eaI3, P_eaI4, P_arV, P_arK, P_arr, P_pr, P_fil, P_bg, P_adI, P_adE, P_bits, P_nkd, P_rps, P_mk, P_kp, P_br, P_g1, P_g2, P_g3, P_g4, P_r1, P_r2, P_ru, P_cp2, P_rd, P_XT, P_tyX, P_wiX, P_unX, P_faX, P_peX, P_prX, P_kgA, P_tlA, P_seA, P_baA, P_foA, P_tyY, P_wiY, P_unY, P_faY, P_peY, P_prY, P_shX, P_shY, P_shI, P_fl60, P_loX, P_loY, P_puX, P_puY, P_geX, P_geY, P_cpX, P_cpY, P_cpR, P_cpA, P_cpB, P_rdX, P_rdXI, P_rdY, P_rdYI, P_coX, P_coY, P_XN, P_wrX, P_wrY, P_wrI] : List (List Int → List (Int → Int) → Prop)).getD (n - 64) (fun _ _ => False)
theorem hpl_0 : HP0 PT0 := trivial
theorem hpl_1 : HP1 PT0 := ⟨hpl_0, rfl, rfl, rfl, rfl, rfl, rfl, rfl, rfl, trivial⟩
theorem hpl_2 : HP2 PT0 := ⟨hpl_1, rfl, rfl, rfl, rfl, rfl, rfl, rfl, rfl, trivial⟩
theorem hpl_3 : HP3 PT0 := ⟨hpl_2, rfl, rfl, rfl, rfl, rfl, rfl, rfl, rfl, rfl, rfl, rfl, rfl, trivial⟩
theorem hpl_4 : HP4 PT0 := ⟨hpl_3, rfl, rfl, rfl, trivial⟩
theorem hpl_5 : HP5 PT0 := ⟨hpl_4, rfl, rfl, rfl, rfl, rfl, rfl, rfl, rfl, rfl, rfl, rfl, rfl, trivial⟩
theorem hpl_6 : HP6 PT0 := ⟨hpl_5, rfl, rfl, rfl, rfl, rfl, rfl, rfl, rfl, rfl, rfl, rfl, rfl, trivial⟩
theorem hpl_7 : HP7 PT0 := ⟨hpl_6, rfl, rfl, rfl, rfl, rfl, rfl, trivial⟩
theorem hpl_8 : HP8 PT0 := ⟨hpl_7, rfl, rfl, rfl, rfl, rfl, rfl, rfl, rfl, rfl, rfl, trivial⟩
theorem hpl_9 : HP9 PT0 := ⟨hpl_8, rfl, rfl, rfl, rfl, rfl, rfl, rfl, rfl, rfl, rfl, rfl, trivial⟩
theorem hpl_10 : HP10 PT0 := ⟨hpl_9, rfl, trivial⟩
theorem hpl_11 : HP11 PT0 := ⟨hpl_10, rfl, rfl, rfl, trivial⟩
theorem fr_ {n : Nat} {an : List Nat} {α a a' : Nat → Int → Int} (h8 : ∀ k, k < n → a' k = a (an.getD k 0)) (h3 : ∀ s, s < n → a s = α s) (k s : Nat) (h : (decide (k < n) && (decide (an.getD k 0 = s) && decide (s < n))) = true) : a' k = α s := by
  rw [Bool.and_eq_true, Bool.and_eq_true, decide_eq_true_eq, decide_eq_true_eq, decide_eq_true_eq] at h
  rw [h8 k h.1, h.2.1, h3 s h.2.2]
set_option maxRecDepth 1000000 in
theorem sx_type {h : AH} {ρ : Nat → Int} {α : Nat → Int → Int} (S : SD bT (gX 999) ρ α h) (H : P_XN [ρ 2, ρ 3, ρ 0, ρ 1] [α 2, α 4]) (a0 : Int32) (a1 : Int32) : Ct mX6_type 12 0 0 [.ref 0, .int a0, .int a1] h (fun v hp' => ∃ z : Int32, v = some (.int z) ∧ hp'.length = (gX 999).length ∧ ∃ ρ' α', SD bT (gX 999) ρ' α' hp' ∧ α' 45 = α 45 ∧ α' 46 = α 46 ∧ P_tyX [z.toInt, a0.toInt, a1.toInt, ρ 0, ρ 1, ρ' 0, ρ' 1] [α 2, α 4, α' 2, α' 4] ∧ P_XN [ρ' 2, ρ' 3, ρ' 0, ρ' 1] [α' 2, α' 4] ∧ True) := by
  refine Ct_weak (sideS (PT := PT0) (c := c_xn_type) (Bs := bT) (g := (gX 999)) (N := mX6_type) (n := 2) rfl (by decide) (k_xn_type hpl_10) rfl rfl rfl (by decide +kernel) S [a0, a1] rfl (fun r hr f hf => by cases List.mem_singleton.mp hf; refine Eq.mpr (hFp_146 _ _) ?_; rw [show PT0 146 = P_XN from rfl]; simp only [List.map_cons, List.map_nil, den_s, Int.add_zero, hr 0 (by decide), hr 1 (by decide), hr 2 (by decide), hr 3 (by decide)]; exact H)) (fun v hp' q => ?_)
  obtain ⟨o, ho, r, a, r', a', h1, h2, h3, h4, h5, h6, h7, h8, h9⟩ := q
  cases List.mem_singleton.mp ho
  obtain ⟨z, rfl, hz⟩ := rO_int h4
  have t58 : a 58 = a' 2 := ((h8 2 (by decide +kernel)).trans (congrArg a (by decide +kernel))).symm
  have t59 : a 59 = a' 4 := ((h8 4 (by decide +kernel)).trans (congrArg a (by decide +kernel))).symm
  have q17 : r 17 = r' 0 := (((h7 0).trans (den_of (m := (some 17, 0)) (by decide +kernel))).trans (Int.add_zero _)).symm
  have q18 : r 18 = r' 1 := (((h7 1).trans (den_of (m := (some 18, 0)) (by decide +kernel))).trans (Int.add_zero _)).symm
  have q19 : r 19 = r' 2 := (((h7 2).trans (den_of (m := (some 19, 0)) (by decide +kernel))).trans (Int.add_zero _)).symm
  have q20 : r 20 = r' 3 := (((h7 3).trans (den_of (m := (some 20, 0)) (by decide +kernel))).trans (Int.add_zero _)).symm
  have q14 : r 14 = a0.toInt := h2 0 (by decide)
  have q15 : r 15 = a1.toInt := h2 1 (by decide)
  have q0 : r 0 = ρ 0 := h1 0 (by decide)
  have q1 : r 1 = ρ 1 := h1 1 (by decide)
  have t2 : a 2 = α 2 := h3 2 (by decide +kernel)
  have t4 : a 4 = α 4 := h3 4 (by decide +kernel)
  have q16 : r 16 = z.toInt := (hz.trans (Int.add_zero _)).symm
  have f0 := h9 _ (List.Mem.head _)
  rw [hFp_108, show PT0 108 = P_tyX from rfl] at f0
  simp only [List.map_cons, List.map_nil, den_s, den_c, Int.add_zero, q0, q1, q14, q15, q16, q17, q18, q19, q20, t2, t4, t58, t59] at f0
  have f1 := h9 _ (List.Mem.tail _ (List.Mem.head _))
  rw [hFp_146, show PT0 146 = P_XN from rfl] at f1
  simp only [List.map_cons, List.map_nil, den_s, den_c, Int.add_zero, q0, q1, q14, q15, q16, q17, q18, q19, q20, t2, t4, t58, t59] at f1
  exact ⟨z, rfl, h5, r', a', h6, fr_ h8 h3 45 45 (by decide +kernel), fr_ h8 h3 46 46 (by decide +kernel), f0, f1, trivial⟩
set_option maxRecDepth 1000000 in
theorem sy_type {h : AH} {ρ : Nat → Int} {α : Nat → Int → Int} (S : SD bY gY2 ρ α h) (H : P_ly [] [α 1]) (a0 : Int32) (a1 : Int32) : Ct mX7_type 12 0 0 [.ref 0, .int a0, .int a1] h (fun v hp' => ∃ z : Int32, v = some (.int z) ∧ hp'.length = gY2.length ∧ ∃ ρ' α', SD bY gY2 ρ' α' hp' ∧ α' 30 = α 30 ∧ α' 31 = α 31 ∧ α' 32 = α 32 ∧ P_tyY [z.toInt, a0.toInt, a1.toInt] [α 1, α 2, α' 1, α' 2] ∧ True) := by
  refine Ct_weak (sideS (PT := PT0) (c := c_yo_type) (Bs := bY) (g := gY2) (N := mX7_type) (n := 2) rfl (by decide) (k_yo_type hpl_7) rfl rfl rfl (by decide +kernel) S [a0, a1] rfl (fun r _ f hf => by cases List.mem_singleton.mp hf; exact Eq.mpr (hFp_78 [] [1]) H)) (fun v hp' q => ?_)
  obtain ⟨o, ho, r, a, r', a', h1, h2, h3, h4, h5, h6, h7, h8, h9⟩ := q
  cases List.mem_singleton.mp ho
  obtain ⟨z, rfl, hz⟩ := rO_int h4
  have t35 : a 35 = a' 1 := ((h8 1 (by decide +kernel)).trans (congrArg a (by decide +kernel))).symm
  have t36 : a 36 = a' 2 := ((h8 2 (by decide +kernel)).trans (congrArg a (by decide +kernel))).symm
  have q13 : r 13 = a0.toInt := h2 0 (by decide)
  have q14 : r 14 = a1.toInt := h2 1 (by decide)
  have t1 : a 1 = α 1 := h3 1 (by decide +kernel)
  have t2 : a 2 = α 2 := h3 2 (by decide +kernel)
  have q15 : r 15 = z.toInt := (hz.trans (Int.add_zero _)).symm
  have f0 := h9 _ (List.Mem.head _)
  rw [hFp_119, show PT0 119 = P_tyY from rfl] at f0
  simp only [List.map_cons, List.map_nil, den_s, den_c, Int.add_zero, q13, q14, q15, t1, t2, t35, t36] at f0
  exact ⟨z, rfl, h5, r', a', h6, fr_ h8 h3 30 30 (by decide +kernel), fr_ h8 h3 31 31 (by decide +kernel), fr_ h8 h3 32 32 (by decide +kernel), f0, trivial⟩
set_option maxRecDepth 1000000 in
theorem sx_wipe {h : AH} {ρ : Nat → Int} {α : Nat → Int → Int} (S : SD bT (gX 999) ρ α h) (H : P_XN [ρ 2, ρ 3, ρ 0, ρ 1] [α 2, α 4]) (a0 : Int32) : Ct mX6_wipe 12 0 0 [.ref 0, .int a0] h (fun v hp' => ∃ z : Int32, v = some (.int z) ∧ hp'.length = (gX 999).length ∧ ∃ ρ' α', SD bT (gX 999) ρ' α' hp' ∧ α' 2 = α 2 ∧ α' 4 = α 4 ∧ α' 45 = α 45 ∧ α' 46 = α 46 ∧ P_wiX [z.toInt, a0.toInt, ρ 0, ρ 1, ρ' 0, ρ' 1] [] ∧ P_XN [ρ' 2, ρ' 3, ρ' 0, ρ' 1] [α 2, α 4] ∧ True) := by
  refine Ct_weak (sideS (PT := PT0) (c := c_xn_wipe) (Bs := bT) (g := (gX 999)) (N := mX6_wipe) (n := 1) rfl (by decide) (k_xn_wipe hpl_10) rfl rfl rfl (by decide +kernel) S [a0] rfl (fun r hr f hf => by cases List.mem_singleton.mp hf; refine Eq.mpr (hFp_146 _ _) ?_; rw [show PT0 146 = P_XN from rfl]; simp only [List.map_cons, List.map_nil, den_s, Int.add_zero, hr 0 (by decide), hr 1 (by decide), hr 2 (by decide), hr 3 (by decide)]; exact H)) (fun v hp' q => ?_)
  obtain ⟨o, ho, r, a, r', a', h1, h2, h3, h4, h5, h6, h7, h8, h9⟩ := q
  cases List.mem_singleton.mp ho
  obtain ⟨z, rfl, hz⟩ := rO_int h4
  have q16 : r 16 = r' 0 := (((h7 0).trans (den_of (m := (some 16, 0)) (by decide +kernel))).trans (Int.add_zero _)).symm
  have q17 : r 17 = r' 1 := (((h7 1).trans (den_of (m := (some 17, 0)) (by decide +kernel))).trans (Int.add_zero _)).symm
  have q18 : r 18 = r' 2 := (((h7 2).trans (den_of (m := (some 18, 0)) (by decide +kernel))).trans (Int.add_zero _)).symm
  have q19 : r 19 = r' 3 := (((h7 3).trans (den_of (m := (some 19, 0)) (by decide +kernel))).trans (Int.add_zero _)).symm
  have q14 : r 14 = a0.toInt := h2 0 (by decide)
  have q0 : r 0 = ρ 0 := h1 0 (by decide)
  have q1 : r 1 = ρ 1 := h1 1 (by decide)
  have t2 : a 2 = α 2 := h3 2 (by decide +kernel)
  have t4 : a 4 = α 4 := h3 4 (by decide +kernel)
  have q15 : r 15 = z.toInt := (hz.trans (Int.add_zero _)).symm
  have f0 := h9 _ (List.Mem.head _)
  rw [hFp_109, show PT0 109 = P_wiX from rfl] at f0
  simp only [List.map_cons, List.map_nil, den_s, den_c, Int.add_zero, q0, q1, q14, q15, q16, q17, q18, q19, t2, t4] at f0
  have f1 := h9 _ (List.Mem.tail _ (List.Mem.head _))
  rw [hFp_146, show PT0 146 = P_XN from rfl] at f1
  simp only [List.map_cons, List.map_nil, den_s, den_c, Int.add_zero, q0, q1, q14, q15, q16, q17, q18, q19, t2, t4] at f1
  exact ⟨z, rfl, h5, r', a', h6, fr_ h8 h3 2 2 (by decide +kernel), fr_ h8 h3 4 4 (by decide +kernel), fr_ h8 h3 45 45 (by decide +kernel), fr_ h8 h3 46 46 (by decide +kernel), f0, f1, trivial⟩
set_option maxRecDepth 1000000 in
theorem sy_wipe {h : AH} {ρ : Nat → Int} {α : Nat → Int → Int} (S : SD bY gY2 ρ α h) (H : P_ly [] [α 1]) (a0 : Int32) : Ct mX7_wipe 12 0 0 [.ref 0, .int a0] h (fun v hp' => ∃ z : Int32, v = some (.int z) ∧ hp'.length = gY2.length ∧ ∃ ρ' α', SD bY gY2 ρ' α' hp' ∧ α' 2 = α 2 ∧ α' 30 = α 30 ∧ α' 31 = α 31 ∧ α' 32 = α 32 ∧ P_wiY [z.toInt, a0.toInt] [α 1, α' 1] ∧ True) := by
  refine Ct_weak (sideS (PT := PT0) (c := c_yo_wipe) (Bs := bY) (g := gY2) (N := mX7_wipe) (n := 1) rfl (by decide) (k_yo_wipe hpl_7) rfl rfl rfl (by decide +kernel) S [a0] rfl (fun _ _ f hf => absurd hf List.not_mem_nil)) (fun v hp' q => ?_)
  obtain ⟨o, ho, r, a, r', a', h1, h2, h3, h4, h5, h6, h7, h8, h9⟩ := q
  cases List.mem_singleton.mp ho
  obtain ⟨z, rfl, hz⟩ := rO_int h4
  have t35 : a 35 = a' 1 := ((h8 1 (by decide +kernel)).trans (congrArg a (by decide +kernel))).symm
  have q13 : r 13 = a0.toInt := h2 0 (by decide)
  have t1 : a 1 = α 1 := h3 1 (by decide +kernel)
  have q14 : r 14 = z.toInt := (hz.trans (Int.add_zero _)).symm
  have f0 := h9 _ (List.Mem.head _)
  rw [hFp_120, show PT0 120 = P_wiY from rfl] at f0
  simp only [List.map_cons, List.map_nil, den_s, den_c, Int.add_zero, q13, q14, t1, t35] at f0
  exact ⟨z, rfl, h5, r', a', h6, fr_ h8 h3 2 2 (by decide +kernel), fr_ h8 h3 30 30 (by decide +kernel), fr_ h8 h3 31 31 (by decide +kernel), fr_ h8 h3 32 32 (by decide +kernel), f0, trivial⟩
set_option maxRecDepth 1000000 in
theorem sx_undo {h : AH} {ρ : Nat → Int} {α : Nat → Int → Int} (S : SD bT (gX 999) ρ α h) (H : P_XN [ρ 2, ρ 3, ρ 0, ρ 1] [α 2, α 4]) (a0 : Int32) : Ct mX6_undo 12 0 0 [.ref 0, .int a0] h (fun v hp' => ∃ z : Int32, v = some (.int z) ∧ hp'.length = (gX 999).length ∧ ∃ ρ' α', SD bT (gX 999) ρ' α' hp' ∧ α' 2 = α 2 ∧ α' 4 = α 4 ∧ α' 45 = α 45 ∧ α' 46 = α 46 ∧ P_unX [z.toInt, a0.toInt, ρ 0, ρ 1, ρ' 0, ρ' 1] [] ∧ P_XN [ρ' 2, ρ' 3, ρ' 0, ρ' 1] [α 2, α 4] ∧ True) := by
  refine Ct_weak (sideS (PT := PT0) (c := c_xn_undo) (Bs := bT) (g := (gX 999)) (N := mX6_undo) (n := 1) rfl (by decide) (k_xn_undo hpl_10) rfl rfl rfl (by decide +kernel) S [a0] rfl (fun r hr f hf => by cases List.mem_singleton.mp hf; refine Eq.mpr (hFp_146 _ _) ?_; rw [show PT0 146 = P_XN from rfl]; simp only [List.map_cons, List.map_nil, den_s, Int.add_zero, hr 0 (by decide), hr 1 (by decide), hr 2 (by decide), hr 3 (by decide)]; exact H)) (fun v hp' q => ?_)
  obtain ⟨o, ho, r, a, r', a', h1, h2, h3, h4, h5, h6, h7, h8, h9⟩ := q
  cases List.mem_singleton.mp ho
  obtain ⟨z, rfl, hz⟩ := rO_int h4
  have q16 : r 16 = r' 0 := (((h7 0).trans (den_of (m := (some 16, 0)) (by decide +kernel))).trans (Int.add_zero _)).symm
  have q17 : r 17 = r' 1 := (((h7 1).trans (den_of (m := (some 17, 0)) (by decide +kernel))).trans (Int.add_zero _)).symm
  have q18 : r 18 = r' 2 := (((h7 2).trans (den_of (m := (some 18, 0)) (by decide +kernel))).trans (Int.add_zero _)).symm
  have q19 : r 19 = r' 3 := (((h7 3).trans (den_of (m := (some 19, 0)) (by decide +kernel))).trans (Int.add_zero _)).symm
  have q14 : r 14 = a0.toInt := h2 0 (by decide)
  have q0 : r 0 = ρ 0 := h1 0 (by decide)
  have q1 : r 1 = ρ 1 := h1 1 (by decide)
  have t2 : a 2 = α 2 := h3 2 (by decide +kernel)
  have t4 : a 4 = α 4 := h3 4 (by decide +kernel)
  have q15 : r 15 = z.toInt := (hz.trans (Int.add_zero _)).symm
  have f0 := h9 _ (List.Mem.head _)
  rw [hFp_110, show PT0 110 = P_unX from rfl] at f0
  simp only [List.map_cons, List.map_nil, den_s, den_c, Int.add_zero, q0, q1, q14, q15, q16, q17, q18, q19, t2, t4] at f0
  have f1 := h9 _ (List.Mem.tail _ (List.Mem.head _))
  rw [hFp_146, show PT0 146 = P_XN from rfl] at f1
  simp only [List.map_cons, List.map_nil, den_s, den_c, Int.add_zero, q0, q1, q14, q15, q16, q17, q18, q19, t2, t4] at f1
  exact ⟨z, rfl, h5, r', a', h6, fr_ h8 h3 2 2 (by decide +kernel), fr_ h8 h3 4 4 (by decide +kernel), fr_ h8 h3 45 45 (by decide +kernel), fr_ h8 h3 46 46 (by decide +kernel), f0, f1, trivial⟩
set_option maxRecDepth 1000000 in
theorem sy_undo {h : AH} {ρ : Nat → Int} {α : Nat → Int → Int} (S : SD bY gY2 ρ α h) (H : P_ly [] [α 1]) (a0 : Int32) : Ct mX7_undo 12 0 0 [.ref 0, .int a0] h (fun v hp' => ∃ z : Int32, v = some (.int z) ∧ hp'.length = gY2.length ∧ ∃ ρ' α', SD bY gY2 ρ' α' hp' ∧ α' 2 = α 2 ∧ α' 30 = α 30 ∧ α' 31 = α 31 ∧ α' 32 = α 32 ∧ P_unY [z.toInt, a0.toInt] [α 1, α' 1] ∧ True) := by
  refine Ct_weak (sideS (PT := PT0) (c := c_yo_undo) (Bs := bY) (g := gY2) (N := mX7_undo) (n := 1) rfl (by decide) (k_yo_undo hpl_7) rfl rfl rfl (by decide +kernel) S [a0] rfl (fun _ _ f hf => absurd hf List.not_mem_nil)) (fun v hp' q => ?_)
  obtain ⟨o, ho, r, a, r', a', h1, h2, h3, h4, h5, h6, h7, h8, h9⟩ := q
  cases List.mem_singleton.mp ho
  obtain ⟨z, rfl, hz⟩ := rO_int h4
  have t35 : a 35 = a' 1 := ((h8 1 (by decide +kernel)).trans (congrArg a (by decide +kernel))).symm
  have q13 : r 13 = a0.toInt := h2 0 (by decide)
  have t1 : a 1 = α 1 := h3 1 (by decide +kernel)
  have q14 : r 14 = z.toInt := (hz.trans (Int.add_zero _)).symm
  have f0 := h9 _ (List.Mem.head _)
  rw [hFp_121, show PT0 121 = P_unY from rfl] at f0
  simp only [List.map_cons, List.map_nil, den_s, den_c, Int.add_zero, q13, q14, t1, t35] at f0
  exact ⟨z, rfl, h5, r', a', h6, fr_ h8 h3 2 2 (by decide +kernel), fr_ h8 h3 30 30 (by decide +kernel), fr_ h8 h3 31 31 (by decide +kernel), fr_ h8 h3 32 32 (by decide +kernel), f0, trivial⟩
set_option maxRecDepth 1000000 in
theorem sx_fault {h : AH} {ρ : Nat → Int} {α : Nat → Int → Int} (S : SD bT (gX 999) ρ α h) (H : True) (a0 : Int32) : Ct mX6_fault 12 0 0 [.ref 0, .int a0] h (fun v hp' => ∃ z : Int32, v = some (.int z) ∧ hp'.length = (gX 999).length ∧ ∃ ρ' α', SD bT (gX 999) ρ' α' hp' ∧ ρ' 0 = ρ 0 ∧ ρ' 1 = ρ 1 ∧ ρ' 2 = ρ 2 ∧ ρ' 3 = ρ 3 ∧ α' 2 = α 2 ∧ α' 4 = α 4 ∧ α' 45 = α 45 ∧ α' 46 = α 46 ∧ P_faX [z.toInt, a0.toInt, ρ 0, ρ 1] [α 2, α 4] ∧ True) := by
  refine Ct_weak (sideS (PT := PT0) (c := c_xo_fault) (Bs := bT) (g := (gX 999)) (N := mX6_fault) (n := 1) rfl (by decide) (k_xo_fault hpl_6) rfl rfl rfl (by decide +kernel) S [a0] rfl (fun _ _ f hf => absurd hf List.not_mem_nil)) (fun v hp' q => ?_)
  obtain ⟨o, ho, r, a, r', a', h1, h2, h3, h4, h5, h6, h7, h8, h9⟩ := q
  cases List.mem_singleton.mp ho
  obtain ⟨z, rfl, hz⟩ := rO_int h4
  have q14 : r 14 = a0.toInt := h2 0 (by decide)
  have q0 : r 0 = ρ 0 := h1 0 (by decide)
  have q1 : r 1 = ρ 1 := h1 1 (by decide)
  have t2 : a 2 = α 2 := h3 2 (by decide +kernel)
  have t4 : a 4 = α 4 := h3 4 (by decide +kernel)
  have q15 : r 15 = z.toInt := (hz.trans (Int.add_zero _)).symm
  have f0 := h9 _ (List.Mem.head _)
  rw [hFp_111, show PT0 111 = P_faX from rfl] at f0
  simp only [List.map_cons, List.map_nil, den_s, den_c, Int.add_zero, q0, q1, q14, q15, t2, t4] at f0
  exact ⟨z, rfl, h5, r', a', h6, (((h7 0).trans (den_of (m := (some 0, 0)) (by decide +kernel))).trans (Int.add_zero _)).trans (h1 0 (by decide)), (((h7 1).trans (den_of (m := (some 1, 0)) (by decide +kernel))).trans (Int.add_zero _)).trans (h1 1 (by decide)), (((h7 2).trans (den_of (m := (some 2, 0)) (by decide +kernel))).trans (Int.add_zero _)).trans (h1 2 (by decide)), (((h7 3).trans (den_of (m := (some 3, 0)) (by decide +kernel))).trans (Int.add_zero _)).trans (h1 3 (by decide)), fr_ h8 h3 2 2 (by decide +kernel), fr_ h8 h3 4 4 (by decide +kernel), fr_ h8 h3 45 45 (by decide +kernel), fr_ h8 h3 46 46 (by decide +kernel), f0, trivial⟩
set_option maxRecDepth 1000000 in
theorem sy_fault {h : AH} {ρ : Nat → Int} {α : Nat → Int → Int} (S : SD bY gY2 ρ α h) (H : P_ly [] [α 1]) (a0 : Int32) : Ct mX7_fault 12 0 0 [.ref 0, .int a0] h (fun v hp' => ∃ z : Int32, v = some (.int z) ∧ hp'.length = gY2.length ∧ ∃ ρ' α', SD bY gY2 ρ' α' hp' ∧ α' 1 = α 1 ∧ α' 2 = α 2 ∧ α' 30 = α 30 ∧ α' 31 = α 31 ∧ α' 32 = α 32 ∧ P_faY [z.toInt, a0.toInt] [α 1, α 2] ∧ True) := by
  refine Ct_weak (sideS (PT := PT0) (c := c_yo_fault) (Bs := bY) (g := gY2) (N := mX7_fault) (n := 1) rfl (by decide) (k_yo_fault hpl_7) rfl rfl rfl (by decide +kernel) S [a0] rfl (fun r _ f hf => by cases List.mem_singleton.mp hf; exact Eq.mpr (hFp_78 [] [1]) H)) (fun v hp' q => ?_)
  obtain ⟨o, ho, r, a, r', a', h1, h2, h3, h4, h5, h6, h7, h8, h9⟩ := q
  cases List.mem_singleton.mp ho
  obtain ⟨z, rfl, hz⟩ := rO_int h4
  have q13 : r 13 = a0.toInt := h2 0 (by decide)
  have t1 : a 1 = α 1 := h3 1 (by decide +kernel)
  have t2 : a 2 = α 2 := h3 2 (by decide +kernel)
  have q14 : r 14 = z.toInt := (hz.trans (Int.add_zero _)).symm
  have f0 := h9 _ (List.Mem.head _)
  rw [hFp_122, show PT0 122 = P_faY from rfl] at f0
  simp only [List.map_cons, List.map_nil, den_s, den_c, Int.add_zero, q13, q14, t1, t2] at f0
  exact ⟨z, rfl, h5, r', a', h6, fr_ h8 h3 1 1 (by decide +kernel), fr_ h8 h3 2 2 (by decide +kernel), fr_ h8 h3 30 30 (by decide +kernel), fr_ h8 h3 31 31 (by decide +kernel), fr_ h8 h3 32 32 (by decide +kernel), f0, trivial⟩
set_option maxRecDepth 1000000 in
theorem sx_person {h : AH} {ρ : Nat → Int} {α : Nat → Int → Int} (S : SD bT (gX 999) ρ α h) (H : True) (a0 : Int32) (a1 : Int32) : Ct mX6_person 12 0 0 [.ref 0, .int a0, .int a1] h (fun v hp' => ∃ z : Int32, v = some (.int z) ∧ hp'.length = (gX 999).length ∧ ∃ ρ' α', SD bT (gX 999) ρ' α' hp' ∧ ρ' 0 = ρ 0 ∧ ρ' 1 = ρ 1 ∧ ρ' 2 = ρ 2 ∧ ρ' 3 = ρ 3 ∧ α' 2 = α 2 ∧ α' 4 = α 4 ∧ α' 45 = α 45 ∧ α' 46 = α 46 ∧ True) := by
  refine Ct_weak (sideS (PT := PT0) (c := c_xo_person) (Bs := bT) (g := (gX 999)) (N := mX6_person) (n := 2) rfl (by decide) (k_xo_person hpl_6) rfl rfl rfl (by decide +kernel) S [a0, a1] rfl (fun _ _ f hf => absurd hf List.not_mem_nil)) (fun v hp' q => ?_)
  obtain ⟨o, ho, r, a, r', a', h1, h2, h3, h4, h5, h6, h7, h8, h9⟩ := q
  cases List.mem_singleton.mp ho
  obtain ⟨z, rfl, hz⟩ := rO_int h4
  exact ⟨z, rfl, h5, r', a', h6, (((h7 0).trans (den_of (m := (some 0, 0)) (by decide +kernel))).trans (Int.add_zero _)).trans (h1 0 (by decide)), (((h7 1).trans (den_of (m := (some 1, 0)) (by decide +kernel))).trans (Int.add_zero _)).trans (h1 1 (by decide)), (((h7 2).trans (den_of (m := (some 2, 0)) (by decide +kernel))).trans (Int.add_zero _)).trans (h1 2 (by decide)), (((h7 3).trans (den_of (m := (some 3, 0)) (by decide +kernel))).trans (Int.add_zero _)).trans (h1 3 (by decide)), fr_ h8 h3 2 2 (by decide +kernel), fr_ h8 h3 4 4 (by decide +kernel), fr_ h8 h3 45 45 (by decide +kernel), fr_ h8 h3 46 46 (by decide +kernel), trivial⟩
set_option maxRecDepth 1000000 in
theorem sy_person {h : AH} {ρ : Nat → Int} {α : Nat → Int → Int} (S : SD bY gY2 ρ α h) (H : P_ly [] [α 1]) (a0 : Int32) (a1 : Int32) : Ct mX7_person 12 0 0 [.ref 0, .int a0, .int a1] h (fun v hp' => ∃ z : Int32, v = some (.int z) ∧ hp'.length = gY2.length ∧ ∃ ρ' α', SD bY gY2 ρ' α' hp' ∧ α' 1 = α 1 ∧ α' 2 = α 2 ∧ α' 30 = α 30 ∧ α' 31 = α 31 ∧ α' 32 = α 32 ∧ True) := by
  refine Ct_weak (sideS (PT := PT0) (c := c_yo_person) (Bs := bY) (g := gY2) (N := mX7_person) (n := 2) rfl (by decide) (k_yo_person hpl_7) rfl rfl rfl (by decide +kernel) S [a0, a1] rfl (fun r _ f hf => by cases List.mem_singleton.mp hf; exact Eq.mpr (hFp_78 [] [1]) H)) (fun v hp' q => ?_)
  obtain ⟨o, ho, r, a, r', a', h1, h2, h3, h4, h5, h6, h7, h8, h9⟩ := q
  cases List.mem_singleton.mp ho
  obtain ⟨z, rfl, hz⟩ := rO_int h4
  exact ⟨z, rfl, h5, r', a', h6, fr_ h8 h3 1 1 (by decide +kernel), fr_ h8 h3 2 2 (by decide +kernel), fr_ h8 h3 30 30 (by decide +kernel), fr_ h8 h3 31 31 (by decide +kernel), fr_ h8 h3 32 32 (by decide +kernel), trivial⟩
set_option maxRecDepth 1000000 in
theorem sx_promise {h : AH} {ρ : Nat → Int} {α : Nat → Int → Int} (S : SD bT (gX 999) ρ α h) (H : True) (a0 : Int32) (a1 : Int32) : Ct mX6_promise 12 0 0 [.ref 0, .int a0, .int a1] h (fun v hp' => ∃ z : Int32, v = some (.int z) ∧ hp'.length = (gX 999).length ∧ ∃ ρ' α', SD bT (gX 999) ρ' α' hp' ∧ ρ' 0 = ρ 0 ∧ ρ' 1 = ρ 1 ∧ ρ' 2 = ρ 2 ∧ ρ' 3 = ρ 3 ∧ α' 2 = α 2 ∧ α' 4 = α 4 ∧ α' 45 = α 45 ∧ α' 46 = α 46 ∧ True) := by
  refine Ct_weak (sideS (PT := PT0) (c := c_xo_promise) (Bs := bT) (g := (gX 999)) (N := mX6_promise) (n := 2) rfl (by decide) (k_xo_promise hpl_6) rfl rfl rfl (by decide +kernel) S [a0, a1] rfl (fun _ _ f hf => absurd hf List.not_mem_nil)) (fun v hp' q => ?_)
  obtain ⟨o, ho, r, a, r', a', h1, h2, h3, h4, h5, h6, h7, h8, h9⟩ := q
  cases List.mem_singleton.mp ho
  obtain ⟨z, rfl, hz⟩ := rO_int h4
  exact ⟨z, rfl, h5, r', a', h6, (((h7 0).trans (den_of (m := (some 0, 0)) (by decide +kernel))).trans (Int.add_zero _)).trans (h1 0 (by decide)), (((h7 1).trans (den_of (m := (some 1, 0)) (by decide +kernel))).trans (Int.add_zero _)).trans (h1 1 (by decide)), (((h7 2).trans (den_of (m := (some 2, 0)) (by decide +kernel))).trans (Int.add_zero _)).trans (h1 2 (by decide)), (((h7 3).trans (den_of (m := (some 3, 0)) (by decide +kernel))).trans (Int.add_zero _)).trans (h1 3 (by decide)), fr_ h8 h3 2 2 (by decide +kernel), fr_ h8 h3 4 4 (by decide +kernel), fr_ h8 h3 45 45 (by decide +kernel), fr_ h8 h3 46 46 (by decide +kernel), trivial⟩
set_option maxRecDepth 1000000 in
theorem sy_promise {h : AH} {ρ : Nat → Int} {α : Nat → Int → Int} (S : SD bY gY2 ρ α h) (H : P_ly [] [α 1]) (a0 : Int32) (a1 : Int32) : Ct mX7_promise 12 0 0 [.ref 0, .int a0, .int a1] h (fun v hp' => ∃ z : Int32, v = some (.int z) ∧ hp'.length = gY2.length ∧ ∃ ρ' α', SD bY gY2 ρ' α' hp' ∧ α' 1 = α 1 ∧ α' 2 = α 2 ∧ α' 30 = α 30 ∧ α' 31 = α 31 ∧ α' 32 = α 32 ∧ True) := by
  refine Ct_weak (sideS (PT := PT0) (c := c_yo_promise) (Bs := bY) (g := gY2) (N := mX7_promise) (n := 2) rfl (by decide) (k_yo_promise hpl_7) rfl rfl rfl (by decide +kernel) S [a0, a1] rfl (fun r _ f hf => by cases List.mem_singleton.mp hf; exact Eq.mpr (hFp_78 [] [1]) H)) (fun v hp' q => ?_)
  obtain ⟨o, ho, r, a, r', a', h1, h2, h3, h4, h5, h6, h7, h8, h9⟩ := q
  cases List.mem_singleton.mp ho
  obtain ⟨z, rfl, hz⟩ := rO_int h4
  exact ⟨z, rfl, h5, r', a', h6, fr_ h8 h3 1 1 (by decide +kernel), fr_ h8 h3 2 2 (by decide +kernel), fr_ h8 h3 30 30 (by decide +kernel), fr_ h8 h3 31 31 (by decide +kernel), fr_ h8 h3 32 32 (by decide +kernel), trivial⟩
set_option maxRecDepth 1000000 in
theorem sx_keeping {h : AH} {ρ : Nat → Int} {α : Nat → Int → Int} (S : SD bT (gX 999) ρ α h) (H : True) (a0 : Int32) (a1 : Int32) : Ct mX6_keeping 12 0 0 [.ref 0, .int a0, .int a1] h (fun v hp' => ∃ z : Int32, v = some (.int z) ∧ hp'.length = (gX 999).length ∧ ∃ ρ' α', SD bT (gX 999) ρ' α' hp' ∧ ρ' 0 = ρ 0 ∧ ρ' 1 = ρ 1 ∧ ρ' 2 = ρ 2 ∧ ρ' 3 = ρ 3 ∧ α' 2 = α 2 ∧ α' 4 = α 4 ∧ α' 45 = α 45 ∧ α' 46 = α 46 ∧ True) := by
  refine Ct_weak (sideS (PT := PT0) (c := c_xo_keeping) (Bs := bT) (g := (gX 999)) (N := mX6_keeping) (n := 2) rfl (by decide) (k_xo_keeping hpl_6) rfl rfl rfl (by decide +kernel) S [a0, a1] rfl (fun _ _ f hf => absurd hf List.not_mem_nil)) (fun v hp' q => ?_)
  obtain ⟨o, ho, r, a, r', a', h1, h2, h3, h4, h5, h6, h7, h8, h9⟩ := q
  cases List.mem_singleton.mp ho
  obtain ⟨z, rfl, hz⟩ := rO_int h4
  exact ⟨z, rfl, h5, r', a', h6, (((h7 0).trans (den_of (m := (some 0, 0)) (by decide +kernel))).trans (Int.add_zero _)).trans (h1 0 (by decide)), (((h7 1).trans (den_of (m := (some 1, 0)) (by decide +kernel))).trans (Int.add_zero _)).trans (h1 1 (by decide)), (((h7 2).trans (den_of (m := (some 2, 0)) (by decide +kernel))).trans (Int.add_zero _)).trans (h1 2 (by decide)), (((h7 3).trans (den_of (m := (some 3, 0)) (by decide +kernel))).trans (Int.add_zero _)).trans (h1 3 (by decide)), fr_ h8 h3 2 2 (by decide +kernel), fr_ h8 h3 4 4 (by decide +kernel), fr_ h8 h3 45 45 (by decide +kernel), fr_ h8 h3 46 46 (by decide +kernel), trivial⟩
set_option maxRecDepth 1000000 in
theorem sy_keeping {h : AH} {ρ : Nat → Int} {α : Nat → Int → Int} (S : SD bY gY2 ρ α h) (H : P_ly [] [α 1]) (a0 : Int32) (a1 : Int32) : Ct mX7_keeping 12 0 0 [.ref 0, .int a0, .int a1] h (fun v hp' => ∃ z : Int32, v = some (.int z) ∧ hp'.length = gY2.length ∧ ∃ ρ' α', SD bY gY2 ρ' α' hp' ∧ α' 1 = α 1 ∧ α' 2 = α 2 ∧ α' 30 = α 30 ∧ α' 31 = α 31 ∧ α' 32 = α 32 ∧ True) := by
  refine Ct_weak (sideS (PT := PT0) (c := c_yo_keeping) (Bs := bY) (g := gY2) (N := mX7_keeping) (n := 2) rfl (by decide) (k_yo_keeping hpl_7) rfl rfl rfl (by decide +kernel) S [a0, a1] rfl (fun _ _ f hf => absurd hf List.not_mem_nil)) (fun v hp' q => ?_)
  obtain ⟨o, ho, r, a, r', a', h1, h2, h3, h4, h5, h6, h7, h8, h9⟩ := q
  cases List.mem_singleton.mp ho
  obtain ⟨z, rfl, hz⟩ := rO_int h4
  exact ⟨z, rfl, h5, r', a', h6, fr_ h8 h3 1 1 (by decide +kernel), fr_ h8 h3 2 2 (by decide +kernel), fr_ h8 h3 30 30 (by decide +kernel), fr_ h8 h3 31 31 (by decide +kernel), fr_ h8 h3 32 32 (by decide +kernel), trivial⟩
set_option maxRecDepth 1000000 in
theorem sx_lie {h : AH} {ρ : Nat → Int} {α : Nat → Int → Int} (S : SD bT (gX 999) ρ α h) (H : True) (a0 : Int32) (a1 : Int32) (a2 : Int32) : Ct mX6_lie 12 0 0 [.ref 0, .int a0, .int a1, .int a2] h (fun v hp' => ∃ z : Int32, v = some (.int z) ∧ hp'.length = (gX 999).length ∧ ∃ ρ' α', SD bT (gX 999) ρ' α' hp' ∧ ρ' 0 = ρ 0 ∧ ρ' 1 = ρ 1 ∧ ρ' 2 = ρ 2 ∧ ρ' 3 = ρ 3 ∧ α' 2 = α 2 ∧ α' 4 = α 4 ∧ α' 45 = α 45 ∧ α' 46 = α 46 ∧ True) := by
  refine Ct_weak (sideS (PT := PT0) (c := c_xo_lie) (Bs := bT) (g := (gX 999)) (N := mX6_lie) (n := 3) rfl (by decide) (k_xo_lie hpl_6) rfl rfl rfl (by decide +kernel) S [a0, a1, a2] rfl (fun _ _ f hf => absurd hf List.not_mem_nil)) (fun v hp' q => ?_)
  obtain ⟨o, ho, r, a, r', a', h1, h2, h3, h4, h5, h6, h7, h8, h9⟩ := q
  cases List.mem_singleton.mp ho
  obtain ⟨z, rfl, hz⟩ := rO_int h4
  exact ⟨z, rfl, h5, r', a', h6, (((h7 0).trans (den_of (m := (some 0, 0)) (by decide +kernel))).trans (Int.add_zero _)).trans (h1 0 (by decide)), (((h7 1).trans (den_of (m := (some 1, 0)) (by decide +kernel))).trans (Int.add_zero _)).trans (h1 1 (by decide)), (((h7 2).trans (den_of (m := (some 2, 0)) (by decide +kernel))).trans (Int.add_zero _)).trans (h1 2 (by decide)), (((h7 3).trans (den_of (m := (some 3, 0)) (by decide +kernel))).trans (Int.add_zero _)).trans (h1 3 (by decide)), fr_ h8 h3 2 2 (by decide +kernel), fr_ h8 h3 4 4 (by decide +kernel), fr_ h8 h3 45 45 (by decide +kernel), fr_ h8 h3 46 46 (by decide +kernel), trivial⟩
set_option maxRecDepth 1000000 in
theorem sy_lie {h : AH} {ρ : Nat → Int} {α : Nat → Int → Int} (S : SD bY gY2 ρ α h) (H : P_ly [] [α 1]) (a0 : Int32) (a1 : Int32) (a2 : Int32) : Ct mX7_lie 12 0 0 [.ref 0, .int a0, .int a1, .int a2] h (fun v hp' => ∃ z : Int32, v = some (.int z) ∧ hp'.length = gY2.length ∧ ∃ ρ' α', SD bY gY2 ρ' α' hp' ∧ α' 1 = α 1 ∧ α' 2 = α 2 ∧ α' 30 = α 30 ∧ α' 31 = α 31 ∧ α' 32 = α 32 ∧ True) := by
  refine Ct_weak (sideS (PT := PT0) (c := c_yo_lie) (Bs := bY) (g := gY2) (N := mX7_lie) (n := 3) rfl (by decide) (k_yo_lie hpl_7) rfl rfl rfl (by decide +kernel) S [a0, a1, a2] rfl (fun _ _ f hf => absurd hf List.not_mem_nil)) (fun v hp' q => ?_)
  obtain ⟨o, ho, r, a, r', a', h1, h2, h3, h4, h5, h6, h7, h8, h9⟩ := q
  cases List.mem_singleton.mp ho
  obtain ⟨z, rfl, hz⟩ := rO_int h4
  exact ⟨z, rfl, h5, r', a', h6, fr_ h8 h3 1 1 (by decide +kernel), fr_ h8 h3 2 2 (by decide +kernel), fr_ h8 h3 30 30 (by decide +kernel), fr_ h8 h3 31 31 (by decide +kernel), fr_ h8 h3 32 32 (by decide +kernel), trivial⟩
set_option maxRecDepth 1000000 in
theorem sx_letting {h : AH} {ρ : Nat → Int} {α : Nat → Int → Int} (S : SD bT (gX 999) ρ α h) (H : True) (a0 : Int32) (a1 : Int32) (a2 : Int32) : Ct mX6_letting 12 0 0 [.ref 0, .int a0, .int a1, .int a2] h (fun v hp' => ∃ z : Int32, v = some (.int z) ∧ hp'.length = (gX 999).length ∧ ∃ ρ' α', SD bT (gX 999) ρ' α' hp' ∧ ρ' 0 = ρ 0 ∧ ρ' 1 = ρ 1 ∧ ρ' 2 = ρ 2 ∧ ρ' 3 = ρ 3 ∧ α' 2 = α 2 ∧ α' 4 = α 4 ∧ α' 45 = α 45 ∧ α' 46 = α 46 ∧ True) := by
  refine Ct_weak (sideS (PT := PT0) (c := c_xo_letting) (Bs := bT) (g := (gX 999)) (N := mX6_letting) (n := 3) rfl (by decide) (k_xo_letting hpl_6) rfl rfl rfl (by decide +kernel) S [a0, a1, a2] rfl (fun _ _ f hf => absurd hf List.not_mem_nil)) (fun v hp' q => ?_)
  obtain ⟨o, ho, r, a, r', a', h1, h2, h3, h4, h5, h6, h7, h8, h9⟩ := q
  cases List.mem_singleton.mp ho
  obtain ⟨z, rfl, hz⟩ := rO_int h4
  exact ⟨z, rfl, h5, r', a', h6, (((h7 0).trans (den_of (m := (some 0, 0)) (by decide +kernel))).trans (Int.add_zero _)).trans (h1 0 (by decide)), (((h7 1).trans (den_of (m := (some 1, 0)) (by decide +kernel))).trans (Int.add_zero _)).trans (h1 1 (by decide)), (((h7 2).trans (den_of (m := (some 2, 0)) (by decide +kernel))).trans (Int.add_zero _)).trans (h1 2 (by decide)), (((h7 3).trans (den_of (m := (some 3, 0)) (by decide +kernel))).trans (Int.add_zero _)).trans (h1 3 (by decide)), fr_ h8 h3 2 2 (by decide +kernel), fr_ h8 h3 4 4 (by decide +kernel), fr_ h8 h3 45 45 (by decide +kernel), fr_ h8 h3 46 46 (by decide +kernel), trivial⟩
set_option maxRecDepth 1000000 in
theorem sy_letting {h : AH} {ρ : Nat → Int} {α : Nat → Int → Int} (S : SD bY gY2 ρ α h) (H : P_ly [] [α 1]) (a0 : Int32) (a1 : Int32) (a2 : Int32) : Ct mX7_letting 12 0 0 [.ref 0, .int a0, .int a1, .int a2] h (fun v hp' => ∃ z : Int32, v = some (.int z) ∧ hp'.length = gY2.length ∧ ∃ ρ' α', SD bY gY2 ρ' α' hp' ∧ α' 1 = α 1 ∧ α' 2 = α 2 ∧ α' 30 = α 30 ∧ α' 31 = α 31 ∧ α' 32 = α 32 ∧ True) := by
  refine Ct_weak (sideS (PT := PT0) (c := c_yo_letting) (Bs := bY) (g := gY2) (N := mX7_letting) (n := 3) rfl (by decide) (k_yo_letting hpl_7) rfl rfl rfl (by decide +kernel) S [a0, a1, a2] rfl (fun _ _ f hf => absurd hf List.not_mem_nil)) (fun v hp' q => ?_)
  obtain ⟨o, ho, r, a, r', a', h1, h2, h3, h4, h5, h6, h7, h8, h9⟩ := q
  cases List.mem_singleton.mp ho
  obtain ⟨z, rfl, hz⟩ := rO_int h4
  exact ⟨z, rfl, h5, r', a', h6, fr_ h8 h3 1 1 (by decide +kernel), fr_ h8 h3 2 2 (by decide +kernel), fr_ h8 h3 30 30 (by decide +kernel), fr_ h8 h3 31 31 (by decide +kernel), fr_ h8 h3 32 32 (by decide +kernel), trivial⟩
set_option maxRecDepth 1000000 in
theorem sx_back {h : AH} {ρ : Nat → Int} {α : Nat → Int → Int} (S : SD bT (gX 999) ρ α h) (H : True) (a0 : Int32) : Ct mX6_back 12 0 0 [.ref 0, .int a0] h (fun v hp' => ∃ z : Int32, v = some (.int z) ∧ hp'.length = (gX 999).length ∧ ∃ ρ' α', SD bT (gX 999) ρ' α' hp' ∧ ρ' 0 = ρ 0 ∧ ρ' 1 = ρ 1 ∧ ρ' 2 = ρ 2 ∧ ρ' 3 = ρ 3 ∧ α' 2 = α 2 ∧ α' 4 = α 4 ∧ α' 45 = α 45 ∧ α' 46 = α 46 ∧ True) := by
  refine Ct_weak (sideS (PT := PT0) (c := c_xo_back) (Bs := bT) (g := (gX 999)) (N := mX6_back) (n := 1) rfl (by decide) (k_xo_back hpl_6) rfl rfl rfl (by decide +kernel) S [a0] rfl (fun _ _ f hf => absurd hf List.not_mem_nil)) (fun v hp' q => ?_)
  obtain ⟨o, ho, r, a, r', a', h1, h2, h3, h4, h5, h6, h7, h8, h9⟩ := q
  cases List.mem_singleton.mp ho
  obtain ⟨z, rfl, hz⟩ := rO_int h4
  exact ⟨z, rfl, h5, r', a', h6, (((h7 0).trans (den_of (m := (some 0, 0)) (by decide +kernel))).trans (Int.add_zero _)).trans (h1 0 (by decide)), (((h7 1).trans (den_of (m := (some 1, 0)) (by decide +kernel))).trans (Int.add_zero _)).trans (h1 1 (by decide)), (((h7 2).trans (den_of (m := (some 2, 0)) (by decide +kernel))).trans (Int.add_zero _)).trans (h1 2 (by decide)), (((h7 3).trans (den_of (m := (some 3, 0)) (by decide +kernel))).trans (Int.add_zero _)).trans (h1 3 (by decide)), fr_ h8 h3 2 2 (by decide +kernel), fr_ h8 h3 4 4 (by decide +kernel), fr_ h8 h3 45 45 (by decide +kernel), fr_ h8 h3 46 46 (by decide +kernel), trivial⟩
set_option maxRecDepth 1000000 in
theorem sy_back {h : AH} {ρ : Nat → Int} {α : Nat → Int → Int} (S : SD bY gY2 ρ α h) (H : P_ly [] [α 1]) (a0 : Int32) : Ct mX7_back 12 0 0 [.ref 0, .int a0] h (fun v hp' => ∃ z : Int32, v = some (.int z) ∧ hp'.length = gY2.length ∧ ∃ ρ' α', SD bY gY2 ρ' α' hp' ∧ α' 1 = α 1 ∧ α' 2 = α 2 ∧ α' 30 = α 30 ∧ α' 31 = α 31 ∧ α' 32 = α 32 ∧ True) := by
  refine Ct_weak (sideS (PT := PT0) (c := c_yo_back) (Bs := bY) (g := gY2) (N := mX7_back) (n := 1) rfl (by decide) (k_yo_back hpl_7) rfl rfl rfl (by decide +kernel) S [a0] rfl (fun _ _ f hf => absurd hf List.not_mem_nil)) (fun v hp' q => ?_)
  obtain ⟨o, ho, r, a, r', a', h1, h2, h3, h4, h5, h6, h7, h8, h9⟩ := q
  cases List.mem_singleton.mp ho
  obtain ⟨z, rfl, hz⟩ := rO_int h4
  exact ⟨z, rfl, h5, r', a', h6, fr_ h8 h3 1 1 (by decide +kernel), fr_ h8 h3 2 2 (by decide +kernel), fr_ h8 h3 30 30 (by decide +kernel), fr_ h8 h3 31 31 (by decide +kernel), fr_ h8 h3 32 32 (by decide +kernel), trivial⟩
set_option maxRecDepth 1000000 in
theorem sx_read {h : AH} {ρ : Nat → Int} {α : Nat → Int → Int} (S : SD bT (gX 999) ρ α h) (H : True) (a0 : Int32) : Ct mX6_read 12 0 0 [.ref 0, .int a0] h (fun v hp' => ∃ z : Int32, v = some (.int z) ∧ hp'.length = (gX 999).length ∧ ∃ ρ' α', SD bT (gX 999) ρ' α' hp' ∧ ρ' 0 = ρ 0 ∧ ρ' 1 = ρ 1 ∧ ρ' 2 = ρ 2 ∧ ρ' 3 = ρ 3 ∧ α' 2 = α 2 ∧ α' 4 = α 4 ∧ α' 45 = α 45 ∧ α' 46 = α 46 ∧ True) := by
  refine Ct_weak (sideS (PT := PT0) (c := c_xf_read) (Bs := bT) (g := (gX 999)) (N := mX6_read) (n := 1) rfl (by decide) (k_xf_read hpl_10) rfl rfl rfl (by decide +kernel) S [a0] rfl (fun _ _ f hf => absurd hf List.not_mem_nil)) (fun v hp' q => ?_)
  obtain ⟨o, ho, r, a, r', a', h1, h2, h3, h4, h5, h6, h7, h8, h9⟩ := q
  cases List.mem_singleton.mp ho
  obtain ⟨z, rfl, hz⟩ := rO_int h4
  exact ⟨z, rfl, h5, r', a', h6, (((h7 0).trans (den_of (m := (some 0, 0)) (by decide +kernel))).trans (Int.add_zero _)).trans (h1 0 (by decide)), (((h7 1).trans (den_of (m := (some 1, 0)) (by decide +kernel))).trans (Int.add_zero _)).trans (h1 1 (by decide)), (((h7 2).trans (den_of (m := (some 2, 0)) (by decide +kernel))).trans (Int.add_zero _)).trans (h1 2 (by decide)), (((h7 3).trans (den_of (m := (some 3, 0)) (by decide +kernel))).trans (Int.add_zero _)).trans (h1 3 (by decide)), fr_ h8 h3 2 2 (by decide +kernel), fr_ h8 h3 4 4 (by decide +kernel), fr_ h8 h3 45 45 (by decide +kernel), fr_ h8 h3 46 46 (by decide +kernel), trivial⟩
set_option maxRecDepth 1000000 in
theorem sy_read {h : AH} {ρ : Nat → Int} {α : Nat → Int → Int} (S : SD bY gY2 ρ α h) (H : P_ly [] [α 1]) (a0 : Int32) : Ct mX7_read 12 0 0 [.ref 0, .int a0] h (fun v hp' => ∃ z : Int32, v = some (.int z) ∧ hp'.length = gY2.length ∧ ∃ ρ' α', SD bY gY2 ρ' α' hp' ∧ α' 1 = α 1 ∧ α' 2 = α 2 ∧ α' 30 = α 30 ∧ α' 31 = α 31 ∧ α' 32 = α 32 ∧ True) := by
  refine Ct_weak (sideS (PT := PT0) (c := c_yf_read) (Bs := bY) (g := gY2) (N := mX7_read) (n := 1) rfl (by decide) (k_yf_read hpl_10) rfl rfl rfl (by decide +kernel) S [a0] rfl (fun r _ f hf => by cases List.mem_singleton.mp hf; exact Eq.mpr (hFp_78 [] [1]) H)) (fun v hp' q => ?_)
  obtain ⟨o, ho, r, a, r', a', h1, h2, h3, h4, h5, h6, h7, h8, h9⟩ := q
  cases List.mem_singleton.mp ho
  obtain ⟨z, rfl, hz⟩ := rO_int h4
  exact ⟨z, rfl, h5, r', a', h6, fr_ h8 h3 1 1 (by decide +kernel), fr_ h8 h3 2 2 (by decide +kernel), fr_ h8 h3 30 30 (by decide +kernel), fr_ h8 h3 31 31 (by decide +kernel), fr_ h8 h3 32 32 (by decide +kernel), trivial⟩
set_option maxRecDepth 1000000 in
theorem sx_coat {h : AH} {ρ : Nat → Int} {α : Nat → Int → Int} (S : SD bT (gX 999) ρ α h) (H : True) (a0 : Int32) (a1 : Int32) (a2 : Int32) : Ct mX6_coat 12 0 0 [.ref 0, .int a0, .int a1, .int a2] h (fun v hp' => ∃ z : Int32, v = some (.int z) ∧ hp'.length = (gX 999).length ∧ ∃ ρ' α', SD bT (gX 999) ρ' α' hp' ∧ ρ' 0 = ρ 0 ∧ ρ' 1 = ρ 1 ∧ ρ' 2 = ρ 2 ∧ ρ' 3 = ρ 3 ∧ α' 2 = α 2 ∧ α' 4 = α 4 ∧ α' 45 = α 45 ∧ α' 46 = α 46 ∧ True) := by
  refine Ct_weak (sideS (PT := PT0) (c := c_xf_coat) (Bs := bT) (g := (gX 999)) (N := mX6_coat) (n := 3) rfl (by decide) (k_xf_coat hpl_10) rfl rfl rfl (by decide +kernel) S [a0, a1, a2] rfl (fun _ _ f hf => absurd hf List.not_mem_nil)) (fun v hp' q => ?_)
  obtain ⟨o, ho, r, a, r', a', h1, h2, h3, h4, h5, h6, h7, h8, h9⟩ := q
  cases List.mem_singleton.mp ho
  obtain ⟨z, rfl, hz⟩ := rO_int h4
  exact ⟨z, rfl, h5, r', a', h6, (((h7 0).trans (den_of (m := (some 0, 0)) (by decide +kernel))).trans (Int.add_zero _)).trans (h1 0 (by decide)), (((h7 1).trans (den_of (m := (some 1, 0)) (by decide +kernel))).trans (Int.add_zero _)).trans (h1 1 (by decide)), (((h7 2).trans (den_of (m := (some 2, 0)) (by decide +kernel))).trans (Int.add_zero _)).trans (h1 2 (by decide)), (((h7 3).trans (den_of (m := (some 3, 0)) (by decide +kernel))).trans (Int.add_zero _)).trans (h1 3 (by decide)), fr_ h8 h3 2 2 (by decide +kernel), fr_ h8 h3 4 4 (by decide +kernel), fr_ h8 h3 45 45 (by decide +kernel), fr_ h8 h3 46 46 (by decide +kernel), trivial⟩
set_option maxRecDepth 1000000 in
theorem sy_coat {h : AH} {ρ : Nat → Int} {α : Nat → Int → Int} (S : SD bY gY2 ρ α h) (H : P_ly [] [α 1]) (a0 : Int32) (a1 : Int32) (a2 : Int32) : Ct mX7_coat 12 0 0 [.ref 0, .int a0, .int a1, .int a2] h (fun v hp' => ∃ z : Int32, v = some (.int z) ∧ hp'.length = gY2.length ∧ ∃ ρ' α', SD bY gY2 ρ' α' hp' ∧ α' 1 = α 1 ∧ α' 2 = α 2 ∧ α' 30 = α 30 ∧ α' 31 = α 31 ∧ α' 32 = α 32 ∧ True) := by
  refine Ct_weak (sideS (PT := PT0) (c := c_yf_coat) (Bs := bY) (g := gY2) (N := mX7_coat) (n := 3) rfl (by decide) (k_yf_coat hpl_10) rfl rfl rfl (by decide +kernel) S [a0, a1, a2] rfl (fun r _ f hf => by cases List.mem_singleton.mp hf; exact Eq.mpr (hFp_78 [] [1]) H)) (fun v hp' q => ?_)
  obtain ⟨o, ho, r, a, r', a', h1, h2, h3, h4, h5, h6, h7, h8, h9⟩ := q
  cases List.mem_singleton.mp ho
  obtain ⟨z, rfl, hz⟩ := rO_int h4
  exact ⟨z, rfl, h5, r', a', h6, fr_ h8 h3 1 1 (by decide +kernel), fr_ h8 h3 2 2 (by decide +kernel), fr_ h8 h3 30 30 (by decide +kernel), fr_ h8 h3 31 31 (by decide +kernel), fr_ h8 h3 32 32 (by decide +kernel), trivial⟩
set_option maxRecDepth 1000000 in
theorem sx_stands {h : AH} {ρ : Nat → Int} {α : Nat → Int → Int} (S : SD bT (gX 999) ρ α h) (H : True) (a0 : Int32) (a1 : Int32) : Ct mX6_stands 12 0 0 [.ref 0, .int a0, .int a1] h (fun v hp' => ∃ z : Int32, v = some (.int z) ∧ hp'.length = (gX 999).length ∧ ∃ ρ' α', SD bT (gX 999) ρ' α' hp' ∧ ρ' 0 = ρ 0 ∧ ρ' 1 = ρ 1 ∧ ρ' 2 = ρ 2 ∧ ρ' 3 = ρ 3 ∧ α' 2 = α 2 ∧ α' 4 = α 4 ∧ α' 45 = α 45 ∧ α' 46 = α 46 ∧ True) := by
  refine Ct_weak (sideS (PT := PT0) (c := c_xf_stands) (Bs := bT) (g := (gX 999)) (N := mX6_stands) (n := 2) rfl (by decide) (k_xf_stands hpl_10) rfl rfl rfl (by decide +kernel) S [a0, a1] rfl (fun _ _ f hf => absurd hf List.not_mem_nil)) (fun v hp' q => ?_)
  obtain ⟨o, ho, r, a, r', a', h1, h2, h3, h4, h5, h6, h7, h8, h9⟩ := q
  cases List.mem_singleton.mp ho
  obtain ⟨z, rfl, hz⟩ := rO_int h4
  exact ⟨z, rfl, h5, r', a', h6, (((h7 0).trans (den_of (m := (some 0, 0)) (by decide +kernel))).trans (Int.add_zero _)).trans (h1 0 (by decide)), (((h7 1).trans (den_of (m := (some 1, 0)) (by decide +kernel))).trans (Int.add_zero _)).trans (h1 1 (by decide)), (((h7 2).trans (den_of (m := (some 2, 0)) (by decide +kernel))).trans (Int.add_zero _)).trans (h1 2 (by decide)), (((h7 3).trans (den_of (m := (some 3, 0)) (by decide +kernel))).trans (Int.add_zero _)).trans (h1 3 (by decide)), fr_ h8 h3 2 2 (by decide +kernel), fr_ h8 h3 4 4 (by decide +kernel), fr_ h8 h3 45 45 (by decide +kernel), fr_ h8 h3 46 46 (by decide +kernel), trivial⟩
set_option maxRecDepth 1000000 in
theorem sy_stands {h : AH} {ρ : Nat → Int} {α : Nat → Int → Int} (S : SD bY gY2 ρ α h) (H : P_ly [] [α 1]) (a0 : Int32) (a1 : Int32) : Ct mX7_stands 12 0 0 [.ref 0, .int a0, .int a1] h (fun v hp' => ∃ z : Int32, v = some (.int z) ∧ hp'.length = gY2.length ∧ ∃ ρ' α', SD bY gY2 ρ' α' hp' ∧ α' 1 = α 1 ∧ α' 2 = α 2 ∧ α' 30 = α 30 ∧ α' 31 = α 31 ∧ α' 32 = α 32 ∧ True) := by
  refine Ct_weak (sideS (PT := PT0) (c := c_yf_stands) (Bs := bY) (g := gY2) (N := mX7_stands) (n := 2) rfl (by decide) (k_yf_stands hpl_10) rfl rfl rfl (by decide +kernel) S [a0, a1] rfl (fun r _ f hf => by cases List.mem_singleton.mp hf; exact Eq.mpr (hFp_78 [] [1]) H)) (fun v hp' q => ?_)
  obtain ⟨o, ho, r, a, r', a', h1, h2, h3, h4, h5, h6, h7, h8, h9⟩ := q
  cases List.mem_singleton.mp ho
  obtain ⟨z, rfl, hz⟩ := rO_int h4
  exact ⟨z, rfl, h5, r', a', h6, fr_ h8 h3 1 1 (by decide +kernel), fr_ h8 h3 2 2 (by decide +kernel), fr_ h8 h3 30 30 (by decide +kernel), fr_ h8 h3 31 31 (by decide +kernel), fr_ h8 h3 32 32 (by decide +kernel), trivial⟩
set_option maxRecDepth 1000000 in
theorem sx_neat {h : AH} {ρ : Nat → Int} {α : Nat → Int → Int} (S : SD bT (gX 999) ρ α h) (H : True) (a0 : Int32) : Ct mX6_neat 12 0 0 [.ref 0, .int a0] h (fun v hp' => ∃ z : Int32, v = some (.int z) ∧ hp'.length = (gX 999).length ∧ ∃ ρ' α', SD bT (gX 999) ρ' α' hp' ∧ ρ' 0 = ρ 0 ∧ ρ' 1 = ρ 1 ∧ ρ' 2 = ρ 2 ∧ ρ' 3 = ρ 3 ∧ α' 2 = α 2 ∧ α' 4 = α 4 ∧ α' 45 = α 45 ∧ α' 46 = α 46 ∧ True) := by
  refine Ct_weak (sideS (PT := PT0) (c := c_xf_neat) (Bs := bT) (g := (gX 999)) (N := mX6_neat) (n := 1) rfl (by decide) (k_xf_neat hpl_10) rfl rfl rfl (by decide +kernel) S [a0] rfl (fun _ _ f hf => absurd hf List.not_mem_nil)) (fun v hp' q => ?_)
  obtain ⟨o, ho, r, a, r', a', h1, h2, h3, h4, h5, h6, h7, h8, h9⟩ := q
  cases List.mem_singleton.mp ho
  obtain ⟨z, rfl, hz⟩ := rO_int h4
  exact ⟨z, rfl, h5, r', a', h6, (((h7 0).trans (den_of (m := (some 0, 0)) (by decide +kernel))).trans (Int.add_zero _)).trans (h1 0 (by decide)), (((h7 1).trans (den_of (m := (some 1, 0)) (by decide +kernel))).trans (Int.add_zero _)).trans (h1 1 (by decide)), (((h7 2).trans (den_of (m := (some 2, 0)) (by decide +kernel))).trans (Int.add_zero _)).trans (h1 2 (by decide)), (((h7 3).trans (den_of (m := (some 3, 0)) (by decide +kernel))).trans (Int.add_zero _)).trans (h1 3 (by decide)), fr_ h8 h3 2 2 (by decide +kernel), fr_ h8 h3 4 4 (by decide +kernel), fr_ h8 h3 45 45 (by decide +kernel), fr_ h8 h3 46 46 (by decide +kernel), trivial⟩
set_option maxRecDepth 1000000 in
theorem sy_neat {h : AH} {ρ : Nat → Int} {α : Nat → Int → Int} (S : SD bY gY2 ρ α h) (H : P_ly [] [α 1]) (a0 : Int32) : Ct mX7_neat 12 0 0 [.ref 0, .int a0] h (fun v hp' => ∃ z : Int32, v = some (.int z) ∧ hp'.length = gY2.length ∧ ∃ ρ' α', SD bY gY2 ρ' α' hp' ∧ α' 1 = α 1 ∧ α' 2 = α 2 ∧ α' 30 = α 30 ∧ α' 31 = α 31 ∧ α' 32 = α 32 ∧ True) := by
  refine Ct_weak (sideS (PT := PT0) (c := c_yf_neat) (Bs := bY) (g := gY2) (N := mX7_neat) (n := 1) rfl (by decide) (k_yf_neat hpl_10) rfl rfl rfl (by decide +kernel) S [a0] rfl (fun r _ f hf => by cases List.mem_singleton.mp hf; exact Eq.mpr (hFp_78 [] [1]) H)) (fun v hp' q => ?_)
  obtain ⟨o, ho, r, a, r', a', h1, h2, h3, h4, h5, h6, h7, h8, h9⟩ := q
  cases List.mem_singleton.mp ho
  obtain ⟨z, rfl, hz⟩ := rO_int h4
  exact ⟨z, rfl, h5, r', a', h6, fr_ h8 h3 1 1 (by decide +kernel), fr_ h8 h3 2 2 (by decide +kernel), fr_ h8 h3 30 30 (by decide +kernel), fr_ h8 h3 31 31 (by decide +kernel), fr_ h8 h3 32 32 (by decide +kernel), trivial⟩
set_option maxRecDepth 1000000 in
theorem sx_naked {h : AH} {ρ : Nat → Int} {α : Nat → Int → Int} (S : SD bT (gX 999) ρ α h) (H : True) (a0 : Int32) : Ct mX6_naked 12 0 0 [.ref 0, .int a0] h (fun v hp' => ∃ z : Int32, v = some (.int z) ∧ hp'.length = (gX 999).length ∧ ∃ ρ' α', SD bT (gX 999) ρ' α' hp' ∧ ρ' 0 = ρ 0 ∧ ρ' 1 = ρ 1 ∧ ρ' 2 = ρ 2 ∧ ρ' 3 = ρ 3 ∧ α' 2 = α 2 ∧ α' 4 = α 4 ∧ α' 45 = α 45 ∧ α' 46 = α 46 ∧ True) := by
  refine Ct_weak (sideS (PT := PT0) (c := c_xf_naked) (Bs := bT) (g := (gX 999)) (N := mX6_naked) (n := 1) rfl (by decide) (k_xf_naked hpl_10) rfl rfl rfl (by decide +kernel) S [a0] rfl (fun _ _ f hf => absurd hf List.not_mem_nil)) (fun v hp' q => ?_)
  obtain ⟨o, ho, r, a, r', a', h1, h2, h3, h4, h5, h6, h7, h8, h9⟩ := q
  cases List.mem_singleton.mp ho
  obtain ⟨z, rfl, hz⟩ := rO_int h4
  exact ⟨z, rfl, h5, r', a', h6, (((h7 0).trans (den_of (m := (some 0, 0)) (by decide +kernel))).trans (Int.add_zero _)).trans (h1 0 (by decide)), (((h7 1).trans (den_of (m := (some 1, 0)) (by decide +kernel))).trans (Int.add_zero _)).trans (h1 1 (by decide)), (((h7 2).trans (den_of (m := (some 2, 0)) (by decide +kernel))).trans (Int.add_zero _)).trans (h1 2 (by decide)), (((h7 3).trans (den_of (m := (some 3, 0)) (by decide +kernel))).trans (Int.add_zero _)).trans (h1 3 (by decide)), fr_ h8 h3 2 2 (by decide +kernel), fr_ h8 h3 4 4 (by decide +kernel), fr_ h8 h3 45 45 (by decide +kernel), fr_ h8 h3 46 46 (by decide +kernel), trivial⟩
set_option maxRecDepth 1000000 in
theorem sy_naked {h : AH} {ρ : Nat → Int} {α : Nat → Int → Int} (S : SD bY gY2 ρ α h) (H : P_ly [] [α 1]) (a0 : Int32) : Ct mX7_naked 12 0 0 [.ref 0, .int a0] h (fun v hp' => ∃ z : Int32, v = some (.int z) ∧ hp'.length = gY2.length ∧ ∃ ρ' α', SD bY gY2 ρ' α' hp' ∧ α' 1 = α 1 ∧ α' 2 = α 2 ∧ α' 30 = α 30 ∧ α' 31 = α 31 ∧ α' 32 = α 32 ∧ True) := by
  refine Ct_weak (sideS (PT := PT0) (c := c_yf_naked) (Bs := bY) (g := gY2) (N := mX7_naked) (n := 1) rfl (by decide) (k_yf_naked hpl_10) rfl rfl rfl (by decide +kernel) S [a0] rfl (fun r _ f hf => by cases List.mem_singleton.mp hf; exact Eq.mpr (hFp_78 [] [1]) H)) (fun v hp' q => ?_)
  obtain ⟨o, ho, r, a, r', a', h1, h2, h3, h4, h5, h6, h7, h8, h9⟩ := q
  cases List.mem_singleton.mp ho
  obtain ⟨z, rfl, hz⟩ := rO_int h4
  exact ⟨z, rfl, h5, r', a', h6, fr_ h8 h3 1 1 (by decide +kernel), fr_ h8 h3 2 2 (by decide +kernel), fr_ h8 h3 30 30 (by decide +kernel), fr_ h8 h3 31 31 (by decide +kernel), fr_ h8 h3 32 32 (by decide +kernel), trivial⟩
set_option maxRecDepth 1000000 in
theorem sx_longest {h : AH} {ρ : Nat → Int} {α : Nat → Int → Int} (S : SD bT (gX 999) ρ α h) (H : True) (a0 : Int32) : Ct mX6_longest 12 0 0 [.ref 0, .int a0] h (fun v hp' => ∃ z : Int32, v = some (.int z) ∧ hp'.length = (gX 999).length ∧ ∃ ρ' α', SD bT (gX 999) ρ' α' hp' ∧ ρ' 0 = ρ 0 ∧ ρ' 1 = ρ 1 ∧ ρ' 2 = ρ 2 ∧ ρ' 3 = ρ 3 ∧ α' 2 = α 2 ∧ α' 4 = α 4 ∧ α' 45 = α 45 ∧ α' 46 = α 46 ∧ True) := by
  refine Ct_weak (sideS (PT := PT0) (c := c_xf_longest) (Bs := bT) (g := (gX 999)) (N := mX6_longest) (n := 1) rfl (by decide) (k_xf_longest hpl_10) rfl rfl rfl (by decide +kernel) S [a0] rfl (fun _ _ f hf => absurd hf List.not_mem_nil)) (fun v hp' q => ?_)
  obtain ⟨o, ho, r, a, r', a', h1, h2, h3, h4, h5, h6, h7, h8, h9⟩ := q
  cases List.mem_singleton.mp ho
  obtain ⟨z, rfl, hz⟩ := rO_int h4
  exact ⟨z, rfl, h5, r', a', h6, (((h7 0).trans (den_of (m := (some 0, 0)) (by decide +kernel))).trans (Int.add_zero _)).trans (h1 0 (by decide)), (((h7 1).trans (den_of (m := (some 1, 0)) (by decide +kernel))).trans (Int.add_zero _)).trans (h1 1 (by decide)), (((h7 2).trans (den_of (m := (some 2, 0)) (by decide +kernel))).trans (Int.add_zero _)).trans (h1 2 (by decide)), (((h7 3).trans (den_of (m := (some 3, 0)) (by decide +kernel))).trans (Int.add_zero _)).trans (h1 3 (by decide)), fr_ h8 h3 2 2 (by decide +kernel), fr_ h8 h3 4 4 (by decide +kernel), fr_ h8 h3 45 45 (by decide +kernel), fr_ h8 h3 46 46 (by decide +kernel), trivial⟩
set_option maxRecDepth 1000000 in
theorem sy_longest {h : AH} {ρ : Nat → Int} {α : Nat → Int → Int} (S : SD bY gY2 ρ α h) (H : P_ly [] [α 1]) (a0 : Int32) : Ct mX7_longest 12 0 0 [.ref 0, .int a0] h (fun v hp' => ∃ z : Int32, v = some (.int z) ∧ hp'.length = gY2.length ∧ ∃ ρ' α', SD bY gY2 ρ' α' hp' ∧ α' 1 = α 1 ∧ α' 2 = α 2 ∧ α' 30 = α 30 ∧ α' 31 = α 31 ∧ α' 32 = α 32 ∧ True) := by
  refine Ct_weak (sideS (PT := PT0) (c := c_yf_longest) (Bs := bY) (g := gY2) (N := mX7_longest) (n := 1) rfl (by decide) (k_yf_longest hpl_10) rfl rfl rfl (by decide +kernel) S [a0] rfl (fun r _ f hf => by cases List.mem_singleton.mp hf; exact Eq.mpr (hFp_78 [] [1]) H)) (fun v hp' q => ?_)
  obtain ⟨o, ho, r, a, r', a', h1, h2, h3, h4, h5, h6, h7, h8, h9⟩ := q
  cases List.mem_singleton.mp ho
  obtain ⟨z, rfl, hz⟩ := rO_int h4
  exact ⟨z, rfl, h5, r', a', h6, fr_ h8 h3 1 1 (by decide +kernel), fr_ h8 h3 2 2 (by decide +kernel), fr_ h8 h3 30 30 (by decide +kernel), fr_ h8 h3 31 31 (by decide +kernel), fr_ h8 h3 32 32 (by decide +kernel), trivial⟩
set_option maxRecDepth 1000000 in
theorem sx_splits {h : AH} {ρ : Nat → Int} {α : Nat → Int → Int} (S : SD bT (gX 999) ρ α h) (H : True) : Ct mX6_splits 12 0 0 [.ref 0] h (fun v hp' => ∃ z : Int32, v = some (.int z) ∧ hp'.length = (gX 999).length ∧ ∃ ρ' α', SD bT (gX 999) ρ' α' hp' ∧ ρ' 0 = ρ 0 ∧ ρ' 1 = ρ 1 ∧ ρ' 2 = ρ 2 ∧ ρ' 3 = ρ 3 ∧ α' 2 = α 2 ∧ α' 4 = α 4 ∧ α' 45 = α 45 ∧ α' 46 = α 46 ∧ True) := by
  refine Ct_weak (sideS (PT := PT0) (c := c_xf_splits) (Bs := bT) (g := (gX 999)) (N := mX6_splits) (n := 0) rfl (by decide) (k_xf_splits hpl_10) rfl rfl rfl (by decide +kernel) S [] rfl (fun _ _ f hf => absurd hf List.not_mem_nil)) (fun v hp' q => ?_)
  obtain ⟨o, ho, r, a, r', a', h1, h2, h3, h4, h5, h6, h7, h8, h9⟩ := q
  cases List.mem_singleton.mp ho
  obtain ⟨z, rfl, hz⟩ := rO_int h4
  exact ⟨z, rfl, h5, r', a', h6, (((h7 0).trans (den_of (m := (some 0, 0)) (by decide +kernel))).trans (Int.add_zero _)).trans (h1 0 (by decide)), (((h7 1).trans (den_of (m := (some 1, 0)) (by decide +kernel))).trans (Int.add_zero _)).trans (h1 1 (by decide)), (((h7 2).trans (den_of (m := (some 2, 0)) (by decide +kernel))).trans (Int.add_zero _)).trans (h1 2 (by decide)), (((h7 3).trans (den_of (m := (some 3, 0)) (by decide +kernel))).trans (Int.add_zero _)).trans (h1 3 (by decide)), fr_ h8 h3 2 2 (by decide +kernel), fr_ h8 h3 4 4 (by decide +kernel), fr_ h8 h3 45 45 (by decide +kernel), fr_ h8 h3 46 46 (by decide +kernel), trivial⟩
set_option maxRecDepth 1000000 in
theorem sy_splits {h : AH} {ρ : Nat → Int} {α : Nat → Int → Int} (S : SD bY gY2 ρ α h) (H : P_ly [] [α 1]) : Ct mX7_splits 12 0 0 [.ref 0] h (fun v hp' => ∃ z : Int32, v = some (.int z) ∧ hp'.length = gY2.length ∧ ∃ ρ' α', SD bY gY2 ρ' α' hp' ∧ α' 1 = α 1 ∧ α' 2 = α 2 ∧ α' 30 = α 30 ∧ α' 31 = α 31 ∧ α' 32 = α 32 ∧ True) := by
  refine Ct_weak (sideS (PT := PT0) (c := c_yf_splits) (Bs := bY) (g := gY2) (N := mX7_splits) (n := 0) rfl (by decide) (k_yf_splits hpl_10) rfl rfl rfl (by decide +kernel) S [] rfl (fun r _ f hf => by cases List.mem_singleton.mp hf; exact Eq.mpr (hFp_78 [] [1]) H)) (fun v hp' q => ?_)
  obtain ⟨o, ho, r, a, r', a', h1, h2, h3, h4, h5, h6, h7, h8, h9⟩ := q
  cases List.mem_singleton.mp ho
  obtain ⟨z, rfl, hz⟩ := rO_int h4
  exact ⟨z, rfl, h5, r', a', h6, fr_ h8 h3 1 1 (by decide +kernel), fr_ h8 h3 2 2 (by decide +kernel), fr_ h8 h3 30 30 (by decide +kernel), fr_ h8 h3 31 31 (by decide +kernel), fr_ h8 h3 32 32 (by decide +kernel), trivial⟩
set_option maxRecDepth 1000000 in
theorem sx_best {h : AH} {ρ : Nat → Int} {α : Nat → Int → Int} (S : SD bT (gX 999) ρ α h) (H : True) : Ct mX6_best 12 0 0 [.ref 0] h (fun v hp' => ∃ z : Int32, v = some (.int z) ∧ hp'.length = (gX 999).length ∧ ∃ ρ' α', SD bT (gX 999) ρ' α' hp' ∧ ρ' 0 = ρ 0 ∧ ρ' 1 = ρ 1 ∧ ρ' 2 = ρ 2 ∧ ρ' 3 = ρ 3 ∧ α' 2 = α 2 ∧ α' 4 = α 4 ∧ α' 45 = α 45 ∧ α' 46 = α 46 ∧ True) := by
  refine Ct_weak (sideS (PT := PT0) (c := c_xf_best) (Bs := bT) (g := (gX 999)) (N := mX6_best) (n := 0) rfl (by decide) (k_xf_best hpl_10) rfl rfl rfl (by decide +kernel) S [] rfl (fun _ _ f hf => absurd hf List.not_mem_nil)) (fun v hp' q => ?_)
  obtain ⟨o, ho, r, a, r', a', h1, h2, h3, h4, h5, h6, h7, h8, h9⟩ := q
  cases List.mem_singleton.mp ho
  obtain ⟨z, rfl, hz⟩ := rO_int h4
  exact ⟨z, rfl, h5, r', a', h6, (((h7 0).trans (den_of (m := (some 0, 0)) (by decide +kernel))).trans (Int.add_zero _)).trans (h1 0 (by decide)), (((h7 1).trans (den_of (m := (some 1, 0)) (by decide +kernel))).trans (Int.add_zero _)).trans (h1 1 (by decide)), (((h7 2).trans (den_of (m := (some 2, 0)) (by decide +kernel))).trans (Int.add_zero _)).trans (h1 2 (by decide)), (((h7 3).trans (den_of (m := (some 3, 0)) (by decide +kernel))).trans (Int.add_zero _)).trans (h1 3 (by decide)), fr_ h8 h3 2 2 (by decide +kernel), fr_ h8 h3 4 4 (by decide +kernel), fr_ h8 h3 45 45 (by decide +kernel), fr_ h8 h3 46 46 (by decide +kernel), trivial⟩
set_option maxRecDepth 1000000 in
theorem sy_best {h : AH} {ρ : Nat → Int} {α : Nat → Int → Int} (S : SD bY gY2 ρ α h) (H : P_ly [] [α 1]) : Ct mX7_best 12 0 0 [.ref 0] h (fun v hp' => ∃ z : Int32, v = some (.int z) ∧ hp'.length = gY2.length ∧ ∃ ρ' α', SD bY gY2 ρ' α' hp' ∧ α' 1 = α 1 ∧ α' 2 = α 2 ∧ α' 30 = α 30 ∧ α' 31 = α 31 ∧ α' 32 = α 32 ∧ True) := by
  refine Ct_weak (sideS (PT := PT0) (c := c_yf_best) (Bs := bY) (g := gY2) (N := mX7_best) (n := 0) rfl (by decide) (k_yf_best hpl_10) rfl rfl rfl (by decide +kernel) S [] rfl (fun r _ f hf => by cases List.mem_singleton.mp hf; exact Eq.mpr (hFp_78 [] [1]) H)) (fun v hp' q => ?_)
  obtain ⟨o, ho, r, a, r', a', h1, h2, h3, h4, h5, h6, h7, h8, h9⟩ := q
  cases List.mem_singleton.mp ho
  obtain ⟨z, rfl, hz⟩ := rO_int h4
  exact ⟨z, rfl, h5, r', a', h6, fr_ h8 h3 1 1 (by decide +kernel), fr_ h8 h3 2 2 (by decide +kernel), fr_ h8 h3 30 30 (by decide +kernel), fr_ h8 h3 31 31 (by decide +kernel), fr_ h8 h3 32 32 (by decide +kernel), trivial⟩
set_option maxRecDepth 1000000 in
theorem sx_swear {h : AH} {ρ : Nat → Int} {α : Nat → Int → Int} (S : SD bT (gX 999) ρ α h) (H : True) (a0 : Int32) (a1 : Int32) : Ct mX6_swear 12 0 0 [.ref 0, .int a0, .int a1] h (fun v hp' => ∃ z : Int32, v = some (.int z) ∧ hp'.length = (gX 999).length ∧ ∃ ρ' α', SD bT (gX 999) ρ' α' hp' ∧ ρ' 0 = ρ 0 ∧ ρ' 1 = ρ 1 ∧ ρ' 2 = ρ 2 ∧ ρ' 3 = ρ 3 ∧ α' 2 = α 2 ∧ α' 4 = α 4 ∧ α' 45 = α 45 ∧ α' 46 = α 46 ∧ True) := by
  refine Ct_weak (sideS (PT := PT0) (c := c_xf_swear) (Bs := bT) (g := (gX 999)) (N := mX6_swear) (n := 2) rfl (by decide) (k_xf_swear hpl_10) rfl rfl rfl (by decide +kernel) S [a0, a1] rfl (fun _ _ f hf => absurd hf List.not_mem_nil)) (fun v hp' q => ?_)
  obtain ⟨o, ho, r, a, r', a', h1, h2, h3, h4, h5, h6, h7, h8, h9⟩ := q
  cases List.mem_singleton.mp ho
  obtain ⟨z, rfl, hz⟩ := rO_int h4
  exact ⟨z, rfl, h5, r', a', h6, (((h7 0).trans (den_of (m := (some 0, 0)) (by decide +kernel))).trans (Int.add_zero _)).trans (h1 0 (by decide)), (((h7 1).trans (den_of (m := (some 1, 0)) (by decide +kernel))).trans (Int.add_zero _)).trans (h1 1 (by decide)), (((h7 2).trans (den_of (m := (some 2, 0)) (by decide +kernel))).trans (Int.add_zero _)).trans (h1 2 (by decide)), (((h7 3).trans (den_of (m := (some 3, 0)) (by decide +kernel))).trans (Int.add_zero _)).trans (h1 3 (by decide)), fr_ h8 h3 2 2 (by decide +kernel), fr_ h8 h3 4 4 (by decide +kernel), fr_ h8 h3 45 45 (by decide +kernel), fr_ h8 h3 46 46 (by decide +kernel), trivial⟩
set_option maxRecDepth 1000000 in
theorem sy_swear {h : AH} {ρ : Nat → Int} {α : Nat → Int → Int} (S : SD bY gY2 ρ α h) (H : P_ly [] [α 1]) (a0 : Int32) (a1 : Int32) : Ct mX7_swear 12 0 0 [.ref 0, .int a0, .int a1] h (fun v hp' => ∃ z : Int32, v = some (.int z) ∧ hp'.length = gY2.length ∧ ∃ ρ' α', SD bY gY2 ρ' α' hp' ∧ α' 1 = α 1 ∧ α' 2 = α 2 ∧ α' 30 = α 30 ∧ α' 31 = α 31 ∧ α' 32 = α 32 ∧ True) := by
  refine Ct_weak (sideS (PT := PT0) (c := c_yf_swear) (Bs := bY) (g := gY2) (N := mX7_swear) (n := 2) rfl (by decide) (k_yf_swear hpl_10) rfl rfl rfl (by decide +kernel) S [a0, a1] rfl (fun r _ f hf => by cases List.mem_singleton.mp hf; exact Eq.mpr (hFp_78 [] [1]) H)) (fun v hp' q => ?_)
  obtain ⟨o, ho, r, a, r', a', h1, h2, h3, h4, h5, h6, h7, h8, h9⟩ := q
  cases List.mem_singleton.mp ho
  obtain ⟨z, rfl, hz⟩ := rO_int h4
  exact ⟨z, rfl, h5, r', a', h6, fr_ h8 h3 1 1 (by decide +kernel), fr_ h8 h3 2 2 (by decide +kernel), fr_ h8 h3 30 30 (by decide +kernel), fr_ h8 h3 31 31 (by decide +kernel), fr_ h8 h3 32 32 (by decide +kernel), trivial⟩
set_option maxRecDepth 1000000 in
theorem sx_keep {h : AH} {ρ : Nat → Int} {α : Nat → Int → Int} (S : SD bT (gX 999) ρ α h) (H : True) (a0 : Int32) (a1 : Int32) : Ct mX6_keep 12 0 0 [.ref 0, .int a0, .int a1] h (fun v hp' => ∃ z : Int32, v = some (.int z) ∧ hp'.length = (gX 999).length ∧ ∃ ρ' α', SD bT (gX 999) ρ' α' hp' ∧ ρ' 0 = ρ 0 ∧ ρ' 1 = ρ 1 ∧ ρ' 2 = ρ 2 ∧ ρ' 3 = ρ 3 ∧ α' 2 = α 2 ∧ α' 4 = α 4 ∧ α' 45 = α 45 ∧ α' 46 = α 46 ∧ True) := by
  refine Ct_weak (sideS (PT := PT0) (c := c_xf_keep) (Bs := bT) (g := (gX 999)) (N := mX6_keep) (n := 2) rfl (by decide) (k_xf_keep hpl_10) rfl rfl rfl (by decide +kernel) S [a0, a1] rfl (fun _ _ f hf => absurd hf List.not_mem_nil)) (fun v hp' q => ?_)
  obtain ⟨o, ho, r, a, r', a', h1, h2, h3, h4, h5, h6, h7, h8, h9⟩ := q
  cases List.mem_singleton.mp ho
  obtain ⟨z, rfl, hz⟩ := rO_int h4
  exact ⟨z, rfl, h5, r', a', h6, (((h7 0).trans (den_of (m := (some 0, 0)) (by decide +kernel))).trans (Int.add_zero _)).trans (h1 0 (by decide)), (((h7 1).trans (den_of (m := (some 1, 0)) (by decide +kernel))).trans (Int.add_zero _)).trans (h1 1 (by decide)), (((h7 2).trans (den_of (m := (some 2, 0)) (by decide +kernel))).trans (Int.add_zero _)).trans (h1 2 (by decide)), (((h7 3).trans (den_of (m := (some 3, 0)) (by decide +kernel))).trans (Int.add_zero _)).trans (h1 3 (by decide)), fr_ h8 h3 2 2 (by decide +kernel), fr_ h8 h3 4 4 (by decide +kernel), fr_ h8 h3 45 45 (by decide +kernel), fr_ h8 h3 46 46 (by decide +kernel), trivial⟩
set_option maxRecDepth 1000000 in
theorem sy_keep {h : AH} {ρ : Nat → Int} {α : Nat → Int → Int} (S : SD bY gY2 ρ α h) (H : P_ly [] [α 1]) (a0 : Int32) (a1 : Int32) : Ct mX7_keep 12 0 0 [.ref 0, .int a0, .int a1] h (fun v hp' => ∃ z : Int32, v = some (.int z) ∧ hp'.length = gY2.length ∧ ∃ ρ' α', SD bY gY2 ρ' α' hp' ∧ α' 1 = α 1 ∧ α' 2 = α 2 ∧ α' 30 = α 30 ∧ α' 31 = α 31 ∧ α' 32 = α 32 ∧ True) := by
  refine Ct_weak (sideS (PT := PT0) (c := c_yf_keep) (Bs := bY) (g := gY2) (N := mX7_keep) (n := 2) rfl (by decide) (k_yf_keep hpl_10) rfl rfl rfl (by decide +kernel) S [a0, a1] rfl (fun r _ f hf => by cases List.mem_singleton.mp hf; exact Eq.mpr (hFp_78 [] [1]) H)) (fun v hp' q => ?_)
  obtain ⟨o, ho, r, a, r', a', h1, h2, h3, h4, h5, h6, h7, h8, h9⟩ := q
  cases List.mem_singleton.mp ho
  obtain ⟨z, rfl, hz⟩ := rO_int h4
  exact ⟨z, rfl, h5, r', a', h6, fr_ h8 h3 1 1 (by decide +kernel), fr_ h8 h3 2 2 (by decide +kernel), fr_ h8 h3 30 30 (by decide +kernel), fr_ h8 h3 31 31 (by decide +kernel), fr_ h8 h3 32 32 (by decide +kernel), trivial⟩
set_option maxRecDepth 1000000 in
theorem sx_due {h : AH} {ρ : Nat → Int} {α : Nat → Int → Int} (S : SD bT (gX 999) ρ α h) (H : True) (a0 : Int32) (a1 : Int32) : Ct mX6_due 12 0 0 [.ref 0, .int a0, .int a1] h (fun v hp' => ∃ z : Int32, v = some (.int z) ∧ hp'.length = (gX 999).length ∧ ∃ ρ' α', SD bT (gX 999) ρ' α' hp' ∧ ρ' 0 = ρ 0 ∧ ρ' 1 = ρ 1 ∧ ρ' 2 = ρ 2 ∧ ρ' 3 = ρ 3 ∧ α' 2 = α 2 ∧ α' 4 = α 4 ∧ α' 45 = α 45 ∧ α' 46 = α 46 ∧ True) := by
  refine Ct_weak (sideS (PT := PT0) (c := c_xf_due) (Bs := bT) (g := (gX 999)) (N := mX6_due) (n := 2) rfl (by decide) (k_xf_due hpl_10) rfl rfl rfl (by decide +kernel) S [a0, a1] rfl (fun _ _ f hf => absurd hf List.not_mem_nil)) (fun v hp' q => ?_)
  obtain ⟨o, ho, r, a, r', a', h1, h2, h3, h4, h5, h6, h7, h8, h9⟩ := q
  cases List.mem_singleton.mp ho
  obtain ⟨z, rfl, hz⟩ := rO_int h4
  exact ⟨z, rfl, h5, r', a', h6, (((h7 0).trans (den_of (m := (some 0, 0)) (by decide +kernel))).trans (Int.add_zero _)).trans (h1 0 (by decide)), (((h7 1).trans (den_of (m := (some 1, 0)) (by decide +kernel))).trans (Int.add_zero _)).trans (h1 1 (by decide)), (((h7 2).trans (den_of (m := (some 2, 0)) (by decide +kernel))).trans (Int.add_zero _)).trans (h1 2 (by decide)), (((h7 3).trans (den_of (m := (some 3, 0)) (by decide +kernel))).trans (Int.add_zero _)).trans (h1 3 (by decide)), fr_ h8 h3 2 2 (by decide +kernel), fr_ h8 h3 4 4 (by decide +kernel), fr_ h8 h3 45 45 (by decide +kernel), fr_ h8 h3 46 46 (by decide +kernel), trivial⟩
set_option maxRecDepth 1000000 in
theorem sy_due {h : AH} {ρ : Nat → Int} {α : Nat → Int → Int} (S : SD bY gY2 ρ α h) (H : P_ly [] [α 1]) (a0 : Int32) (a1 : Int32) : Ct mX7_due 12 0 0 [.ref 0, .int a0, .int a1] h (fun v hp' => ∃ z : Int32, v = some (.int z) ∧ hp'.length = gY2.length ∧ ∃ ρ' α', SD bY gY2 ρ' α' hp' ∧ α' 1 = α 1 ∧ α' 2 = α 2 ∧ α' 30 = α 30 ∧ α' 31 = α 31 ∧ α' 32 = α 32 ∧ True) := by
  refine Ct_weak (sideS (PT := PT0) (c := c_yf_due) (Bs := bY) (g := gY2) (N := mX7_due) (n := 2) rfl (by decide) (k_yf_due hpl_10) rfl rfl rfl (by decide +kernel) S [a0, a1] rfl (fun r _ f hf => by cases List.mem_singleton.mp hf; exact Eq.mpr (hFp_78 [] [1]) H)) (fun v hp' q => ?_)
  obtain ⟨o, ho, r, a, r', a', h1, h2, h3, h4, h5, h6, h7, h8, h9⟩ := q
  cases List.mem_singleton.mp ho
  obtain ⟨z, rfl, hz⟩ := rO_int h4
  exact ⟨z, rfl, h5, r', a', h6, fr_ h8 h3 1 1 (by decide +kernel), fr_ h8 h3 2 2 (by decide +kernel), fr_ h8 h3 30 30 (by decide +kernel), fr_ h8 h3 31 31 (by decide +kernel), fr_ h8 h3 32 32 (by decide +kernel), trivial⟩
set_option maxRecDepth 1000000 in
theorem sx_hush {h : AH} {ρ : Nat → Int} {α : Nat → Int → Int} (S : SD bT (gX 999) ρ α h) (H : True) (a0 : Int32) : Ct mX6_hush 12 0 0 [.ref 0, .int a0] h (fun v hp' => ∃ z : Int32, v = some (.int z) ∧ hp'.length = (gX 999).length ∧ ∃ ρ' α', SD bT (gX 999) ρ' α' hp' ∧ ρ' 0 = ρ 0 ∧ ρ' 1 = ρ 1 ∧ ρ' 2 = ρ 2 ∧ ρ' 3 = ρ 3 ∧ α' 2 = α 2 ∧ α' 4 = α 4 ∧ α' 45 = α 45 ∧ α' 46 = α 46 ∧ True) := by
  refine Ct_weak (sideS (PT := PT0) (c := c_xf_hush) (Bs := bT) (g := (gX 999)) (N := mX6_hush) (n := 1) rfl (by decide) (k_xf_hush hpl_10) rfl rfl rfl (by decide +kernel) S [a0] rfl (fun _ _ f hf => absurd hf List.not_mem_nil)) (fun v hp' q => ?_)
  obtain ⟨o, ho, r, a, r', a', h1, h2, h3, h4, h5, h6, h7, h8, h9⟩ := q
  cases List.mem_singleton.mp ho
  obtain ⟨z, rfl, hz⟩ := rO_int h4
  exact ⟨z, rfl, h5, r', a', h6, (((h7 0).trans (den_of (m := (some 0, 0)) (by decide +kernel))).trans (Int.add_zero _)).trans (h1 0 (by decide)), (((h7 1).trans (den_of (m := (some 1, 0)) (by decide +kernel))).trans (Int.add_zero _)).trans (h1 1 (by decide)), (((h7 2).trans (den_of (m := (some 2, 0)) (by decide +kernel))).trans (Int.add_zero _)).trans (h1 2 (by decide)), (((h7 3).trans (den_of (m := (some 3, 0)) (by decide +kernel))).trans (Int.add_zero _)).trans (h1 3 (by decide)), fr_ h8 h3 2 2 (by decide +kernel), fr_ h8 h3 4 4 (by decide +kernel), fr_ h8 h3 45 45 (by decide +kernel), fr_ h8 h3 46 46 (by decide +kernel), trivial⟩
set_option maxRecDepth 1000000 in
theorem sy_hush {h : AH} {ρ : Nat → Int} {α : Nat → Int → Int} (S : SD bY gY2 ρ α h) (H : P_ly [] [α 1]) (a0 : Int32) : Ct mX7_hush 12 0 0 [.ref 0, .int a0] h (fun v hp' => ∃ z : Int32, v = some (.int z) ∧ hp'.length = gY2.length ∧ ∃ ρ' α', SD bY gY2 ρ' α' hp' ∧ α' 1 = α 1 ∧ α' 2 = α 2 ∧ α' 30 = α 30 ∧ α' 31 = α 31 ∧ α' 32 = α 32 ∧ True) := by
  refine Ct_weak (sideS (PT := PT0) (c := c_yf_hush) (Bs := bY) (g := gY2) (N := mX7_hush) (n := 1) rfl (by decide) (k_yf_hush hpl_10) rfl rfl rfl (by decide +kernel) S [a0] rfl (fun r _ f hf => by cases List.mem_singleton.mp hf; exact Eq.mpr (hFp_78 [] [1]) H)) (fun v hp' q => ?_)
  obtain ⟨o, ho, r, a, r', a', h1, h2, h3, h4, h5, h6, h7, h8, h9⟩ := q
  cases List.mem_singleton.mp ho
  obtain ⟨z, rfl, hz⟩ := rO_int h4
  exact ⟨z, rfl, h5, r', a', h6, fr_ h8 h3 1 1 (by decide +kernel), fr_ h8 h3 2 2 (by decide +kernel), fr_ h8 h3 30 30 (by decide +kernel), fr_ h8 h3 31 31 (by decide +kernel), fr_ h8 h3 32 32 (by decide +kernel), trivial⟩
set_option maxRecDepth 1000000 in
theorem sx_seen {h : AH} {ρ : Nat → Int} {α : Nat → Int → Int} (S : SD bT (gX 999) ρ α h) (H : True) (a0 : Int32) (a1 : Int32) (a2 : Int32) : Ct mX6_seen 12 0 0 [.ref 0, .int a0, .int a1, .int a2] h (fun v hp' => ∃ z : Int32, v = some (.int z) ∧ hp'.length = (gX 999).length ∧ ∃ ρ' α', SD bT (gX 999) ρ' α' hp' ∧ ρ' 0 = ρ 0 ∧ ρ' 1 = ρ 1 ∧ ρ' 2 = ρ 2 ∧ ρ' 3 = ρ 3 ∧ α' 2 = α 2 ∧ α' 4 = α 4 ∧ α' 45 = α 45 ∧ α' 46 = α 46 ∧ True) := by
  refine Ct_weak (sideS (PT := PT0) (c := c_xo_seen) (Bs := bT) (g := (gX 999)) (N := mX6_seen) (n := 3) rfl (by decide) (k_xo_seen hpl_6) rfl rfl rfl (by decide +kernel) S [a0, a1, a2] rfl (fun _ _ f hf => absurd hf List.not_mem_nil)) (fun v hp' q => ?_)
  obtain ⟨o, ho, r, a, r', a', h1, h2, h3, h4, h5, h6, h7, h8, h9⟩ := q
  cases List.mem_singleton.mp ho
  obtain ⟨z, rfl, hz⟩ := rO_int h4
  exact ⟨z, rfl, h5, r', a', h6, (((h7 0).trans (den_of (m := (some 0, 0)) (by decide +kernel))).trans (Int.add_zero _)).trans (h1 0 (by decide)), (((h7 1).trans (den_of (m := (some 1, 0)) (by decide +kernel))).trans (Int.add_zero _)).trans (h1 1 (by decide)), (((h7 2).trans (den_of (m := (some 2, 0)) (by decide +kernel))).trans (Int.add_zero _)).trans (h1 2 (by decide)), (((h7 3).trans (den_of (m := (some 3, 0)) (by decide +kernel))).trans (Int.add_zero _)).trans (h1 3 (by decide)), fr_ h8 h3 2 2 (by decide +kernel), fr_ h8 h3 4 4 (by decide +kernel), fr_ h8 h3 45 45 (by decide +kernel), fr_ h8 h3 46 46 (by decide +kernel), trivial⟩
set_option maxRecDepth 1000000 in
theorem sy_seen {h : AH} {ρ : Nat → Int} {α : Nat → Int → Int} (S : SD bY gY2 ρ α h) (H : P_ly [] [α 1]) (a0 : Int32) (a1 : Int32) (a2 : Int32) : Ct mX7_seen 12 0 0 [.ref 0, .int a0, .int a1, .int a2] h (fun v hp' => ∃ z : Int32, v = some (.int z) ∧ hp'.length = gY2.length ∧ ∃ ρ' α', SD bY gY2 ρ' α' hp' ∧ α' 1 = α 1 ∧ α' 2 = α 2 ∧ α' 30 = α 30 ∧ α' 31 = α 31 ∧ α' 32 = α 32 ∧ True) := by
  refine Ct_weak (sideS (PT := PT0) (c := c_yo_seen) (Bs := bY) (g := gY2) (N := mX7_seen) (n := 3) rfl (by decide) (k_yo_seen hpl_7) rfl rfl rfl (by decide +kernel) S [a0, a1, a2] rfl (fun _ _ f hf => absurd hf List.not_mem_nil)) (fun v hp' q => ?_)
  obtain ⟨o, ho, r, a, r', a', h1, h2, h3, h4, h5, h6, h7, h8, h9⟩ := q
  cases List.mem_singleton.mp ho
  obtain ⟨z, rfl, hz⟩ := rO_int h4
  exact ⟨z, rfl, h5, r', a', h6, fr_ h8 h3 1 1 (by decide +kernel), fr_ h8 h3 2 2 (by decide +kernel), fr_ h8 h3 30 30 (by decide +kernel), fr_ h8 h3 31 31 (by decide +kernel), fr_ h8 h3 32 32 (by decide +kernel), trivial⟩
set_option maxRecDepth 1000000 in
theorem sx_forget {h : AH} {ρ : Nat → Int} {α : Nat → Int → Int} (S : SD bT (gX 999) ρ α h) (H : True) : Ct mX6_forget 12 0 0 [.ref 0] h (fun v hp' => ∃ z : Int32, v = some (.int z) ∧ hp'.length = (gX 999).length ∧ ∃ ρ' α', SD bT (gX 999) ρ' α' hp' ∧ ρ' 0 = ρ 0 ∧ ρ' 1 = ρ 1 ∧ ρ' 2 = ρ 2 ∧ ρ' 3 = ρ 3 ∧ α' 2 = α 2 ∧ α' 4 = α 4 ∧ α' 45 = α 45 ∧ α' 46 = α 46 ∧ True) := by
  refine Ct_weak (sideS (PT := PT0) (c := c_xo_forget) (Bs := bT) (g := (gX 999)) (N := mX6_forget) (n := 0) rfl (by decide) (k_xo_forget hpl_6) rfl rfl rfl (by decide +kernel) S [] rfl (fun _ _ f hf => absurd hf List.not_mem_nil)) (fun v hp' q => ?_)
  obtain ⟨o, ho, r, a, r', a', h1, h2, h3, h4, h5, h6, h7, h8, h9⟩ := q
  cases List.mem_singleton.mp ho
  obtain ⟨z, rfl, hz⟩ := rO_int h4
  exact ⟨z, rfl, h5, r', a', h6, (((h7 0).trans (den_of (m := (some 0, 0)) (by decide +kernel))).trans (Int.add_zero _)).trans (h1 0 (by decide)), (((h7 1).trans (den_of (m := (some 1, 0)) (by decide +kernel))).trans (Int.add_zero _)).trans (h1 1 (by decide)), (((h7 2).trans (den_of (m := (some 2, 0)) (by decide +kernel))).trans (Int.add_zero _)).trans (h1 2 (by decide)), (((h7 3).trans (den_of (m := (some 3, 0)) (by decide +kernel))).trans (Int.add_zero _)).trans (h1 3 (by decide)), fr_ h8 h3 2 2 (by decide +kernel), fr_ h8 h3 4 4 (by decide +kernel), fr_ h8 h3 45 45 (by decide +kernel), fr_ h8 h3 46 46 (by decide +kernel), trivial⟩
set_option maxRecDepth 1000000 in
theorem sy_forget {h : AH} {ρ : Nat → Int} {α : Nat → Int → Int} (S : SD bY gY2 ρ α h) (H : P_ly [] [α 1]) : Ct mX7_forget 12 0 0 [.ref 0] h (fun v hp' => ∃ z : Int32, v = some (.int z) ∧ hp'.length = gY2.length ∧ ∃ ρ' α', SD bY gY2 ρ' α' hp' ∧ α' 1 = α 1 ∧ α' 2 = α 2 ∧ α' 30 = α 30 ∧ α' 31 = α 31 ∧ α' 32 = α 32 ∧ True) := by
  refine Ct_weak (sideS (PT := PT0) (c := c_yo_forget) (Bs := bY) (g := gY2) (N := mX7_forget) (n := 0) rfl (by decide) (k_yo_forget hpl_7) rfl rfl rfl (by decide +kernel) S [] rfl (fun _ _ f hf => absurd hf List.not_mem_nil)) (fun v hp' q => ?_)
  obtain ⟨o, ho, r, a, r', a', h1, h2, h3, h4, h5, h6, h7, h8, h9⟩ := q
  cases List.mem_singleton.mp ho
  obtain ⟨z, rfl, hz⟩ := rO_int h4
  exact ⟨z, rfl, h5, r', a', h6, fr_ h8 h3 1 1 (by decide +kernel), fr_ h8 h3 2 2 (by decide +kernel), fr_ h8 h3 30 30 (by decide +kernel), fr_ h8 h3 31 31 (by decide +kernel), fr_ h8 h3 32 32 (by decide +kernel), trivial⟩
set_option maxRecDepth 1000000 in
theorem sx_never {h : AH} {ρ : Nat → Int} {α : Nat → Int → Int} (S : SD bT (gX 999) ρ α h) (H : True) : Ct mX6_never 12 0 0 [.ref 0] h (fun v hp' => ∃ z : Int32, v = some (.int z) ∧ hp'.length = (gX 999).length ∧ ∃ ρ' α', SD bT (gX 999) ρ' α' hp' ∧ ρ' 0 = ρ 0 ∧ ρ' 1 = ρ 1 ∧ ρ' 2 = ρ 2 ∧ ρ' 3 = ρ 3 ∧ α' 2 = α 2 ∧ α' 4 = α 4 ∧ α' 45 = α 45 ∧ α' 46 = α 46 ∧ True) := by
  refine Ct_weak (sideS (PT := PT0) (c := c_xf_never) (Bs := bT) (g := (gX 999)) (N := mX6_never) (n := 0) rfl (by decide) (k_xf_never hpl_10) rfl rfl rfl (by decide +kernel) S [] rfl (fun _ _ f hf => absurd hf List.not_mem_nil)) (fun v hp' q => ?_)
  obtain ⟨o, ho, r, a, r', a', h1, h2, h3, h4, h5, h6, h7, h8, h9⟩ := q
  cases List.mem_singleton.mp ho
  obtain ⟨z, rfl, hz⟩ := rO_int h4
  exact ⟨z, rfl, h5, r', a', h6, (((h7 0).trans (den_of (m := (some 0, 0)) (by decide +kernel))).trans (Int.add_zero _)).trans (h1 0 (by decide)), (((h7 1).trans (den_of (m := (some 1, 0)) (by decide +kernel))).trans (Int.add_zero _)).trans (h1 1 (by decide)), (((h7 2).trans (den_of (m := (some 2, 0)) (by decide +kernel))).trans (Int.add_zero _)).trans (h1 2 (by decide)), (((h7 3).trans (den_of (m := (some 3, 0)) (by decide +kernel))).trans (Int.add_zero _)).trans (h1 3 (by decide)), fr_ h8 h3 2 2 (by decide +kernel), fr_ h8 h3 4 4 (by decide +kernel), fr_ h8 h3 45 45 (by decide +kernel), fr_ h8 h3 46 46 (by decide +kernel), trivial⟩
set_option maxRecDepth 1000000 in
theorem sy_never {h : AH} {ρ : Nat → Int} {α : Nat → Int → Int} (S : SD bY gY2 ρ α h) (H : P_ly [] [α 1]) : Ct mX7_never 12 0 0 [.ref 0] h (fun v hp' => ∃ z : Int32, v = some (.int z) ∧ hp'.length = gY2.length ∧ ∃ ρ' α', SD bY gY2 ρ' α' hp' ∧ α' 1 = α 1 ∧ α' 2 = α 2 ∧ α' 30 = α 30 ∧ α' 31 = α 31 ∧ α' 32 = α 32 ∧ True) := by
  refine Ct_weak (sideS (PT := PT0) (c := c_yf_never) (Bs := bY) (g := gY2) (N := mX7_never) (n := 0) rfl (by decide) (k_yf_never hpl_10) rfl rfl rfl (by decide +kernel) S [] rfl (fun r _ f hf => by cases List.mem_singleton.mp hf; exact Eq.mpr (hFp_78 [] [1]) H)) (fun v hp' q => ?_)
  obtain ⟨o, ho, r, a, r', a', h1, h2, h3, h4, h5, h6, h7, h8, h9⟩ := q
  cases List.mem_singleton.mp ho
  obtain ⟨z, rfl, hz⟩ := rO_int h4
  exact ⟨z, rfl, h5, r', a', h6, fr_ h8 h3 1 1 (by decide +kernel), fr_ h8 h3 2 2 (by decide +kernel), fr_ h8 h3 30 30 (by decide +kernel), fr_ h8 h3 31 31 (by decide +kernel), fr_ h8 h3 32 32 (by decide +kernel), trivial⟩
set_option maxRecDepth 1000000 in
theorem sx_was {h : AH} {ρ : Nat → Int} {α : Nat → Int → Int} (S : SD bT (gX 999) ρ α h) (H : True) (a0 : Int32) (a1 : Int32) : Ct mX6_was 12 0 0 [.ref 0, .int a0, .int a1] h (fun v hp' => ∃ z : Int32, v = some (.int z) ∧ hp'.length = (gX 999).length ∧ ∃ ρ' α', SD bT (gX 999) ρ' α' hp' ∧ ρ' 0 = ρ 0 ∧ ρ' 1 = ρ 1 ∧ ρ' 2 = ρ 2 ∧ ρ' 3 = ρ 3 ∧ α' 2 = α 2 ∧ α' 4 = α 4 ∧ α' 45 = α 45 ∧ α' 46 = α 46 ∧ True) := by
  refine Ct_weak (sideS (PT := PT0) (c := c_xf_was) (Bs := bT) (g := (gX 999)) (N := mX6_was) (n := 2) rfl (by decide) (k_xf_was hpl_10) rfl rfl rfl (by decide +kernel) S [a0, a1] rfl (fun _ _ f hf => absurd hf List.not_mem_nil)) (fun v hp' q => ?_)
  obtain ⟨o, ho, r, a, r', a', h1, h2, h3, h4, h5, h6, h7, h8, h9⟩ := q
  cases List.mem_singleton.mp ho
  obtain ⟨z, rfl, hz⟩ := rO_int h4
  exact ⟨z, rfl, h5, r', a', h6, (((h7 0).trans (den_of (m := (some 0, 0)) (by decide +kernel))).trans (Int.add_zero _)).trans (h1 0 (by decide)), (((h7 1).trans (den_of (m := (some 1, 0)) (by decide +kernel))).trans (Int.add_zero _)).trans (h1 1 (by decide)), (((h7 2).trans (den_of (m := (some 2, 0)) (by decide +kernel))).trans (Int.add_zero _)).trans (h1 2 (by decide)), (((h7 3).trans (den_of (m := (some 3, 0)) (by decide +kernel))).trans (Int.add_zero _)).trans (h1 3 (by decide)), fr_ h8 h3 2 2 (by decide +kernel), fr_ h8 h3 4 4 (by decide +kernel), fr_ h8 h3 45 45 (by decide +kernel), fr_ h8 h3 46 46 (by decide +kernel), trivial⟩
set_option maxRecDepth 1000000 in
theorem sy_was {h : AH} {ρ : Nat → Int} {α : Nat → Int → Int} (S : SD bY gY2 ρ α h) (H : P_ly [] [α 1]) (a0 : Int32) (a1 : Int32) : Ct mX7_was 12 0 0 [.ref 0, .int a0, .int a1] h (fun v hp' => ∃ z : Int32, v = some (.int z) ∧ hp'.length = gY2.length ∧ ∃ ρ' α', SD bY gY2 ρ' α' hp' ∧ α' 1 = α 1 ∧ α' 2 = α 2 ∧ α' 30 = α 30 ∧ α' 31 = α 31 ∧ α' 32 = α 32 ∧ True) := by
  refine Ct_weak (sideS (PT := PT0) (c := c_yf_was) (Bs := bY) (g := gY2) (N := mX7_was) (n := 2) rfl (by decide) (k_yf_was hpl_10) rfl rfl rfl (by decide +kernel) S [a0, a1] rfl (fun r _ f hf => by cases List.mem_singleton.mp hf; exact Eq.mpr (hFp_78 [] [1]) H)) (fun v hp' q => ?_)
  obtain ⟨o, ho, r, a, r', a', h1, h2, h3, h4, h5, h6, h7, h8, h9⟩ := q
  cases List.mem_singleton.mp ho
  obtain ⟨z, rfl, hz⟩ := rO_int h4
  exact ⟨z, rfl, h5, r', a', h6, fr_ h8 h3 1 1 (by decide +kernel), fr_ h8 h3 2 2 (by decide +kernel), fr_ h8 h3 30 30 (by decide +kernel), fr_ h8 h3 31 31 (by decide +kernel), fr_ h8 h3 32 32 (by decide +kernel), trivial⟩
set_option maxRecDepth 1000000 in
theorem sx_ask {h : AH} {ρ : Nat → Int} {α : Nat → Int → Int} (S : SD bT (gX 999) ρ α h) (H : True) (a0 : Int32) : Ct mX6_ask 12 0 0 [.ref 0, .int a0] h (fun v hp' => ∃ z : Int32, v = some (.int z) ∧ hp'.length = (gX 999).length ∧ ∃ ρ' α', SD bT (gX 999) ρ' α' hp' ∧ ρ' 0 = ρ 0 ∧ ρ' 1 = ρ 1 ∧ ρ' 2 = ρ 2 ∧ ρ' 3 = ρ 3 ∧ α' 2 = α 2 ∧ α' 4 = α 4 ∧ α' 45 = α 45 ∧ α' 46 = α 46 ∧ True) := by
  refine Ct_weak (sideS (PT := PT0) (c := c_xf_ask) (Bs := bT) (g := (gX 999)) (N := mX6_ask) (n := 1) rfl (by decide) (k_xf_ask hpl_10) rfl rfl rfl (by decide +kernel) S [a0] rfl (fun _ _ f hf => absurd hf List.not_mem_nil)) (fun v hp' q => ?_)
  obtain ⟨o, ho, r, a, r', a', h1, h2, h3, h4, h5, h6, h7, h8, h9⟩ := q
  cases List.mem_singleton.mp ho
  obtain ⟨z, rfl, hz⟩ := rO_int h4
  exact ⟨z, rfl, h5, r', a', h6, (((h7 0).trans (den_of (m := (some 0, 0)) (by decide +kernel))).trans (Int.add_zero _)).trans (h1 0 (by decide)), (((h7 1).trans (den_of (m := (some 1, 0)) (by decide +kernel))).trans (Int.add_zero _)).trans (h1 1 (by decide)), (((h7 2).trans (den_of (m := (some 2, 0)) (by decide +kernel))).trans (Int.add_zero _)).trans (h1 2 (by decide)), (((h7 3).trans (den_of (m := (some 3, 0)) (by decide +kernel))).trans (Int.add_zero _)).trans (h1 3 (by decide)), fr_ h8 h3 2 2 (by decide +kernel), fr_ h8 h3 4 4 (by decide +kernel), fr_ h8 h3 45 45 (by decide +kernel), fr_ h8 h3 46 46 (by decide +kernel), trivial⟩
set_option maxRecDepth 1000000 in
theorem sy_ask {h : AH} {ρ : Nat → Int} {α : Nat → Int → Int} (S : SD bY gY2 ρ α h) (H : P_ly [] [α 1]) (a0 : Int32) : Ct mX7_ask 12 0 0 [.ref 0, .int a0] h (fun v hp' => ∃ z : Int32, v = some (.int z) ∧ hp'.length = gY2.length ∧ ∃ ρ' α', SD bY gY2 ρ' α' hp' ∧ α' 1 = α 1 ∧ α' 2 = α 2 ∧ α' 30 = α 30 ∧ α' 31 = α 31 ∧ α' 32 = α 32 ∧ True) := by
  refine Ct_weak (sideS (PT := PT0) (c := c_yf_ask) (Bs := bY) (g := gY2) (N := mX7_ask) (n := 1) rfl (by decide) (k_yf_ask hpl_10) rfl rfl rfl (by decide +kernel) S [a0] rfl (fun r _ f hf => by cases List.mem_singleton.mp hf; exact Eq.mpr (hFp_78 [] [1]) H)) (fun v hp' q => ?_)
  obtain ⟨o, ho, r, a, r', a', h1, h2, h3, h4, h5, h6, h7, h8, h9⟩ := q
  cases List.mem_singleton.mp ho
  obtain ⟨z, rfl, hz⟩ := rO_int h4
  exact ⟨z, rfl, h5, r', a', h6, fr_ h8 h3 1 1 (by decide +kernel), fr_ h8 h3 2 2 (by decide +kernel), fr_ h8 h3 30 30 (by decide +kernel), fr_ h8 h3 31 31 (by decide +kernel), fr_ h8 h3 32 32 (by decide +kernel), trivial⟩
set_option maxRecDepth 1000000 in
theorem sx_word {h : AH} {ρ : Nat → Int} {α : Nat → Int → Int} (S : SD bT (gX 999) ρ α h) (H : True) (a0 : Int32) (a1 : Int32) (a2 : Int32) (a3 : Int32) : Ct mX6_word 12 0 0 [.ref 0, .int a0, .int a1, .int a2, .int a3] h (fun v hp' => ∃ z : Int64, v = some (.long z) ∧ hp'.length = (gX 999).length ∧ ∃ ρ' α', SD bT (gX 999) ρ' α' hp' ∧ ρ' 0 = ρ 0 ∧ ρ' 1 = ρ 1 ∧ ρ' 2 = ρ 2 ∧ ρ' 3 = ρ 3 ∧ α' 2 = α 2 ∧ α' 4 = α 4 ∧ α' 45 = α 45 ∧ α' 46 = α 46 ∧ True) := by
  refine Ct_weak (sideS (PT := PT0) (c := c_xf_word) (Bs := bT) (g := (gX 999)) (N := mX6_word) (n := 4) rfl (by decide) (k_xf_word hpl_10) rfl rfl rfl (by decide +kernel) S [a0, a1, a2, a3] rfl (fun _ _ f hf => absurd hf List.not_mem_nil)) (fun v hp' q => ?_)
  obtain ⟨o, ho, r, a, r', a', h1, h2, h3, h4, h5, h6, h7, h8, h9⟩ := q
  cases List.mem_singleton.mp ho
  obtain ⟨z, rfl⟩ := rO_long h4
  exact ⟨z, rfl, h5, r', a', h6, (((h7 0).trans (den_of (m := (some 0, 0)) (by decide +kernel))).trans (Int.add_zero _)).trans (h1 0 (by decide)), (((h7 1).trans (den_of (m := (some 1, 0)) (by decide +kernel))).trans (Int.add_zero _)).trans (h1 1 (by decide)), (((h7 2).trans (den_of (m := (some 2, 0)) (by decide +kernel))).trans (Int.add_zero _)).trans (h1 2 (by decide)), (((h7 3).trans (den_of (m := (some 3, 0)) (by decide +kernel))).trans (Int.add_zero _)).trans (h1 3 (by decide)), fr_ h8 h3 2 2 (by decide +kernel), fr_ h8 h3 4 4 (by decide +kernel), fr_ h8 h3 45 45 (by decide +kernel), fr_ h8 h3 46 46 (by decide +kernel), trivial⟩
set_option maxRecDepth 1000000 in
theorem sy_word {h : AH} {ρ : Nat → Int} {α : Nat → Int → Int} (S : SD bY gY2 ρ α h) (H : P_ly [] [α 1]) (a0 : Int32) (a1 : Int32) (a2 : Int32) (a3 : Int32) : Ct mX7_word 12 0 0 [.ref 0, .int a0, .int a1, .int a2, .int a3] h (fun v hp' => ∃ z : Int64, v = some (.long z) ∧ hp'.length = gY2.length ∧ ∃ ρ' α', SD bY gY2 ρ' α' hp' ∧ α' 1 = α 1 ∧ α' 2 = α 2 ∧ α' 30 = α 30 ∧ α' 31 = α 31 ∧ α' 32 = α 32 ∧ True) := by
  refine Ct_weak (sideS (PT := PT0) (c := c_yf_word) (Bs := bY) (g := gY2) (N := mX7_word) (n := 4) rfl (by decide) (k_yf_word hpl_10) rfl rfl rfl (by decide +kernel) S [a0, a1, a2, a3] rfl (fun r _ f hf => by cases List.mem_singleton.mp hf; exact Eq.mpr (hFp_78 [] [1]) H)) (fun v hp' q => ?_)
  obtain ⟨o, ho, r, a, r', a', h1, h2, h3, h4, h5, h6, h7, h8, h9⟩ := q
  cases List.mem_singleton.mp ho
  obtain ⟨z, rfl⟩ := rO_long h4
  exact ⟨z, rfl, h5, r', a', h6, fr_ h8 h3 1 1 (by decide +kernel), fr_ h8 h3 2 2 (by decide +kernel), fr_ h8 h3 30 30 (by decide +kernel), fr_ h8 h3 31 31 (by decide +kernel), fr_ h8 h3 32 32 (by decide +kernel), trivial⟩
set_option maxRecDepth 1000000 in
theorem sx_year {h : AH} {ρ : Nat → Int} {α : Nat → Int → Int} (S : SD bT (gX 999) ρ α h) (H : True) (a0 : Int32) (a1 : Int32) (a2 : Int32) : Ct mX6_year 12 0 0 [.ref 0, .int a0, .int a1, .int a2] h (fun v hp' => ∃ z : Int32, v = some (.int z) ∧ hp'.length = (gX 999).length ∧ ∃ ρ' α', SD bT (gX 999) ρ' α' hp' ∧ ρ' 0 = ρ 0 ∧ ρ' 1 = ρ 1 ∧ ρ' 2 = ρ 2 ∧ ρ' 3 = ρ 3 ∧ α' 2 = α 2 ∧ α' 4 = α 4 ∧ α' 45 = α 45 ∧ α' 46 = α 46 ∧ True) := by
  refine Ct_weak (sideS (PT := PT0) (c := c_xf_year) (Bs := bT) (g := (gX 999)) (N := mX6_year) (n := 3) rfl (by decide) (k_xf_year hpl_10) rfl rfl rfl (by decide +kernel) S [a0, a1, a2] rfl (fun _ _ f hf => absurd hf List.not_mem_nil)) (fun v hp' q => ?_)
  obtain ⟨o, ho, r, a, r', a', h1, h2, h3, h4, h5, h6, h7, h8, h9⟩ := q
  cases List.mem_singleton.mp ho
  obtain ⟨z, rfl, hz⟩ := rO_int h4
  exact ⟨z, rfl, h5, r', a', h6, (((h7 0).trans (den_of (m := (some 0, 0)) (by decide +kernel))).trans (Int.add_zero _)).trans (h1 0 (by decide)), (((h7 1).trans (den_of (m := (some 1, 0)) (by decide +kernel))).trans (Int.add_zero _)).trans (h1 1 (by decide)), (((h7 2).trans (den_of (m := (some 2, 0)) (by decide +kernel))).trans (Int.add_zero _)).trans (h1 2 (by decide)), (((h7 3).trans (den_of (m := (some 3, 0)) (by decide +kernel))).trans (Int.add_zero _)).trans (h1 3 (by decide)), fr_ h8 h3 2 2 (by decide +kernel), fr_ h8 h3 4 4 (by decide +kernel), fr_ h8 h3 45 45 (by decide +kernel), fr_ h8 h3 46 46 (by decide +kernel), trivial⟩
set_option maxRecDepth 1000000 in
theorem sy_year {h : AH} {ρ : Nat → Int} {α : Nat → Int → Int} (S : SD bY gY2 ρ α h) (H : P_ly [] [α 1]) (a0 : Int32) (a1 : Int32) (a2 : Int32) : Ct mX7_year 12 0 0 [.ref 0, .int a0, .int a1, .int a2] h (fun v hp' => ∃ z : Int32, v = some (.int z) ∧ hp'.length = gY2.length ∧ ∃ ρ' α', SD bY gY2 ρ' α' hp' ∧ α' 1 = α 1 ∧ α' 2 = α 2 ∧ α' 30 = α 30 ∧ α' 31 = α 31 ∧ α' 32 = α 32 ∧ True) := by
  refine Ct_weak (sideS (PT := PT0) (c := c_yf_year) (Bs := bY) (g := gY2) (N := mX7_year) (n := 3) rfl (by decide) (k_yf_year hpl_10) rfl rfl rfl (by decide +kernel) S [a0, a1, a2] rfl (fun r _ f hf => by cases List.mem_singleton.mp hf; exact Eq.mpr (hFp_78 [] [1]) H)) (fun v hp' q => ?_)
  obtain ⟨o, ho, r, a, r', a', h1, h2, h3, h4, h5, h6, h7, h8, h9⟩ := q
  cases List.mem_singleton.mp ho
  obtain ⟨z, rfl, hz⟩ := rO_int h4
  exact ⟨z, rfl, h5, r', a', h6, fr_ h8 h3 1 1 (by decide +kernel), fr_ h8 h3 2 2 (by decide +kernel), fr_ h8 h3 30 30 (by decide +kernel), fr_ h8 h3 31 31 (by decide +kernel), fr_ h8 h3 32 32 (by decide +kernel), trivial⟩
set_option maxRecDepth 1000000 in
theorem sx_sheet {h : AH} {ρ : Nat → Int} {α : Nat → Int → Int} (S : SD bT (gX 999) ρ α h) (H : True) (a0 : Int32) (a1 : Int32) (a2 : Int32) : Ct mX6_sheet 12 0 0 [.ref 0, .int a0, .int a1, .int a2] h (fun v hp' => ∃ z : Int32, v = some (.int z) ∧ hp'.length = (gX 999).length ∧ ∃ ρ' α', SD bT (gX 999) ρ' α' hp' ∧ ρ' 0 = ρ 0 ∧ ρ' 1 = ρ 1 ∧ ρ' 2 = ρ 2 ∧ ρ' 3 = ρ 3 ∧ α' 2 = α 2 ∧ α' 4 = α 4 ∧ P_shX [z.toInt, a0.toInt, a1.toInt, a2.toInt, ρ 13, ρ' 13] [α 45, α 46, α 41, α 42, α 43, α 44, α' 45, α' 46, α' 41, α' 42, α' 43, α' 44] ∧ True) := by
  refine Ct_weak (sideS (PT := PT0) (c := c_xo_sheet) (Bs := bT) (g := (gX 999)) (N := mX6_sheet) (n := 3) rfl (by decide) (k_xo_sheet hpl_8) rfl rfl rfl (by decide +kernel) S [a0, a1, a2] rfl (fun _ _ f hf => absurd hf List.not_mem_nil)) (fun v hp' q => ?_)
  obtain ⟨o, ho, r, a, r', a', h1, h2, h3, h4, h5, h6, h7, h8, h9⟩ := q
  cases List.mem_singleton.mp ho
  obtain ⟨z, rfl, hz⟩ := rO_int h4
  have t58 : a 58 = a' 41 := ((h8 41 (by decide +kernel)).trans (congrArg a (by decide +kernel))).symm
  have t59 : a 59 = a' 42 := ((h8 42 (by decide +kernel)).trans (congrArg a (by decide +kernel))).symm
  have t60 : a 60 = a' 43 := ((h8 43 (by decide +kernel)).trans (congrArg a (by decide +kernel))).symm
  have t61 : a 61 = a' 44 := ((h8 44 (by decide +kernel)).trans (congrArg a (by decide +kernel))).symm
  have t62 : a 62 = a' 45 := ((h8 45 (by decide +kernel)).trans (congrArg a (by decide +kernel))).symm
  have t63 : a 63 = a' 46 := ((h8 46 (by decide +kernel)).trans (congrArg a (by decide +kernel))).symm
  have q18 : r 18 = r' 13 := (((h7 13).trans (den_of (m := (some 18, 0)) (by decide +kernel))).trans (Int.add_zero _)).symm
  have q14 : r 14 = a0.toInt := h2 0 (by decide)
  have q15 : r 15 = a1.toInt := h2 1 (by decide)
  have q16 : r 16 = a2.toInt := h2 2 (by decide)
  have q13 : r 13 = ρ 13 := h1 13 (by decide)
  have t41 : a 41 = α 41 := h3 41 (by decide +kernel)
  have t42 : a 42 = α 42 := h3 42 (by decide +kernel)
  have t43 : a 43 = α 43 := h3 43 (by decide +kernel)
  have t44 : a 44 = α 44 := h3 44 (by decide +kernel)
  have t45 : a 45 = α 45 := h3 45 (by decide +kernel)
  have t46 : a 46 = α 46 := h3 46 (by decide +kernel)
  have q17 : r 17 = z.toInt := (hz.trans (Int.add_zero _)).symm
  have f0 := h9 _ (List.Mem.head _)
  rw [hFp_125, show PT0 125 = P_shX from rfl] at f0
  simp only [List.map_cons, List.map_nil, den_s, den_c, Int.add_zero, q13, q14, q15, q16, q17, q18, t41, t42, t43, t44, t45, t46, t58, t59, t60, t61, t62, t63] at f0
  exact ⟨z, rfl, h5, r', a', h6, (((h7 0).trans (den_of (m := (some 0, 0)) (by decide +kernel))).trans (Int.add_zero _)).trans (h1 0 (by decide)), (((h7 1).trans (den_of (m := (some 1, 0)) (by decide +kernel))).trans (Int.add_zero _)).trans (h1 1 (by decide)), (((h7 2).trans (den_of (m := (some 2, 0)) (by decide +kernel))).trans (Int.add_zero _)).trans (h1 2 (by decide)), (((h7 3).trans (den_of (m := (some 3, 0)) (by decide +kernel))).trans (Int.add_zero _)).trans (h1 3 (by decide)), fr_ h8 h3 2 2 (by decide +kernel), fr_ h8 h3 4 4 (by decide +kernel), f0, trivial⟩
set_option maxRecDepth 1000000 in
theorem sy_sheet {h : AH} {ρ : Nat → Int} {α : Nat → Int → Int} (S : SD bY gY2 ρ α h) (H : P_ly [] [α 1]) (a0 : Int32) (a1 : Int32) (a2 : Int32) : Ct mX7_sheet 12 0 0 [.ref 0, .int a0, .int a1, .int a2] h (fun v hp' => ∃ z : Int32, v = some (.int z) ∧ hp'.length = gY2.length ∧ ∃ ρ' α', SD bY gY2 ρ' α' hp' ∧ α' 1 = α 1 ∧ α' 2 = α 2 ∧ P_shY [z.toInt, a0.toInt, a1.toInt, a2.toInt, ρ 12, ρ' 12] [α 30, α 31, α 32, α 33, α' 30, α' 31, α' 32, α' 33] ∧ True) := by
  refine Ct_weak (sideS (PT := PT0) (c := c_yo_sheet) (Bs := bY) (g := gY2) (N := mX7_sheet) (n := 3) rfl (by decide) (k_yo_sheet hpl_8) rfl rfl rfl (by decide +kernel) S [a0, a1, a2] rfl (fun _ _ f hf => absurd hf List.not_mem_nil)) (fun v hp' q => ?_)
  obtain ⟨o, ho, r, a, r', a', h1, h2, h3, h4, h5, h6, h7, h8, h9⟩ := q
  cases List.mem_singleton.mp ho
  obtain ⟨z, rfl, hz⟩ := rO_int h4
  have t35 : a 35 = a' 30 := ((h8 30 (by decide +kernel)).trans (congrArg a (by decide +kernel))).symm
  have t36 : a 36 = a' 31 := ((h8 31 (by decide +kernel)).trans (congrArg a (by decide +kernel))).symm
  have t37 : a 37 = a' 32 := ((h8 32 (by decide +kernel)).trans (congrArg a (by decide +kernel))).symm
  have t38 : a 38 = a' 33 := ((h8 33 (by decide +kernel)).trans (congrArg a (by decide +kernel))).symm
  have q17 : r 17 = r' 12 := (((h7 12).trans (den_of (m := (some 17, 0)) (by decide +kernel))).trans (Int.add_zero _)).symm
  have q13 : r 13 = a0.toInt := h2 0 (by decide)
  have q14 : r 14 = a1.toInt := h2 1 (by decide)
  have q15 : r 15 = a2.toInt := h2 2 (by decide)
  have q12 : r 12 = ρ 12 := h1 12 (by decide)
  have t30 : a 30 = α 30 := h3 30 (by decide +kernel)
  have t31 : a 31 = α 31 := h3 31 (by decide +kernel)
  have t32 : a 32 = α 32 := h3 32 (by decide +kernel)
  have t33 : a 33 = α 33 := h3 33 (by decide +kernel)
  have q16 : r 16 = z.toInt := (hz.trans (Int.add_zero _)).symm
  have f0 := h9 _ (List.Mem.head _)
  rw [hFp_126, show PT0 126 = P_shY from rfl] at f0
  simp only [List.map_cons, List.map_nil, den_s, den_c, Int.add_zero, q12, q13, q14, q15, q16, q17, t30, t31, t32, t33, t35, t36, t37, t38] at f0
  exact ⟨z, rfl, h5, r', a', h6, fr_ h8 h3 1 1 (by decide +kernel), fr_ h8 h3 2 2 (by decide +kernel), f0, trivial⟩
set_option maxRecDepth 1000000 in
theorem sx_lose {h : AH} {ρ : Nat → Int} {α : Nat → Int → Int} (S : SD bT (gX 999) ρ α h) (H : True) (a0 : Int32) : Ct mX6_lose 12 0 0 [.ref 0, .int a0] h (fun v hp' => ∃ z : Int32, v = some (.int z) ∧ hp'.length = (gX 999).length ∧ ∃ ρ' α', SD bT (gX 999) ρ' α' hp' ∧ ρ' 0 = ρ 0 ∧ ρ' 1 = ρ 1 ∧ ρ' 2 = ρ 2 ∧ ρ' 3 = ρ 3 ∧ α' 2 = α 2 ∧ α' 4 = α 4 ∧ α' 45 = α 45 ∧ P_loX [z.toInt, a0.toInt, ρ 13, ρ' 13] [α 45, α 46, α' 46] ∧ True) := by
  refine Ct_weak (sideS (PT := PT0) (c := c_xo_lose) (Bs := bT) (g := (gX 999)) (N := mX6_lose) (n := 1) rfl (by decide) (k_xo_lose hpl_8) rfl rfl rfl (by decide +kernel) S [a0] rfl (fun _ _ f hf => absurd hf List.not_mem_nil)) (fun v hp' q => ?_)
  obtain ⟨o, ho, r, a, r', a', h1, h2, h3, h4, h5, h6, h7, h8, h9⟩ := q
  cases List.mem_singleton.mp ho
  obtain ⟨z, rfl, hz⟩ := rO_int h4
  have t58 : a 58 = a' 46 := ((h8 46 (by decide +kernel)).trans (congrArg a (by decide +kernel))).symm
  have q16 : r 16 = r' 13 := (((h7 13).trans (den_of (m := (some 16, 0)) (by decide +kernel))).trans (Int.add_zero _)).symm
  have q14 : r 14 = a0.toInt := h2 0 (by decide)
  have q13 : r 13 = ρ 13 := h1 13 (by decide)
  have t45 : a 45 = α 45 := h3 45 (by decide +kernel)
  have t46 : a 46 = α 46 := h3 46 (by decide +kernel)
  have q15 : r 15 = z.toInt := (hz.trans (Int.add_zero _)).symm
  have f0 := h9 _ (List.Mem.head _)
  rw [hFp_129, show PT0 129 = P_loX from rfl] at f0
  simp only [List.map_cons, List.map_nil, den_s, den_c, Int.add_zero, q13, q14, q15, q16, t45, t46, t58] at f0
  exact ⟨z, rfl, h5, r', a', h6, (((h7 0).trans (den_of (m := (some 0, 0)) (by decide +kernel))).trans (Int.add_zero _)).trans (h1 0 (by decide)), (((h7 1).trans (den_of (m := (some 1, 0)) (by decide +kernel))).trans (Int.add_zero _)).trans (h1 1 (by decide)), (((h7 2).trans (den_of (m := (some 2, 0)) (by decide +kernel))).trans (Int.add_zero _)).trans (h1 2 (by decide)), (((h7 3).trans (den_of (m := (some 3, 0)) (by decide +kernel))).trans (Int.add_zero _)).trans (h1 3 (by decide)), fr_ h8 h3 2 2 (by decide +kernel), fr_ h8 h3 4 4 (by decide +kernel), fr_ h8 h3 45 45 (by decide +kernel), f0, trivial⟩
set_option maxRecDepth 1000000 in
theorem sy_lose {h : AH} {ρ : Nat → Int} {α : Nat → Int → Int} (S : SD bY gY2 ρ α h) (H : P_ly [] [α 1]) (a0 : Int32) : Ct mX7_lose 12 0 0 [.ref 0, .int a0] h (fun v hp' => ∃ z : Int32, v = some (.int z) ∧ hp'.length = gY2.length ∧ ∃ ρ' α', SD bY gY2 ρ' α' hp' ∧ α' 1 = α 1 ∧ α' 2 = α 2 ∧ α' 31 = α 31 ∧ α' 32 = α 32 ∧ P_loY [z.toInt, a0.toInt, ρ 12, ρ' 12] [α 30, α 32, α' 30] ∧ True) := by
  refine Ct_weak (sideS (PT := PT0) (c := c_yo_lose) (Bs := bY) (g := gY2) (N := mX7_lose) (n := 1) rfl (by decide) (k_yo_lose hpl_8) rfl rfl rfl (by decide +kernel) S [a0] rfl (fun _ _ f hf => absurd hf List.not_mem_nil)) (fun v hp' q => ?_)
  obtain ⟨o, ho, r, a, r', a', h1, h2, h3, h4, h5, h6, h7, h8, h9⟩ := q
  cases List.mem_singleton.mp ho
  obtain ⟨z, rfl, hz⟩ := rO_int h4
  have t35 : a 35 = a' 30 := ((h8 30 (by decide +kernel)).trans (congrArg a (by decide +kernel))).symm
  have q15 : r 15 = r' 12 := (((h7 12).trans (den_of (m := (some 15, 0)) (by decide +kernel))).trans (Int.add_zero _)).symm
  have q13 : r 13 = a0.toInt := h2 0 (by decide)
  have q12 : r 12 = ρ 12 := h1 12 (by decide)
  have t30 : a 30 = α 30 := h3 30 (by decide +kernel)
  have t32 : a 32 = α 32 := h3 32 (by decide +kernel)
  have q14 : r 14 = z.toInt := (hz.trans (Int.add_zero _)).symm
  have f0 := h9 _ (List.Mem.head _)
  rw [hFp_130, show PT0 130 = P_loY from rfl] at f0
  simp only [List.map_cons, List.map_nil, den_s, den_c, Int.add_zero, q12, q13, q14, q15, t30, t32, t35] at f0
  exact ⟨z, rfl, h5, r', a', h6, fr_ h8 h3 1 1 (by decide +kernel), fr_ h8 h3 2 2 (by decide +kernel), fr_ h8 h3 31 31 (by decide +kernel), fr_ h8 h3 32 32 (by decide +kernel), f0, trivial⟩
set_option maxRecDepth 1000000 in
theorem sx_put {h : AH} {ρ : Nat → Int} {α : Nat → Int → Int} (S : SD bT (gX 999) ρ α h) (H : True) (a0 : Int32) (a1 : Int32) (a2 : Int32) (a3 : Int32) : Ct mX6_put 12 0 0 [.ref 0, .int a0, .int a1, .int a2, .int a3] h (fun v hp' => ∃ z : Int32, v = some (.int z) ∧ hp'.length = (gX 999).length ∧ ∃ ρ' α', SD bT (gX 999) ρ' α' hp' ∧ ρ' 0 = ρ 0 ∧ ρ' 1 = ρ 1 ∧ ρ' 2 = ρ 2 ∧ ρ' 3 = ρ 3 ∧ α' 2 = α 2 ∧ α' 4 = α 4 ∧ α' 45 = α 45 ∧ α' 46 = α 46 ∧ P_puX [z.toInt, a0.toInt, a1.toInt, a2.toInt, a3.toInt, ρ 13, ρ' 13] [α 45, α 46, α 41, α 42, α 43, α 44, α' 41, α' 42, α' 43, α' 44] ∧ True) := by
  refine Ct_weak (sideS (PT := PT0) (c := c_xo_put) (Bs := bT) (g := (gX 999)) (N := mX6_put) (n := 4) rfl (by decide) (k_xo_put hpl_8) rfl rfl rfl (by decide +kernel) S [a0, a1, a2, a3] rfl (fun _ _ f hf => absurd hf List.not_mem_nil)) (fun v hp' q => ?_)
  obtain ⟨o, ho, r, a, r', a', h1, h2, h3, h4, h5, h6, h7, h8, h9⟩ := q
  cases List.mem_singleton.mp ho
  obtain ⟨z, rfl, hz⟩ := rO_int h4
  have t58 : a 58 = a' 41 := ((h8 41 (by decide +kernel)).trans (congrArg a (by decide +kernel))).symm
  have t59 : a 59 = a' 42 := ((h8 42 (by decide +kernel)).trans (congrArg a (by decide +kernel))).symm
  have t60 : a 60 = a' 43 := ((h8 43 (by decide +kernel)).trans (congrArg a (by decide +kernel))).symm
  have t61 : a 61 = a' 44 := ((h8 44 (by decide +kernel)).trans (congrArg a (by decide +kernel))).symm
  have q19 : r 19 = r' 13 := (((h7 13).trans (den_of (m := (some 19, 0)) (by decide +kernel))).trans (Int.add_zero _)).symm
  have q14 : r 14 = a0.toInt := h2 0 (by decide)
  have q15 : r 15 = a1.toInt := h2 1 (by decide)
  have q16 : r 16 = a2.toInt := h2 2 (by decide)
  have q17 : r 17 = a3.toInt := h2 3 (by decide)
  have q13 : r 13 = ρ 13 := h1 13 (by decide)
  have t41 : a 41 = α 41 := h3 41 (by decide +kernel)
  have t42 : a 42 = α 42 := h3 42 (by decide +kernel)
  have t43 : a 43 = α 43 := h3 43 (by decide +kernel)
  have t44 : a 44 = α 44 := h3 44 (by decide +kernel)
  have t45 : a 45 = α 45 := h3 45 (by decide +kernel)
  have t46 : a 46 = α 46 := h3 46 (by decide +kernel)
  have q18 : r 18 = z.toInt := (hz.trans (Int.add_zero _)).symm
  have f0 := h9 _ (List.Mem.head _)
  rw [hFp_131, show PT0 131 = P_puX from rfl] at f0
  simp only [List.map_cons, List.map_nil, den_s, den_c, Int.add_zero, q13, q14, q15, q16, q17, q18, q19, t41, t42, t43, t44, t45, t46, t58, t59, t60, t61] at f0
  exact ⟨z, rfl, h5, r', a', h6, (((h7 0).trans (den_of (m := (some 0, 0)) (by decide +kernel))).trans (Int.add_zero _)).trans (h1 0 (by decide)), (((h7 1).trans (den_of (m := (some 1, 0)) (by decide +kernel))).trans (Int.add_zero _)).trans (h1 1 (by decide)), (((h7 2).trans (den_of (m := (some 2, 0)) (by decide +kernel))).trans (Int.add_zero _)).trans (h1 2 (by decide)), (((h7 3).trans (den_of (m := (some 3, 0)) (by decide +kernel))).trans (Int.add_zero _)).trans (h1 3 (by decide)), fr_ h8 h3 2 2 (by decide +kernel), fr_ h8 h3 4 4 (by decide +kernel), fr_ h8 h3 45 45 (by decide +kernel), fr_ h8 h3 46 46 (by decide +kernel), f0, trivial⟩
set_option maxRecDepth 1000000 in
theorem sy_put {h : AH} {ρ : Nat → Int} {α : Nat → Int → Int} (S : SD bY gY2 ρ α h) (H : P_ly [] [α 1]) (a0 : Int32) (a1 : Int32) (a2 : Int32) (a3 : Int32) : Ct mX7_put 12 0 0 [.ref 0, .int a0, .int a1, .int a2, .int a3] h (fun v hp' => ∃ z : Int32, v = some (.int z) ∧ hp'.length = gY2.length ∧ ∃ ρ' α', SD bY gY2 ρ' α' hp' ∧ α' 1 = α 1 ∧ α' 2 = α 2 ∧ α' 30 = α 30 ∧ α' 31 = α 31 ∧ α' 32 = α 32 ∧ P_puY [z.toInt, a0.toInt, a1.toInt, a2.toInt, a3.toInt, ρ 12, ρ' 12] [α 30, α 31, α 32, α 33, α' 33] ∧ True) := by
  refine Ct_weak (sideS (PT := PT0) (c := c_yo_put) (Bs := bY) (g := gY2) (N := mX7_put) (n := 4) rfl (by decide) (k_yo_put hpl_8) rfl rfl rfl (by decide +kernel) S [a0, a1, a2, a3] rfl (fun _ _ f hf => absurd hf List.not_mem_nil)) (fun v hp' q => ?_)
  obtain ⟨o, ho, r, a, r', a', h1, h2, h3, h4, h5, h6, h7, h8, h9⟩ := q
  cases List.mem_singleton.mp ho
  obtain ⟨z, rfl, hz⟩ := rO_int h4
  have t35 : a 35 = a' 33 := ((h8 33 (by decide +kernel)).trans (congrArg a (by decide +kernel))).symm
  have q18 : r 18 = r' 12 := (((h7 12).trans (den_of (m := (some 18, 0)) (by decide +kernel))).trans (Int.add_zero _)).symm
  have q13 : r 13 = a0.toInt := h2 0 (by decide)
  have q14 : r 14 = a1.toInt := h2 1 (by decide)
  have q15 : r 15 = a2.toInt := h2 2 (by decide)
  have q16 : r 16 = a3.toInt := h2 3 (by decide)
  have q12 : r 12 = ρ 12 := h1 12 (by decide)
  have t30 : a 30 = α 30 := h3 30 (by decide +kernel)
  have t31 : a 31 = α 31 := h3 31 (by decide +kernel)
  have t32 : a 32 = α 32 := h3 32 (by decide +kernel)
  have t33 : a 33 = α 33 := h3 33 (by decide +kernel)
  have q17 : r 17 = z.toInt := (hz.trans (Int.add_zero _)).symm
  have f0 := h9 _ (List.Mem.head _)
  rw [hFp_132, show PT0 132 = P_puY from rfl] at f0
  simp only [List.map_cons, List.map_nil, den_s, den_c, Int.add_zero, q12, q13, q14, q15, q16, q17, q18, t30, t31, t32, t33, t35] at f0
  exact ⟨z, rfl, h5, r', a', h6, fr_ h8 h3 1 1 (by decide +kernel), fr_ h8 h3 2 2 (by decide +kernel), fr_ h8 h3 30 30 (by decide +kernel), fr_ h8 h3 31 31 (by decide +kernel), fr_ h8 h3 32 32 (by decide +kernel), f0, trivial⟩
set_option maxRecDepth 1000000 in
theorem sx_get {h : AH} {ρ : Nat → Int} {α : Nat → Int → Int} (S : SD bT (gX 999) ρ α h) (H : True) (a0 : Int32) (a1 : Int32) (a2 : Int32) : Ct mX6_get 12 0 0 [.ref 0, .int a0, .int a1, .int a2] h (fun v hp' => ∃ z : Int32, v = some (.int z) ∧ hp'.length = (gX 999).length ∧ ∃ ρ' α', SD bT (gX 999) ρ' α' hp' ∧ ρ' 0 = ρ 0 ∧ ρ' 1 = ρ 1 ∧ ρ' 2 = ρ 2 ∧ ρ' 3 = ρ 3 ∧ α' 2 = α 2 ∧ α' 4 = α 4 ∧ α' 45 = α 45 ∧ α' 46 = α 46 ∧ True) := by
  refine Ct_weak (sideS (PT := PT0) (c := c_xo_get) (Bs := bT) (g := (gX 999)) (N := mX6_get) (n := 3) rfl (by decide) (k_xo_get hpl_8) rfl rfl rfl (by decide +kernel) S [a0, a1, a2] rfl (fun _ _ f hf => absurd hf List.not_mem_nil)) (fun v hp' q => ?_)
  obtain ⟨o, ho, r, a, r', a', h1, h2, h3, h4, h5, h6, h7, h8, h9⟩ := q
  cases List.mem_singleton.mp ho
  obtain ⟨z, rfl, hz⟩ := rO_int h4
  exact ⟨z, rfl, h5, r', a', h6, (((h7 0).trans (den_of (m := (some 0, 0)) (by decide +kernel))).trans (Int.add_zero _)).trans (h1 0 (by decide)), (((h7 1).trans (den_of (m := (some 1, 0)) (by decide +kernel))).trans (Int.add_zero _)).trans (h1 1 (by decide)), (((h7 2).trans (den_of (m := (some 2, 0)) (by decide +kernel))).trans (Int.add_zero _)).trans (h1 2 (by decide)), (((h7 3).trans (den_of (m := (some 3, 0)) (by decide +kernel))).trans (Int.add_zero _)).trans (h1 3 (by decide)), fr_ h8 h3 2 2 (by decide +kernel), fr_ h8 h3 4 4 (by decide +kernel), fr_ h8 h3 45 45 (by decide +kernel), fr_ h8 h3 46 46 (by decide +kernel), trivial⟩
set_option maxRecDepth 1000000 in
theorem sy_get {h : AH} {ρ : Nat → Int} {α : Nat → Int → Int} (S : SD bY gY2 ρ α h) (H : P_ly [] [α 1]) (a0 : Int32) (a1 : Int32) (a2 : Int32) : Ct mX7_get 12 0 0 [.ref 0, .int a0, .int a1, .int a2] h (fun v hp' => ∃ z : Int32, v = some (.int z) ∧ hp'.length = gY2.length ∧ ∃ ρ' α', SD bY gY2 ρ' α' hp' ∧ α' 1 = α 1 ∧ α' 2 = α 2 ∧ α' 30 = α 30 ∧ α' 31 = α 31 ∧ α' 32 = α 32 ∧ True) := by
  refine Ct_weak (sideS (PT := PT0) (c := c_yo_get) (Bs := bY) (g := gY2) (N := mX7_get) (n := 3) rfl (by decide) (k_yo_get hpl_8) rfl rfl rfl (by decide +kernel) S [a0, a1, a2] rfl (fun _ _ f hf => absurd hf List.not_mem_nil)) (fun v hp' q => ?_)
  obtain ⟨o, ho, r, a, r', a', h1, h2, h3, h4, h5, h6, h7, h8, h9⟩ := q
  cases List.mem_singleton.mp ho
  obtain ⟨z, rfl, hz⟩ := rO_int h4
  exact ⟨z, rfl, h5, r', a', h6, fr_ h8 h3 1 1 (by decide +kernel), fr_ h8 h3 2 2 (by decide +kernel), fr_ h8 h3 30 30 (by decide +kernel), fr_ h8 h3 31 31 (by decide +kernel), fr_ h8 h3 32 32 (by decide +kernel), trivial⟩
set_option maxRecDepth 1000000 in
theorem sx_copy {h : AH} {ρ : Nat → Int} {α : Nat → Int → Int} (S : SD bT (gX 999) ρ α h) (H : True) (a0 : Int32) (a1 : Int32) (a2 : Int32) (a3 : Int32) (a4 : Int32) : Ct mX6_copy 12 0 0 [.ref 0, .int a0, .int a1, .int a2, .int a3, .int a4] h (fun v hp' => ∃ z : Int32, v = some (.int z) ∧ hp'.length = (gX 999).length ∧ ∃ ρ' α', SD bT (gX 999) ρ' α' hp' ∧ ρ' 0 = ρ 0 ∧ ρ' 1 = ρ 1 ∧ ρ' 2 = ρ 2 ∧ ρ' 3 = ρ 3 ∧ α' 2 = α 2 ∧ α' 4 = α 4 ∧ α' 45 = α 45 ∧ α' 46 = α 46 ∧ P_cpX [z.toInt, a0.toInt, a1.toInt, a2.toInt, a3.toInt, a4.toInt, ρ 13, ρ' 13] [α 45, α 46, α 41, α 42, α 43, α 44, α' 41, α' 42, α' 43, α' 44] ∧ True) := by
  refine Ct_weak (sideS (PT := PT0) (c := c_xo_copy) (Bs := bT) (g := (gX 999)) (N := mX6_copy) (n := 5) rfl (by decide) (k_xo_copy hpl_9) rfl rfl rfl (by decide +kernel) S [a0, a1, a2, a3, a4] rfl (fun _ _ f hf => absurd hf List.not_mem_nil)) (fun v hp' q => ?_)
  obtain ⟨o, ho, r, a, r', a', h1, h2, h3, h4, h5, h6, h7, h8, h9⟩ := q
  cases List.mem_singleton.mp ho
  obtain ⟨z, rfl, hz⟩ := rO_int h4
  have t58 : a 58 = a' 41 := ((h8 41 (by decide +kernel)).trans (congrArg a (by decide +kernel))).symm
  have t59 : a 59 = a' 42 := ((h8 42 (by decide +kernel)).trans (congrArg a (by decide +kernel))).symm
  have t60 : a 60 = a' 43 := ((h8 43 (by decide +kernel)).trans (congrArg a (by decide +kernel))).symm
  have t61 : a 61 = a' 44 := ((h8 44 (by decide +kernel)).trans (congrArg a (by decide +kernel))).symm
  have q20 : r 20 = r' 13 := (((h7 13).trans (den_of (m := (some 20, 0)) (by decide +kernel))).trans (Int.add_zero _)).symm
  have q14 : r 14 = a0.toInt := h2 0 (by decide)
  have q15 : r 15 = a1.toInt := h2 1 (by decide)
  have q16 : r 16 = a2.toInt := h2 2 (by decide)
  have q17 : r 17 = a3.toInt := h2 3 (by decide)
  have q18 : r 18 = a4.toInt := h2 4 (by decide)
  have q13 : r 13 = ρ 13 := h1 13 (by decide)
  have t41 : a 41 = α 41 := h3 41 (by decide +kernel)
  have t42 : a 42 = α 42 := h3 42 (by decide +kernel)
  have t43 : a 43 = α 43 := h3 43 (by decide +kernel)
  have t44 : a 44 = α 44 := h3 44 (by decide +kernel)
  have t45 : a 45 = α 45 := h3 45 (by decide +kernel)
  have t46 : a 46 = α 46 := h3 46 (by decide +kernel)
  have q19 : r 19 = z.toInt := (hz.trans (Int.add_zero _)).symm
  have f0 := h9 _ (List.Mem.head _)
  rw [hFp_135, show PT0 135 = P_cpX from rfl] at f0
  simp only [List.map_cons, List.map_nil, den_s, den_c, Int.add_zero, q13, q14, q15, q16, q17, q18, q19, q20, t41, t42, t43, t44, t45, t46, t58, t59, t60, t61] at f0
  exact ⟨z, rfl, h5, r', a', h6, (((h7 0).trans (den_of (m := (some 0, 0)) (by decide +kernel))).trans (Int.add_zero _)).trans (h1 0 (by decide)), (((h7 1).trans (den_of (m := (some 1, 0)) (by decide +kernel))).trans (Int.add_zero _)).trans (h1 1 (by decide)), (((h7 2).trans (den_of (m := (some 2, 0)) (by decide +kernel))).trans (Int.add_zero _)).trans (h1 2 (by decide)), (((h7 3).trans (den_of (m := (some 3, 0)) (by decide +kernel))).trans (Int.add_zero _)).trans (h1 3 (by decide)), fr_ h8 h3 2 2 (by decide +kernel), fr_ h8 h3 4 4 (by decide +kernel), fr_ h8 h3 45 45 (by decide +kernel), fr_ h8 h3 46 46 (by decide +kernel), f0, trivial⟩
set_option maxRecDepth 1000000 in
theorem sy_copy {h : AH} {ρ : Nat → Int} {α : Nat → Int → Int} (S : SD bY gY2 ρ α h) (H : P_ly [] [α 1]) (a0 : Int32) (a1 : Int32) (a2 : Int32) (a3 : Int32) (a4 : Int32) : Ct mX7_copy 12 0 0 [.ref 0, .int a0, .int a1, .int a2, .int a3, .int a4] h (fun v hp' => ∃ z : Int32, v = some (.int z) ∧ hp'.length = gY2.length ∧ ∃ ρ' α', SD bY gY2 ρ' α' hp' ∧ α' 1 = α 1 ∧ α' 2 = α 2 ∧ α' 30 = α 30 ∧ α' 31 = α 31 ∧ α' 32 = α 32 ∧ P_cpY [z.toInt, a0.toInt, a1.toInt, a2.toInt, a3.toInt, a4.toInt, ρ 12, ρ' 12] [α 30, α 31, α 32, α 33, α' 33] ∧ True) := by
  refine Ct_weak (sideS (PT := PT0) (c := c_yo_copy) (Bs := bY) (g := gY2) (N := mX7_copy) (n := 5) rfl (by decide) (k_yo_copy hpl_9) rfl rfl rfl (by decide +kernel) S [a0, a1, a2, a3, a4] rfl (fun _ _ f hf => absurd hf List.not_mem_nil)) (fun v hp' q => ?_)
  obtain ⟨o, ho, r, a, r', a', h1, h2, h3, h4, h5, h6, h7, h8, h9⟩ := q
  cases List.mem_singleton.mp ho
  obtain ⟨z, rfl, hz⟩ := rO_int h4
  have t35 : a 35 = a' 33 := ((h8 33 (by decide +kernel)).trans (congrArg a (by decide +kernel))).symm
  have q19 : r 19 = r' 12 := (((h7 12).trans (den_of (m := (some 19, 0)) (by decide +kernel))).trans (Int.add_zero _)).symm
  have q13 : r 13 = a0.toInt := h2 0 (by decide)
  have q14 : r 14 = a1.toInt := h2 1 (by decide)
  have q15 : r 15 = a2.toInt := h2 2 (by decide)
  have q16 : r 16 = a3.toInt := h2 3 (by decide)
  have q17 : r 17 = a4.toInt := h2 4 (by decide)
  have q12 : r 12 = ρ 12 := h1 12 (by decide)
  have t30 : a 30 = α 30 := h3 30 (by decide +kernel)
  have t31 : a 31 = α 31 := h3 31 (by decide +kernel)
  have t32 : a 32 = α 32 := h3 32 (by decide +kernel)
  have t33 : a 33 = α 33 := h3 33 (by decide +kernel)
  have q18 : r 18 = z.toInt := (hz.trans (Int.add_zero _)).symm
  have f0 := h9 _ (List.Mem.head _)
  rw [hFp_136, show PT0 136 = P_cpY from rfl] at f0
  simp only [List.map_cons, List.map_nil, den_s, den_c, Int.add_zero, q12, q13, q14, q15, q16, q17, q18, q19, t30, t31, t32, t33, t35] at f0
  exact ⟨z, rfl, h5, r', a', h6, fr_ h8 h3 1 1 (by decide +kernel), fr_ h8 h3 2 2 (by decide +kernel), fr_ h8 h3 30 30 (by decide +kernel), fr_ h8 h3 31 31 (by decide +kernel), fr_ h8 h3 32 32 (by decide +kernel), f0, trivial⟩
set_option maxRecDepth 1000000 in
theorem sx_write {h : AH} {ρ : Nat → Int} {α : Nat → Int → Int} (S : SD bT (gX 999) ρ α h) (H : True) (a0 : Int32) (a1 : Int32) : Ct mX6_write 12 0 0 [.ref 0, .int a0, .int a1] h (fun v hp' => ∃ z : Int32, v = some (.int z) ∧ hp'.length = (gX 999).length ∧ ∃ ρ' α', SD bT (gX 999) ρ' α' hp' ∧ ρ' 0 = ρ 0 ∧ ρ' 1 = ρ 1 ∧ ρ' 2 = ρ 2 ∧ ρ' 3 = ρ 3 ∧ α' 2 = α 2 ∧ α' 4 = α 4 ∧ α' 45 = α 45 ∧ α' 46 = α 46 ∧ P_wrX [z.toInt, a0.toInt, a1.toInt, ρ 2] [α 45, α 46] ∧ True) := by
  refine Ct_weak (sideS (PT := PT0) (c := c_xo_write) (Bs := bT) (g := (gX 999)) (N := mX6_write) (n := 2) rfl (by decide) (k_xo_write hpl_11) rfl rfl rfl (by decide +kernel) S [a0, a1] rfl (fun _ _ f hf => absurd hf List.not_mem_nil)) (fun v hp' q => ?_)
  obtain ⟨o, ho, r, a, r', a', h1, h2, h3, h4, h5, h6, h7, h8, h9⟩ := q
  cases List.mem_singleton.mp ho
  obtain ⟨z, rfl, hz⟩ := rO_int h4
  have q14 : r 14 = a0.toInt := h2 0 (by decide)
  have q15 : r 15 = a1.toInt := h2 1 (by decide)
  have q2 : r 2 = ρ 2 := h1 2 (by decide)
  have t45 : a 45 = α 45 := h3 45 (by decide +kernel)
  have t46 : a 46 = α 46 := h3 46 (by decide +kernel)
  have q16 : r 16 = z.toInt := (hz.trans (Int.add_zero _)).symm
  have f0 := h9 _ (List.Mem.head _)
  rw [hFp_147, show PT0 147 = P_wrX from rfl] at f0
  simp only [List.map_cons, List.map_nil, den_s, den_c, Int.add_zero, q14, q15, q16, q2, t45, t46] at f0
  exact ⟨z, rfl, h5, r', a', h6, (((h7 0).trans (den_of (m := (some 0, 0)) (by decide +kernel))).trans (Int.add_zero _)).trans (h1 0 (by decide)), (((h7 1).trans (den_of (m := (some 1, 0)) (by decide +kernel))).trans (Int.add_zero _)).trans (h1 1 (by decide)), (((h7 2).trans (den_of (m := (some 2, 0)) (by decide +kernel))).trans (Int.add_zero _)).trans (h1 2 (by decide)), (((h7 3).trans (den_of (m := (some 3, 0)) (by decide +kernel))).trans (Int.add_zero _)).trans (h1 3 (by decide)), fr_ h8 h3 2 2 (by decide +kernel), fr_ h8 h3 4 4 (by decide +kernel), fr_ h8 h3 45 45 (by decide +kernel), fr_ h8 h3 46 46 (by decide +kernel), f0, trivial⟩
set_option maxRecDepth 1000000 in
theorem sy_write {h : AH} {ρ : Nat → Int} {α : Nat → Int → Int} (S : SD bY gY2 ρ α h) (H : P_ly [] [α 1]) (a0 : Int32) (a1 : Int32) : Ct mX7_write 12 0 0 [.ref 0, .int a0, .int a1] h (fun v hp' => ∃ z : Int32, v = some (.int z) ∧ hp'.length = gY2.length ∧ ∃ ρ' α', SD bY gY2 ρ' α' hp' ∧ α' 1 = α 1 ∧ α' 2 = α 2 ∧ α' 30 = α 30 ∧ α' 31 = α 31 ∧ α' 32 = α 32 ∧ P_wrY [z.toInt, a0.toInt, a1.toInt] [α 1, α 2, α 30, α 32] ∧ True) := by
  refine Ct_weak (sideS (PT := PT0) (c := c_yo_write) (Bs := bY) (g := gY2) (N := mX7_write) (n := 2) rfl (by decide) (k_yo_write hpl_11) rfl rfl rfl (by decide +kernel) S [a0, a1] rfl (fun r _ f hf => by cases List.mem_singleton.mp hf; exact Eq.mpr (hFp_78 [] [1]) H)) (fun v hp' q => ?_)
  obtain ⟨o, ho, r, a, r', a', h1, h2, h3, h4, h5, h6, h7, h8, h9⟩ := q
  cases List.mem_singleton.mp ho
  obtain ⟨z, rfl, hz⟩ := rO_int h4
  have q13 : r 13 = a0.toInt := h2 0 (by decide)
  have q14 : r 14 = a1.toInt := h2 1 (by decide)
  have t1 : a 1 = α 1 := h3 1 (by decide +kernel)
  have t2 : a 2 = α 2 := h3 2 (by decide +kernel)
  have t30 : a 30 = α 30 := h3 30 (by decide +kernel)
  have t32 : a 32 = α 32 := h3 32 (by decide +kernel)
  have q15 : r 15 = z.toInt := (hz.trans (Int.add_zero _)).symm
  have f0 := h9 _ (List.Mem.head _)
  rw [hFp_148, show PT0 148 = P_wrY from rfl] at f0
  simp only [List.map_cons, List.map_nil, den_s, den_c, Int.add_zero, q13, q14, q15, t1, t2, t30, t32] at f0
  exact ⟨z, rfl, h5, r', a', h6, fr_ h8 h3 1 1 (by decide +kernel), fr_ h8 h3 2 2 (by decide +kernel), fr_ h8 h3 30 30 (by decide +kernel), fr_ h8 h3 31 31 (by decide +kernel), fr_ h8 h3 32 32 (by decide +kernel), f0, trivial⟩
set_option maxRecDepth 1000000 in
theorem sx_count {h : AH} {ρ : Nat → Int} {α : Nat → Int → Int} (S : SD bT (gX 999) ρ α h) (H : True) (a0 : Int32) : Ct mX6_count 12 0 0 [.ref 0, .int a0] h (fun v hp' => ∃ z : Int32, v = some (.int z) ∧ hp'.length = (gX 999).length ∧ ∃ ρ' α', SD bT (gX 999) ρ' α' hp' ∧ ρ' 0 = ρ 0 ∧ ρ' 1 = ρ 1 ∧ ρ' 2 = ρ 2 ∧ ρ' 3 = ρ 3 ∧ α' 2 = α 2 ∧ α' 4 = α 4 ∧ α' 45 = α 45 ∧ α' 46 = α 46 ∧ True) := by
  refine Ct_weak (sideS (PT := PT0) (c := c_xo_count) (Bs := bT) (g := (gX 999)) (N := mX6_count) (n := 1) rfl (by decide) (k_xo_count hpl_9) rfl rfl rfl (by decide +kernel) S [a0] rfl (fun _ _ f hf => absurd hf List.not_mem_nil)) (fun v hp' q => ?_)
  obtain ⟨o, ho, r, a, r', a', h1, h2, h3, h4, h5, h6, h7, h8, h9⟩ := q
  cases List.mem_singleton.mp ho
  obtain ⟨z, rfl, hz⟩ := rO_int h4
  exact ⟨z, rfl, h5, r', a', h6, (((h7 0).trans (den_of (m := (some 0, 0)) (by decide +kernel))).trans (Int.add_zero _)).trans (h1 0 (by decide)), (((h7 1).trans (den_of (m := (some 1, 0)) (by decide +kernel))).trans (Int.add_zero _)).trans (h1 1 (by decide)), (((h7 2).trans (den_of (m := (some 2, 0)) (by decide +kernel))).trans (Int.add_zero _)).trans (h1 2 (by decide)), (((h7 3).trans (den_of (m := (some 3, 0)) (by decide +kernel))).trans (Int.add_zero _)).trans (h1 3 (by decide)), fr_ h8 h3 2 2 (by decide +kernel), fr_ h8 h3 4 4 (by decide +kernel), fr_ h8 h3 45 45 (by decide +kernel), fr_ h8 h3 46 46 (by decide +kernel), trivial⟩
set_option maxRecDepth 1000000 in
theorem sy_count {h : AH} {ρ : Nat → Int} {α : Nat → Int → Int} (S : SD bY gY2 ρ α h) (H : P_ly [] [α 1]) (a0 : Int32) : Ct mX7_count 12 0 0 [.ref 0, .int a0] h (fun v hp' => ∃ z : Int32, v = some (.int z) ∧ hp'.length = gY2.length ∧ ∃ ρ' α', SD bY gY2 ρ' α' hp' ∧ α' 1 = α 1 ∧ α' 2 = α 2 ∧ α' 30 = α 30 ∧ α' 31 = α 31 ∧ α' 32 = α 32 ∧ True) := by
  refine Ct_weak (sideS (PT := PT0) (c := c_yo_count) (Bs := bY) (g := gY2) (N := mX7_count) (n := 1) rfl (by decide) (k_yo_count hpl_9) rfl rfl rfl (by decide +kernel) S [a0] rfl (fun r _ f hf => by cases List.mem_singleton.mp hf; exact Eq.mpr (hFp_78 [] [1]) H)) (fun v hp' q => ?_)
  obtain ⟨o, ho, r, a, r', a', h1, h2, h3, h4, h5, h6, h7, h8, h9⟩ := q
  cases List.mem_singleton.mp ho
  obtain ⟨z, rfl, hz⟩ := rO_int h4
  exact ⟨z, rfl, h5, r', a', h6, fr_ h8 h3 1 1 (by decide +kernel), fr_ h8 h3 2 2 (by decide +kernel), fr_ h8 h3 30 30 (by decide +kernel), fr_ h8 h3 31 31 (by decide +kernel), fr_ h8 h3 32 32 (by decide +kernel), trivial⟩
set_option maxRecDepth 1000000 in
theorem sx_digest {h : AH} {ρ : Nat → Int} {α : Nat → Int → Int} (S : SD bT (gX 999) ρ α h) (H : True) : Ct mX6_digest 12 0 0 [.ref 0] h (fun v hp' => ∃ z : Int64, v = some (.long z) ∧ hp'.length = (gX 999).length ∧ ∃ ρ' α', SD bT (gX 999) ρ' α' hp' ∧ ρ' 0 = ρ 0 ∧ ρ' 1 = ρ 1 ∧ ρ' 2 = ρ 2 ∧ ρ' 3 = ρ 3 ∧ α' 2 = α 2 ∧ α' 4 = α 4 ∧ α' 45 = α 45 ∧ α' 46 = α 46 ∧ True) := by
  refine Ct_weak (sideS (PT := PT0) (c := c_xf_digest) (Bs := bT) (g := (gX 999)) (N := mX6_digest) (n := 0) rfl (by decide) (k_xf_digest hpl_10) rfl rfl rfl (by decide +kernel) S [] rfl (fun _ _ f hf => absurd hf List.not_mem_nil)) (fun v hp' q => ?_)
  obtain ⟨o, ho, r, a, r', a', h1, h2, h3, h4, h5, h6, h7, h8, h9⟩ := q
  cases List.mem_singleton.mp ho
  obtain ⟨z, rfl⟩ := rO_long h4
  exact ⟨z, rfl, h5, r', a', h6, (((h7 0).trans (den_of (m := (some 0, 0)) (by decide +kernel))).trans (Int.add_zero _)).trans (h1 0 (by decide)), (((h7 1).trans (den_of (m := (some 1, 0)) (by decide +kernel))).trans (Int.add_zero _)).trans (h1 1 (by decide)), (((h7 2).trans (den_of (m := (some 2, 0)) (by decide +kernel))).trans (Int.add_zero _)).trans (h1 2 (by decide)), (((h7 3).trans (den_of (m := (some 3, 0)) (by decide +kernel))).trans (Int.add_zero _)).trans (h1 3 (by decide)), fr_ h8 h3 2 2 (by decide +kernel), fr_ h8 h3 4 4 (by decide +kernel), fr_ h8 h3 45 45 (by decide +kernel), fr_ h8 h3 46 46 (by decide +kernel), trivial⟩
set_option maxRecDepth 1000000 in
theorem sy_digest {h : AH} {ρ : Nat → Int} {α : Nat → Int → Int} (S : SD bY gY2 ρ α h) (H : P_ly [] [α 1]) : Ct mX7_digest 12 0 0 [.ref 0] h (fun v hp' => ∃ z : Int64, v = some (.long z) ∧ hp'.length = gY2.length ∧ ∃ ρ' α', SD bY gY2 ρ' α' hp' ∧ α' 1 = α 1 ∧ α' 2 = α 2 ∧ α' 30 = α 30 ∧ α' 31 = α 31 ∧ α' 32 = α 32 ∧ True) := by
  refine Ct_weak (sideS (PT := PT0) (c := c_yf_digest) (Bs := bY) (g := gY2) (N := mX7_digest) (n := 0) rfl (by decide) (k_yf_digest hpl_10) rfl rfl rfl (by decide +kernel) S [] rfl (fun r _ f hf => by cases List.mem_singleton.mp hf; exact Eq.mpr (hFp_78 [] [1]) H)) (fun v hp' q => ?_)
  obtain ⟨o, ho, r, a, r', a', h1, h2, h3, h4, h5, h6, h7, h8, h9⟩ := q
  cases List.mem_singleton.mp ho
  obtain ⟨z, rfl⟩ := rO_long h4
  exact ⟨z, rfl, h5, r', a', h6, fr_ h8 h3 1 1 (by decide +kernel), fr_ h8 h3 2 2 (by decide +kernel), fr_ h8 h3 30 30 (by decide +kernel), fr_ h8 h3 31 31 (by decide +kernel), fr_ h8 h3 32 32 (by decide +kernel), trivial⟩
