/-! ===== the operations: those told exactly, by leaves; the others by their contracts; printed by wip/gen/ops3.py ===== -/
set_option maxRecDepth 1000000 in
theorem l0_X6_type : lfB (oraL []) 33 43 mX6_type.ml bT (gX 999) [] [((-2147483648), (-1)), ((-2147483648), 2147483647)] (kLf bT (gX 999) [] (none, (-2))) = true := by decide +kernel
set_option maxRecDepth 1000000 in
theorem l1_X7_type : lfB (oraL []) 35 111 mX7_type.ml bY gY [] [((-2147483648), (-1)), ((-2147483648), 2147483647)] (kLf bY gY [] (none, (-2))) = true := by decide +kernel
set_option maxRecDepth 1000000 in
theorem l2_X6_type : lfB (oraL []) 45 43 mX6_type.ml bT (gX 999) [] [(0, 0), ((-2147483648), (-1))] (kLf bT (gX 999) [] (none, (-2))) = true := by decide +kernel
set_option maxRecDepth 1000000 in
theorem l3_X7_type : lfB (oraL []) 49 111 mX7_type.ml bY gY [] [(0, 0), ((-2147483648), (-1))] (kLf bY gY [] (none, (-2))) = true := by decide +kernel
set_option maxRecDepth 1000000 in
theorem l4_X6_type : lfB (oraL [c_X6_takeTexts_0]) 91 43 mX6_type.ml bT (gX 999) [(0, (0, 22))] [(0, 0), (0, 255)] (kLf bT (gX 999) [(0, (some 0, 1))] (some 0, 1)) = true := by decide +kernel
set_option maxRecDepth 1000000 in
theorem l5_X7_type : lfB (oraL []) 85 111 mX7_type.ml bY gY [(0, (0, 22))] [(0, 0), (0, 255)] (kLf bY gY [(0, (some 0, 1))] (some 0, 1)) = true := by decide +kernel
set_option maxRecDepth 1000000 in
theorem l6_X6_type : lfB (oraL []) 68 43 mX6_type.ml bT (gX 999) [(0, (23, 23))] [(0, 0), (0, 255)] (kLf bT (gX 999) [] (none, (-4))) = true := by decide +kernel
set_option maxRecDepth 1000000 in
theorem l7_X7_type : lfB (oraL []) 62 111 mX7_type.ml bY gY [(0, (23, 23))] [(0, 0), (0, 255)] (kLf bY gY [] (none, (-4))) = true := by decide +kernel
set_option maxRecDepth 1000000 in
theorem l8_X6_type : lfB (oraL []) 48 43 mX6_type.ml bT (gX 999) [] [(0, 0), (256, 2147483647)] (kLf bT (gX 999) [] (none, (-2))) = true := by decide +kernel
set_option maxRecDepth 1000000 in
theorem l9_X7_type : lfB (oraL []) 52 111 mX7_type.ml bY gY [] [(0, 0), (256, 2147483647)] (kLf bY gY [] (none, (-2))) = true := by decide +kernel
set_option maxRecDepth 1000000 in
theorem l10_X6_type : lfB (oraL []) 45 43 mX6_type.ml bT (gX 999) [] [(1, 1), ((-2147483648), (-1))] (kLf bT (gX 999) [] (none, (-2))) = true := by decide +kernel
set_option maxRecDepth 1000000 in
theorem l11_X7_type : lfB (oraL []) 49 111 mX7_type.ml bY gY [] [(1, 1), ((-2147483648), (-1))] (kLf bY gY [] (none, (-2))) = true := by decide +kernel
set_option maxRecDepth 1000000 in
theorem l12_X6_type : lfB (oraL [c_X6_takeTexts_0]) 89 43 mX6_type.ml bT (gX 999) [(1, (0, 48))] [(1, 1), (0, 255)] (kLf bT (gX 999) [(1, (some 1, 1))] (some 1, 1)) = true := by decide +kernel
set_option maxRecDepth 1000000 in
theorem l13_X7_type : lfB (oraL []) 84 111 mX7_type.ml bY gY [(1, (0, 48))] [(1, 1), (0, 255)] (kLf bY gY [(1, (some 1, 1))] (some 1, 1)) = true := by decide +kernel
set_option maxRecDepth 1000000 in
theorem l14_X6_type : lfB (oraL []) 67 43 mX6_type.ml bT (gX 999) [(1, (49, 49))] [(1, 1), (0, 255)] (kLf bT (gX 999) [] (none, (-4))) = true := by decide +kernel
set_option maxRecDepth 1000000 in
theorem l15_X7_type : lfB (oraL []) 61 111 mX7_type.ml bY gY [(1, (49, 49))] [(1, 1), (0, 255)] (kLf bY gY [] (none, (-4))) = true := by decide +kernel
set_option maxRecDepth 1000000 in
theorem l16_X6_type : lfB (oraL []) 48 43 mX6_type.ml bT (gX 999) [] [(1, 1), (256, 2147483647)] (kLf bT (gX 999) [] (none, (-2))) = true := by decide +kernel
set_option maxRecDepth 1000000 in
theorem l17_X7_type : lfB (oraL []) 52 111 mX7_type.ml bY gY [] [(1, 1), (256, 2147483647)] (kLf bY gY [] (none, (-2))) = true := by decide +kernel
set_option maxRecDepth 1000000 in
theorem l18_X6_type : lfB (oraL []) 36 43 mX6_type.ml bT (gX 999) [] [(2, 2147483647), ((-2147483648), 2147483647)] (kLf bT (gX 999) [] (none, (-2))) = true := by decide +kernel
set_option maxRecDepth 1000000 in
theorem l19_X7_type : lfB (oraL []) 38 111 mX7_type.ml bY gY [] [(2, 2147483647), ((-2147483648), 2147483647)] (kLf bY gY [] (none, (-2))) = true := by decide +kernel
theorem ex_type {f : Nat → Int} {hx hy : AH} (sX : Sd bT (gX 999) f hx) (sY : Sd bY gY f hy) (a0 : Int32) (a1 : Int32) : ∃ (w : Int32) (f' : Nat → Int), Ct mX6_type 12 0 0 [.ref 0, .int a0, .int a1] hx (fun v hp' => v = some (.int w) ∧ hp'.length = (gX 999).length ∧ Sd bT (gX 999) f' hp') ∧ Ct mX7_type 12 0 0 [.ref 0, .int a0, .int a1] hy (fun v hp' => v = some (.int w) ∧ hp'.length = gY.length ∧ Sd bY gY f' hp') := by
  have l0 := int32_lo a0
  have u0 := int32_hi a0
  have l1 := int32_lo a1
  have u1 := int32_hi a1
  have b0 := Sd_bnd sX (j := 0) (by decide) (b := (0, 23)) rfl
  have b1 := Sd_bnd sX (j := 1) (by decide) (b := (0, 49)) rfl
  have b5 := Sd_bnd sX (j := 5) (by decide) (b := (0, 6)) rfl
  have b6 := Sd_bnd sX (j := 6) (by decide) (b := (0, 6)) rfl
  have b7 := Sd_bnd sX (j := 7) (by decide) (b := (0, 8)) rfl
  simp only at b0 b1 b5 b6 b7
  rcases (show (((-2147483648) : Int) ≤ a0.toInt ∧ a0.toInt ≤ (-1)) ∨ ((0 : Int) ≤ a0.toInt ∧ a0.toInt ≤ 0) ∨ ((1 : Int) ≤ a0.toInt ∧ a0.toInt ≤ 1) ∨ ((2 : Int) ≤ a0.toInt ∧ a0.toInt ≤ 2147483647) by omega) with c | c | c | c
  · exact ⟨_, _, leafK (as := [a0, a1]) (ans := (none, (-2))) (ch := []) (fb := []) (bs := [((-2147483648), (-1)), ((-2147483648), 2147483647)]) (oraL_ok al0) rfl (by decide) (by decide) l0_X6_type sX fbIn0 ⟨⟨by show ((-2147483648) : Int) ≤ a0.toInt; omega, by show a0.toInt ≤ ((-1) : Int); omega⟩, ⟨⟨by show ((-2147483648) : Int) ≤ a1.toInt; omega, by show a1.toInt ≤ (2147483647 : Int); omega⟩, trivial⟩⟩, leafK (as := [a0, a1]) (ans := (none, (-2))) (ch := []) (fb := []) (bs := [((-2147483648), (-1)), ((-2147483648), 2147483647)]) (oraL_ok al0) rfl (by decide) (by decide) l1_X7_type sY fbIn0 ⟨⟨by show ((-2147483648) : Int) ≤ a0.toInt; omega, by show a0.toInt ≤ ((-1) : Int); omega⟩, ⟨⟨by show ((-2147483648) : Int) ≤ a1.toInt; omega, by show a1.toInt ≤ (2147483647 : Int); omega⟩, trivial⟩⟩⟩
  · rcases (show (((-2147483648) : Int) ≤ a1.toInt ∧ a1.toInt ≤ (-1)) ∨ ((0 : Int) ≤ a1.toInt ∧ a1.toInt ≤ 255) ∨ ((256 : Int) ≤ a1.toInt ∧ a1.toInt ≤ 2147483647) by omega) with c | c | c
    · exact ⟨_, _, leafK (as := [a0, a1]) (ans := (none, (-2))) (ch := []) (fb := []) (bs := [(0, 0), ((-2147483648), (-1))]) (oraL_ok al0) rfl (by decide) (by decide) l2_X6_type sX fbIn0 ⟨⟨by show (0 : Int) ≤ a0.toInt; omega, by show a0.toInt ≤ (0 : Int); omega⟩, ⟨⟨by show ((-2147483648) : Int) ≤ a1.toInt; omega, by show a1.toInt ≤ ((-1) : Int); omega⟩, trivial⟩⟩, leafK (as := [a0, a1]) (ans := (none, (-2))) (ch := []) (fb := []) (bs := [(0, 0), ((-2147483648), (-1))]) (oraL_ok al0) rfl (by decide) (by decide) l3_X7_type sY fbIn0 ⟨⟨by show (0 : Int) ≤ a0.toInt; omega, by show a0.toInt ≤ (0 : Int); omega⟩, ⟨⟨by show ((-2147483648) : Int) ≤ a1.toInt; omega, by show a1.toInt ≤ ((-1) : Int); omega⟩, trivial⟩⟩⟩
    · rcases (show ((0 : Int) ≤ f 0 ∧ f 0 ≤ 22) ∨ ((23 : Int) ≤ f 0 ∧ f 0 ≤ 23) by omega) with c | c
      · exact ⟨_, _, leafK (as := [a0, a1]) (ans := (some 0, 1)) (ch := [(0, (some 0, 1))]) (fb := [(0, (0, 22))]) (bs := [(0, 0), (0, 255)]) (oraL_ok (al k_X6_takeTexts_0 al0)) rfl (by decide) (by decide) l4_X6_type sX (fbIn1 (by omega) (by omega)) ⟨⟨by show (0 : Int) ≤ a0.toInt; omega, by show a0.toInt ≤ (0 : Int); omega⟩, ⟨⟨by show (0 : Int) ≤ a1.toInt; omega, by show a1.toInt ≤ (255 : Int); omega⟩, trivial⟩⟩, leafK (as := [a0, a1]) (ans := (some 0, 1)) (ch := [(0, (some 0, 1))]) (fb := [(0, (0, 22))]) (bs := [(0, 0), (0, 255)]) (oraL_ok al0) rfl (by decide) (by decide) l5_X7_type sY (fbIn1 (by omega) (by omega)) ⟨⟨by show (0 : Int) ≤ a0.toInt; omega, by show a0.toInt ≤ (0 : Int); omega⟩, ⟨⟨by show (0 : Int) ≤ a1.toInt; omega, by show a1.toInt ≤ (255 : Int); omega⟩, trivial⟩⟩⟩
      · exact ⟨_, _, leafK (as := [a0, a1]) (ans := (none, (-4))) (ch := []) (fb := [(0, (23, 23))]) (bs := [(0, 0), (0, 255)]) (oraL_ok al0) rfl (by decide) (by decide) l6_X6_type sX (fbIn1 (by omega) (by omega)) ⟨⟨by show (0 : Int) ≤ a0.toInt; omega, by show a0.toInt ≤ (0 : Int); omega⟩, ⟨⟨by show (0 : Int) ≤ a1.toInt; omega, by show a1.toInt ≤ (255 : Int); omega⟩, trivial⟩⟩, leafK (as := [a0, a1]) (ans := (none, (-4))) (ch := []) (fb := [(0, (23, 23))]) (bs := [(0, 0), (0, 255)]) (oraL_ok al0) rfl (by decide) (by decide) l7_X7_type sY (fbIn1 (by omega) (by omega)) ⟨⟨by show (0 : Int) ≤ a0.toInt; omega, by show a0.toInt ≤ (0 : Int); omega⟩, ⟨⟨by show (0 : Int) ≤ a1.toInt; omega, by show a1.toInt ≤ (255 : Int); omega⟩, trivial⟩⟩⟩
    · exact ⟨_, _, leafK (as := [a0, a1]) (ans := (none, (-2))) (ch := []) (fb := []) (bs := [(0, 0), (256, 2147483647)]) (oraL_ok al0) rfl (by decide) (by decide) l8_X6_type sX fbIn0 ⟨⟨by show (0 : Int) ≤ a0.toInt; omega, by show a0.toInt ≤ (0 : Int); omega⟩, ⟨⟨by show (256 : Int) ≤ a1.toInt; omega, by show a1.toInt ≤ (2147483647 : Int); omega⟩, trivial⟩⟩, leafK (as := [a0, a1]) (ans := (none, (-2))) (ch := []) (fb := []) (bs := [(0, 0), (256, 2147483647)]) (oraL_ok al0) rfl (by decide) (by decide) l9_X7_type sY fbIn0 ⟨⟨by show (0 : Int) ≤ a0.toInt; omega, by show a0.toInt ≤ (0 : Int); omega⟩, ⟨⟨by show (256 : Int) ≤ a1.toInt; omega, by show a1.toInt ≤ (2147483647 : Int); omega⟩, trivial⟩⟩⟩
  · rcases (show (((-2147483648) : Int) ≤ a1.toInt ∧ a1.toInt ≤ (-1)) ∨ ((0 : Int) ≤ a1.toInt ∧ a1.toInt ≤ 255) ∨ ((256 : Int) ≤ a1.toInt ∧ a1.toInt ≤ 2147483647) by omega) with c | c | c
    · exact ⟨_, _, leafK (as := [a0, a1]) (ans := (none, (-2))) (ch := []) (fb := []) (bs := [(1, 1), ((-2147483648), (-1))]) (oraL_ok al0) rfl (by decide) (by decide) l10_X6_type sX fbIn0 ⟨⟨by show (1 : Int) ≤ a0.toInt; omega, by show a0.toInt ≤ (1 : Int); omega⟩, ⟨⟨by show ((-2147483648) : Int) ≤ a1.toInt; omega, by show a1.toInt ≤ ((-1) : Int); omega⟩, trivial⟩⟩, leafK (as := [a0, a1]) (ans := (none, (-2))) (ch := []) (fb := []) (bs := [(1, 1), ((-2147483648), (-1))]) (oraL_ok al0) rfl (by decide) (by decide) l11_X7_type sY fbIn0 ⟨⟨by show (1 : Int) ≤ a0.toInt; omega, by show a0.toInt ≤ (1 : Int); omega⟩, ⟨⟨by show ((-2147483648) : Int) ≤ a1.toInt; omega, by show a1.toInt ≤ ((-1) : Int); omega⟩, trivial⟩⟩⟩
    · rcases (show ((0 : Int) ≤ f 1 ∧ f 1 ≤ 48) ∨ ((49 : Int) ≤ f 1 ∧ f 1 ≤ 49) by omega) with c | c
      · exact ⟨_, _, leafK (as := [a0, a1]) (ans := (some 1, 1)) (ch := [(1, (some 1, 1))]) (fb := [(1, (0, 48))]) (bs := [(1, 1), (0, 255)]) (oraL_ok (al k_X6_takeTexts_0 al0)) rfl (by decide) (by decide) l12_X6_type sX (fbIn1 (by omega) (by omega)) ⟨⟨by show (1 : Int) ≤ a0.toInt; omega, by show a0.toInt ≤ (1 : Int); omega⟩, ⟨⟨by show (0 : Int) ≤ a1.toInt; omega, by show a1.toInt ≤ (255 : Int); omega⟩, trivial⟩⟩, leafK (as := [a0, a1]) (ans := (some 1, 1)) (ch := [(1, (some 1, 1))]) (fb := [(1, (0, 48))]) (bs := [(1, 1), (0, 255)]) (oraL_ok al0) rfl (by decide) (by decide) l13_X7_type sY (fbIn1 (by omega) (by omega)) ⟨⟨by show (1 : Int) ≤ a0.toInt; omega, by show a0.toInt ≤ (1 : Int); omega⟩, ⟨⟨by show (0 : Int) ≤ a1.toInt; omega, by show a1.toInt ≤ (255 : Int); omega⟩, trivial⟩⟩⟩
      · exact ⟨_, _, leafK (as := [a0, a1]) (ans := (none, (-4))) (ch := []) (fb := [(1, (49, 49))]) (bs := [(1, 1), (0, 255)]) (oraL_ok al0) rfl (by decide) (by decide) l14_X6_type sX (fbIn1 (by omega) (by omega)) ⟨⟨by show (1 : Int) ≤ a0.toInt; omega, by show a0.toInt ≤ (1 : Int); omega⟩, ⟨⟨by show (0 : Int) ≤ a1.toInt; omega, by show a1.toInt ≤ (255 : Int); omega⟩, trivial⟩⟩, leafK (as := [a0, a1]) (ans := (none, (-4))) (ch := []) (fb := [(1, (49, 49))]) (bs := [(1, 1), (0, 255)]) (oraL_ok al0) rfl (by decide) (by decide) l15_X7_type sY (fbIn1 (by omega) (by omega)) ⟨⟨by show (1 : Int) ≤ a0.toInt; omega, by show a0.toInt ≤ (1 : Int); omega⟩, ⟨⟨by show (0 : Int) ≤ a1.toInt; omega, by show a1.toInt ≤ (255 : Int); omega⟩, trivial⟩⟩⟩
    · exact ⟨_, _, leafK (as := [a0, a1]) (ans := (none, (-2))) (ch := []) (fb := []) (bs := [(1, 1), (256, 2147483647)]) (oraL_ok al0) rfl (by decide) (by decide) l16_X6_type sX fbIn0 ⟨⟨by show (1 : Int) ≤ a0.toInt; omega, by show a0.toInt ≤ (1 : Int); omega⟩, ⟨⟨by show (256 : Int) ≤ a1.toInt; omega, by show a1.toInt ≤ (2147483647 : Int); omega⟩, trivial⟩⟩, leafK (as := [a0, a1]) (ans := (none, (-2))) (ch := []) (fb := []) (bs := [(1, 1), (256, 2147483647)]) (oraL_ok al0) rfl (by decide) (by decide) l17_X7_type sY fbIn0 ⟨⟨by show (1 : Int) ≤ a0.toInt; omega, by show a0.toInt ≤ (1 : Int); omega⟩, ⟨⟨by show (256 : Int) ≤ a1.toInt; omega, by show a1.toInt ≤ (2147483647 : Int); omega⟩, trivial⟩⟩⟩
  · exact ⟨_, _, leafK (as := [a0, a1]) (ans := (none, (-2))) (ch := []) (fb := []) (bs := [(2, 2147483647), ((-2147483648), 2147483647)]) (oraL_ok al0) rfl (by decide) (by decide) l18_X6_type sX fbIn0 ⟨⟨by show (2 : Int) ≤ a0.toInt; omega, by show a0.toInt ≤ (2147483647 : Int); omega⟩, ⟨⟨by show ((-2147483648) : Int) ≤ a1.toInt; omega, by show a1.toInt ≤ (2147483647 : Int); omega⟩, trivial⟩⟩, leafK (as := [a0, a1]) (ans := (none, (-2))) (ch := []) (fb := []) (bs := [(2, 2147483647), ((-2147483648), 2147483647)]) (oraL_ok al0) rfl (by decide) (by decide) l19_X7_type sY fbIn0 ⟨⟨by show (2 : Int) ≤ a0.toInt; omega, by show a0.toInt ≤ (2147483647 : Int); omega⟩, ⟨⟨by show ((-2147483648) : Int) ≤ a1.toInt; omega, by show a1.toInt ≤ (2147483647 : Int); omega⟩, trivial⟩⟩⟩
theorem ef_type {f : Nat → Int} {hx hy : AH} (sX : Sd bT (gX 999) f hx) (sY : Sd bY gY f hy) (a0 : Int32) (a1 : Int32) : ∃ (f' : Nat → Int), Ct mX6_type 12 0 0 [.ref 0, .int a0, .int a1] hx (fun v hp' => (∃ w, v = some w ∧ kndV false w) ∧ hp'.length = (gX 999).length ∧ Sd bT (gX 999) f' hp') ∧ Ct mX7_type 12 0 0 [.ref 0, .int a0, .int a1] hy (fun v hp' => (∃ w, v = some w ∧ kndV false w) ∧ hp'.length = gY.length ∧ Sd bY gY f' hp') := by
  obtain ⟨w, f', cX, cY⟩ := ex_type sX sY a0 a1
  exact ⟨f', Ct_weak cX (fun v hp' q => ⟨⟨_, q.1, knd_int w⟩, q.2⟩), Ct_weak cY (fun v hp' q => ⟨⟨_, q.1, knd_int w⟩, q.2⟩)⟩
set_option maxRecDepth 1000000 in
theorem l20_X6_wipe : lfB (oraL []) 33 44 mX6_wipe.ml bT (gX 999) [] [((-2147483648), (-1))] (kLf bT (gX 999) [] (none, (-2))) = true := by decide +kernel
set_option maxRecDepth 1000000 in
theorem l21_X7_wipe : lfB (oraL []) 35 112 mX7_wipe.ml bY gY [] [((-2147483648), (-1))] (kLf bY gY [] (none, (-2))) = true := by decide +kernel
set_option maxRecDepth 1000000 in
theorem l22_X6_wipe : lfB (oraL [c_X6_takeTexts_0]) 61 44 mX6_wipe.ml bT (gX 999) [] [(0, 0)] (kLf bT (gX 999) [(0, (none, 0))] (some 0, 0)) = true := by decide +kernel
set_option maxRecDepth 1000000 in
theorem l23_X7_wipe : lfB (oraL []) 49 112 mX7_wipe.ml bY gY [] [(0, 0)] (kLf bY gY [(0, (none, 0))] (some 0, 0)) = true := by decide +kernel
set_option maxRecDepth 1000000 in
theorem l24_X6_wipe : lfB (oraL [c_X6_takeTexts_0]) 59 44 mX6_wipe.ml bT (gX 999) [] [(1, 1)] (kLf bT (gX 999) [(1, (none, 0))] (some 1, 0)) = true := by decide +kernel
set_option maxRecDepth 1000000 in
theorem l25_X7_wipe : lfB (oraL []) 49 112 mX7_wipe.ml bY gY [] [(1, 1)] (kLf bY gY [(1, (none, 0))] (some 1, 0)) = true := by decide +kernel
set_option maxRecDepth 1000000 in
theorem l26_X6_wipe : lfB (oraL []) 36 44 mX6_wipe.ml bT (gX 999) [] [(2, 2147483647)] (kLf bT (gX 999) [] (none, (-2))) = true := by decide +kernel
set_option maxRecDepth 1000000 in
theorem l27_X7_wipe : lfB (oraL []) 38 112 mX7_wipe.ml bY gY [] [(2, 2147483647)] (kLf bY gY [] (none, (-2))) = true := by decide +kernel
theorem ex_wipe {f : Nat → Int} {hx hy : AH} (sX : Sd bT (gX 999) f hx) (sY : Sd bY gY f hy) (a0 : Int32) : ∃ (w : Int32) (f' : Nat → Int), Ct mX6_wipe 12 0 0 [.ref 0, .int a0] hx (fun v hp' => v = some (.int w) ∧ hp'.length = (gX 999).length ∧ Sd bT (gX 999) f' hp') ∧ Ct mX7_wipe 12 0 0 [.ref 0, .int a0] hy (fun v hp' => v = some (.int w) ∧ hp'.length = gY.length ∧ Sd bY gY f' hp') := by
  have l0 := int32_lo a0
  have u0 := int32_hi a0
  have b0 := Sd_bnd sX (j := 0) (by decide) (b := (0, 23)) rfl
  have b1 := Sd_bnd sX (j := 1) (by decide) (b := (0, 49)) rfl
  have b5 := Sd_bnd sX (j := 5) (by decide) (b := (0, 6)) rfl
  have b6 := Sd_bnd sX (j := 6) (by decide) (b := (0, 6)) rfl
  have b7 := Sd_bnd sX (j := 7) (by decide) (b := (0, 8)) rfl
  simp only at b0 b1 b5 b6 b7
  rcases (show (((-2147483648) : Int) ≤ a0.toInt ∧ a0.toInt ≤ (-1)) ∨ ((0 : Int) ≤ a0.toInt ∧ a0.toInt ≤ 0) ∨ ((1 : Int) ≤ a0.toInt ∧ a0.toInt ≤ 1) ∨ ((2 : Int) ≤ a0.toInt ∧ a0.toInt ≤ 2147483647) by omega) with c | c | c | c
  · exact ⟨_, _, leafK (as := [a0]) (ans := (none, (-2))) (ch := []) (fb := []) (bs := [((-2147483648), (-1))]) (oraL_ok al0) rfl (by decide) (by decide) l20_X6_wipe sX fbIn0 ⟨⟨by show ((-2147483648) : Int) ≤ a0.toInt; omega, by show a0.toInt ≤ ((-1) : Int); omega⟩, trivial⟩, leafK (as := [a0]) (ans := (none, (-2))) (ch := []) (fb := []) (bs := [((-2147483648), (-1))]) (oraL_ok al0) rfl (by decide) (by decide) l21_X7_wipe sY fbIn0 ⟨⟨by show ((-2147483648) : Int) ≤ a0.toInt; omega, by show a0.toInt ≤ ((-1) : Int); omega⟩, trivial⟩⟩
  · exact ⟨_, _, leafK (as := [a0]) (ans := (some 0, 0)) (ch := [(0, (none, 0))]) (fb := []) (bs := [(0, 0)]) (oraL_ok (al k_X6_takeTexts_0 al0)) rfl (by decide) (by decide) l22_X6_wipe sX fbIn0 ⟨⟨by show (0 : Int) ≤ a0.toInt; omega, by show a0.toInt ≤ (0 : Int); omega⟩, trivial⟩, leafK (as := [a0]) (ans := (some 0, 0)) (ch := [(0, (none, 0))]) (fb := []) (bs := [(0, 0)]) (oraL_ok al0) rfl (by decide) (by decide) l23_X7_wipe sY fbIn0 ⟨⟨by show (0 : Int) ≤ a0.toInt; omega, by show a0.toInt ≤ (0 : Int); omega⟩, trivial⟩⟩
  · exact ⟨_, _, leafK (as := [a0]) (ans := (some 1, 0)) (ch := [(1, (none, 0))]) (fb := []) (bs := [(1, 1)]) (oraL_ok (al k_X6_takeTexts_0 al0)) rfl (by decide) (by decide) l24_X6_wipe sX fbIn0 ⟨⟨by show (1 : Int) ≤ a0.toInt; omega, by show a0.toInt ≤ (1 : Int); omega⟩, trivial⟩, leafK (as := [a0]) (ans := (some 1, 0)) (ch := [(1, (none, 0))]) (fb := []) (bs := [(1, 1)]) (oraL_ok al0) rfl (by decide) (by decide) l25_X7_wipe sY fbIn0 ⟨⟨by show (1 : Int) ≤ a0.toInt; omega, by show a0.toInt ≤ (1 : Int); omega⟩, trivial⟩⟩
  · exact ⟨_, _, leafK (as := [a0]) (ans := (none, (-2))) (ch := []) (fb := []) (bs := [(2, 2147483647)]) (oraL_ok al0) rfl (by decide) (by decide) l26_X6_wipe sX fbIn0 ⟨⟨by show (2 : Int) ≤ a0.toInt; omega, by show a0.toInt ≤ (2147483647 : Int); omega⟩, trivial⟩, leafK (as := [a0]) (ans := (none, (-2))) (ch := []) (fb := []) (bs := [(2, 2147483647)]) (oraL_ok al0) rfl (by decide) (by decide) l27_X7_wipe sY fbIn0 ⟨⟨by show (2 : Int) ≤ a0.toInt; omega, by show a0.toInt ≤ (2147483647 : Int); omega⟩, trivial⟩⟩
theorem ef_wipe {f : Nat → Int} {hx hy : AH} (sX : Sd bT (gX 999) f hx) (sY : Sd bY gY f hy) (a0 : Int32) : ∃ (f' : Nat → Int), Ct mX6_wipe 12 0 0 [.ref 0, .int a0] hx (fun v hp' => (∃ w, v = some w ∧ kndV false w) ∧ hp'.length = (gX 999).length ∧ Sd bT (gX 999) f' hp') ∧ Ct mX7_wipe 12 0 0 [.ref 0, .int a0] hy (fun v hp' => (∃ w, v = some w ∧ kndV false w) ∧ hp'.length = gY.length ∧ Sd bY gY f' hp') := by
  obtain ⟨w, f', cX, cY⟩ := ex_wipe sX sY a0
  exact ⟨f', Ct_weak cX (fun v hp' q => ⟨⟨_, q.1, knd_int w⟩, q.2⟩), Ct_weak cY (fun v hp' q => ⟨⟨_, q.1, knd_int w⟩, q.2⟩)⟩
set_option maxRecDepth 1000000 in
theorem l28_X6_undo : lfB (oraL []) 33 45 mX6_undo.ml bT (gX 999) [] [((-2147483648), (-1))] (kLf bT (gX 999) [] (none, (-2))) = true := by decide +kernel
set_option maxRecDepth 1000000 in
theorem l29_X7_undo : lfB (oraL []) 35 113 mX7_undo.ml bY gY [] [((-2147483648), (-1))] (kLf bY gY [] (none, (-2))) = true := by decide +kernel
set_option maxRecDepth 1000000 in
theorem l30_X6_undo : lfB (oraL []) 48 45 mX6_undo.ml bT (gX 999) [(0, (0, 0))] [(0, 0)] (kLf bT (gX 999) [] (none, (-3))) = true := by decide +kernel
set_option maxRecDepth 1000000 in
theorem l31_X7_undo : lfB (oraL []) 44 113 mX7_undo.ml bY gY [(0, (0, 0))] [(0, 0)] (kLf bY gY [] (none, (-3))) = true := by decide +kernel
set_option maxRecDepth 1000000 in
theorem l32_X6_undo : lfB (oraL [c_X6_takeTexts_0]) 73 45 mX6_undo.ml bT (gX 999) [(0, (1, 23))] [(0, 0)] (kLf bT (gX 999) [(0, (some 0, (-1)))] (some 0, (-1))) = true := by decide +kernel
set_option maxRecDepth 1000000 in
theorem l33_X7_undo : lfB (oraL []) 55 113 mX7_undo.ml bY gY [(0, (1, 23))] [(0, 0)] (kLf bY gY [(0, (some 0, (-1)))] (some 0, (-1))) = true := by decide +kernel
set_option maxRecDepth 1000000 in
theorem l34_X6_undo : lfB (oraL []) 47 45 mX6_undo.ml bT (gX 999) [(1, (0, 0))] [(1, 1)] (kLf bT (gX 999) [] (none, (-3))) = true := by decide +kernel
set_option maxRecDepth 1000000 in
theorem l35_X7_undo : lfB (oraL []) 44 113 mX7_undo.ml bY gY [(1, (0, 0))] [(1, 1)] (kLf bY gY [] (none, (-3))) = true := by decide +kernel
set_option maxRecDepth 1000000 in
theorem l36_X6_undo : lfB (oraL [c_X6_takeTexts_0]) 70 45 mX6_undo.ml bT (gX 999) [(1, (1, 49))] [(1, 1)] (kLf bT (gX 999) [(1, (some 1, (-1)))] (some 1, (-1))) = true := by decide +kernel
set_option maxRecDepth 1000000 in
theorem l37_X7_undo : lfB (oraL []) 55 113 mX7_undo.ml bY gY [(1, (1, 49))] [(1, 1)] (kLf bY gY [(1, (some 1, (-1)))] (some 1, (-1))) = true := by decide +kernel
set_option maxRecDepth 1000000 in
theorem l38_X6_undo : lfB (oraL []) 36 45 mX6_undo.ml bT (gX 999) [] [(2, 2147483647)] (kLf bT (gX 999) [] (none, (-2))) = true := by decide +kernel
set_option maxRecDepth 1000000 in
theorem l39_X7_undo : lfB (oraL []) 38 113 mX7_undo.ml bY gY [] [(2, 2147483647)] (kLf bY gY [] (none, (-2))) = true := by decide +kernel
theorem ex_undo {f : Nat → Int} {hx hy : AH} (sX : Sd bT (gX 999) f hx) (sY : Sd bY gY f hy) (a0 : Int32) : ∃ (w : Int32) (f' : Nat → Int), Ct mX6_undo 12 0 0 [.ref 0, .int a0] hx (fun v hp' => v = some (.int w) ∧ hp'.length = (gX 999).length ∧ Sd bT (gX 999) f' hp') ∧ Ct mX7_undo 12 0 0 [.ref 0, .int a0] hy (fun v hp' => v = some (.int w) ∧ hp'.length = gY.length ∧ Sd bY gY f' hp') := by
  have l0 := int32_lo a0
  have u0 := int32_hi a0
  have b0 := Sd_bnd sX (j := 0) (by decide) (b := (0, 23)) rfl
  have b1 := Sd_bnd sX (j := 1) (by decide) (b := (0, 49)) rfl
  have b5 := Sd_bnd sX (j := 5) (by decide) (b := (0, 6)) rfl
  have b6 := Sd_bnd sX (j := 6) (by decide) (b := (0, 6)) rfl
  have b7 := Sd_bnd sX (j := 7) (by decide) (b := (0, 8)) rfl
  simp only at b0 b1 b5 b6 b7
  rcases (show (((-2147483648) : Int) ≤ a0.toInt ∧ a0.toInt ≤ (-1)) ∨ ((0 : Int) ≤ a0.toInt ∧ a0.toInt ≤ 0) ∨ ((1 : Int) ≤ a0.toInt ∧ a0.toInt ≤ 1) ∨ ((2 : Int) ≤ a0.toInt ∧ a0.toInt ≤ 2147483647) by omega) with c | c | c | c
  · exact ⟨_, _, leafK (as := [a0]) (ans := (none, (-2))) (ch := []) (fb := []) (bs := [((-2147483648), (-1))]) (oraL_ok al0) rfl (by decide) (by decide) l28_X6_undo sX fbIn0 ⟨⟨by show ((-2147483648) : Int) ≤ a0.toInt; omega, by show a0.toInt ≤ ((-1) : Int); omega⟩, trivial⟩, leafK (as := [a0]) (ans := (none, (-2))) (ch := []) (fb := []) (bs := [((-2147483648), (-1))]) (oraL_ok al0) rfl (by decide) (by decide) l29_X7_undo sY fbIn0 ⟨⟨by show ((-2147483648) : Int) ≤ a0.toInt; omega, by show a0.toInt ≤ ((-1) : Int); omega⟩, trivial⟩⟩
  · rcases (show ((0 : Int) ≤ f 0 ∧ f 0 ≤ 0) ∨ ((1 : Int) ≤ f 0 ∧ f 0 ≤ 23) by omega) with c | c
    · exact ⟨_, _, leafK (as := [a0]) (ans := (none, (-3))) (ch := []) (fb := [(0, (0, 0))]) (bs := [(0, 0)]) (oraL_ok al0) rfl (by decide) (by decide) l30_X6_undo sX (fbIn1 (by omega) (by omega)) ⟨⟨by show (0 : Int) ≤ a0.toInt; omega, by show a0.toInt ≤ (0 : Int); omega⟩, trivial⟩, leafK (as := [a0]) (ans := (none, (-3))) (ch := []) (fb := [(0, (0, 0))]) (bs := [(0, 0)]) (oraL_ok al0) rfl (by decide) (by decide) l31_X7_undo sY (fbIn1 (by omega) (by omega)) ⟨⟨by show (0 : Int) ≤ a0.toInt; omega, by show a0.toInt ≤ (0 : Int); omega⟩, trivial⟩⟩
    · exact ⟨_, _, leafK (as := [a0]) (ans := (some 0, (-1))) (ch := [(0, (some 0, (-1)))]) (fb := [(0, (1, 23))]) (bs := [(0, 0)]) (oraL_ok (al k_X6_takeTexts_0 al0)) rfl (by decide) (by decide) l32_X6_undo sX (fbIn1 (by omega) (by omega)) ⟨⟨by show (0 : Int) ≤ a0.toInt; omega, by show a0.toInt ≤ (0 : Int); omega⟩, trivial⟩, leafK (as := [a0]) (ans := (some 0, (-1))) (ch := [(0, (some 0, (-1)))]) (fb := [(0, (1, 23))]) (bs := [(0, 0)]) (oraL_ok al0) rfl (by decide) (by decide) l33_X7_undo sY (fbIn1 (by omega) (by omega)) ⟨⟨by show (0 : Int) ≤ a0.toInt; omega, by show a0.toInt ≤ (0 : Int); omega⟩, trivial⟩⟩
  · rcases (show ((0 : Int) ≤ f 1 ∧ f 1 ≤ 0) ∨ ((1 : Int) ≤ f 1 ∧ f 1 ≤ 49) by omega) with c | c
    · exact ⟨_, _, leafK (as := [a0]) (ans := (none, (-3))) (ch := []) (fb := [(1, (0, 0))]) (bs := [(1, 1)]) (oraL_ok al0) rfl (by decide) (by decide) l34_X6_undo sX (fbIn1 (by omega) (by omega)) ⟨⟨by show (1 : Int) ≤ a0.toInt; omega, by show a0.toInt ≤ (1 : Int); omega⟩, trivial⟩, leafK (as := [a0]) (ans := (none, (-3))) (ch := []) (fb := [(1, (0, 0))]) (bs := [(1, 1)]) (oraL_ok al0) rfl (by decide) (by decide) l35_X7_undo sY (fbIn1 (by omega) (by omega)) ⟨⟨by show (1 : Int) ≤ a0.toInt; omega, by show a0.toInt ≤ (1 : Int); omega⟩, trivial⟩⟩
    · exact ⟨_, _, leafK (as := [a0]) (ans := (some 1, (-1))) (ch := [(1, (some 1, (-1)))]) (fb := [(1, (1, 49))]) (bs := [(1, 1)]) (oraL_ok (al k_X6_takeTexts_0 al0)) rfl (by decide) (by decide) l36_X6_undo sX (fbIn1 (by omega) (by omega)) ⟨⟨by show (1 : Int) ≤ a0.toInt; omega, by show a0.toInt ≤ (1 : Int); omega⟩, trivial⟩, leafK (as := [a0]) (ans := (some 1, (-1))) (ch := [(1, (some 1, (-1)))]) (fb := [(1, (1, 49))]) (bs := [(1, 1)]) (oraL_ok al0) rfl (by decide) (by decide) l37_X7_undo sY (fbIn1 (by omega) (by omega)) ⟨⟨by show (1 : Int) ≤ a0.toInt; omega, by show a0.toInt ≤ (1 : Int); omega⟩, trivial⟩⟩
  · exact ⟨_, _, leafK (as := [a0]) (ans := (none, (-2))) (ch := []) (fb := []) (bs := [(2, 2147483647)]) (oraL_ok al0) rfl (by decide) (by decide) l38_X6_undo sX fbIn0 ⟨⟨by show (2 : Int) ≤ a0.toInt; omega, by show a0.toInt ≤ (2147483647 : Int); omega⟩, trivial⟩, leafK (as := [a0]) (ans := (none, (-2))) (ch := []) (fb := []) (bs := [(2, 2147483647)]) (oraL_ok al0) rfl (by decide) (by decide) l39_X7_undo sY fbIn0 ⟨⟨by show (2 : Int) ≤ a0.toInt; omega, by show a0.toInt ≤ (2147483647 : Int); omega⟩, trivial⟩⟩
theorem ef_undo {f : Nat → Int} {hx hy : AH} (sX : Sd bT (gX 999) f hx) (sY : Sd bY gY f hy) (a0 : Int32) : ∃ (f' : Nat → Int), Ct mX6_undo 12 0 0 [.ref 0, .int a0] hx (fun v hp' => (∃ w, v = some w ∧ kndV false w) ∧ hp'.length = (gX 999).length ∧ Sd bT (gX 999) f' hp') ∧ Ct mX7_undo 12 0 0 [.ref 0, .int a0] hy (fun v hp' => (∃ w, v = some w ∧ kndV false w) ∧ hp'.length = gY.length ∧ Sd bY gY f' hp') := by
  obtain ⟨w, f', cX, cY⟩ := ex_undo sX sY a0
  exact ⟨f', Ct_weak cX (fun v hp' q => ⟨⟨_, q.1, knd_int w⟩, q.2⟩), Ct_weak cY (fun v hp' q => ⟨⟨_, q.1, knd_int w⟩, q.2⟩)⟩
set_option maxRecDepth 1000000 in
theorem p_X6_fault : c_pub_X6_fault.2.2.2.2.2.all (fun o => pO bT (gX 999) o []) = true := by decide +kernel
theorem q_X6_fault : c_pub_X6_fault.2.2.2.2.2.all (fun o => kndB false o.2.1) = true := by decide +kernel
set_option maxRecDepth 1000000 in
theorem p_X7_fault : c_pub_X7_fault.2.2.2.2.2.all (fun o => pO bY gY o []) = true := by decide +kernel
theorem q_X7_fault : c_pub_X7_fault.2.2.2.2.2.all (fun o => kndB false o.2.1) = true := by decide +kernel
theorem ef_fault {f : Nat → Int} {hx hy : AH} (sX : Sd bT (gX 999) f hx) (sY : Sd bY gY f hy) (a0 : Int32) : ∃ (f' : Nat → Int), Ct mX6_fault 12 0 0 [.ref 0, .int a0] hx (fun v hp' => (∃ w, v = some w ∧ kndV false w) ∧ hp'.length = (gX 999).length ∧ Sd bT (gX 999) f' hp') ∧ Ct mX7_fault 12 0 0 [.ref 0, .int a0] hy (fun v hp' => (∃ w, v = some w ∧ kndV false w) ∧ hp'.length = gY.length ∧ Sd bY gY f' hp') :=
  ⟨_, safe (as := [a0]) (k := 46) (d := 2) (fb := []) (bs := List.replicate 1 f32) (os := c_pub_X6_fault.2.2.2.2.2) (ch := []) false rfl (by decide) k_pub_X6_fault (by decide) (by decide) (by decide) p_X6_fault q_X6_fault sX fbIn0 (argsIn_any [a0]),
  safe (as := [a0]) (k := 120) (d := 4) (fb := []) (bs := List.replicate 1 f32) (os := c_pub_X7_fault.2.2.2.2.2) (ch := []) false rfl (by decide) k_pub_X7_fault (by decide) (by decide) (by decide) p_X7_fault q_X7_fault sY fbIn0 (argsIn_any [a0])⟩
set_option maxRecDepth 1000000 in
theorem p_X6_person : c_pub_X6_person.2.2.2.2.2.all (fun o => pO bT (gX 999) o []) = true := by decide +kernel
theorem q_X6_person : c_pub_X6_person.2.2.2.2.2.all (fun o => kndB false o.2.1) = true := by decide +kernel
set_option maxRecDepth 1000000 in
theorem p_X7_person : c_pub_X7_person.2.2.2.2.2.all (fun o => pO bY gY o []) = true := by decide +kernel
theorem q_X7_person : c_pub_X7_person.2.2.2.2.2.all (fun o => kndB false o.2.1) = true := by decide +kernel
theorem ef_person {f : Nat → Int} {hx hy : AH} (sX : Sd bT (gX 999) f hx) (sY : Sd bY gY f hy) (a0 : Int32) (a1 : Int32) : ∃ (f' : Nat → Int), Ct mX6_person 12 0 0 [.ref 0, .int a0, .int a1] hx (fun v hp' => (∃ w, v = some w ∧ kndV false w) ∧ hp'.length = (gX 999).length ∧ Sd bT (gX 999) f' hp') ∧ Ct mX7_person 12 0 0 [.ref 0, .int a0, .int a1] hy (fun v hp' => (∃ w, v = some w ∧ kndV false w) ∧ hp'.length = gY.length ∧ Sd bY gY f' hp') :=
  ⟨_, safe (as := [a0, a1]) (k := 47) (d := 1) (fb := []) (bs := List.replicate 2 f32) (os := c_pub_X6_person.2.2.2.2.2) (ch := []) false rfl (by decide) k_pub_X6_person (by decide) (by decide) (by decide) p_X6_person q_X6_person sX fbIn0 (argsIn_any [a0, a1]),
  safe (as := [a0, a1]) (k := 124) (d := 6) (fb := []) (bs := List.replicate 2 f32) (os := c_pub_X7_person.2.2.2.2.2) (ch := []) false rfl (by decide) k_pub_X7_person (by decide) (by decide) (by decide) p_X7_person q_X7_person sY fbIn0 (argsIn_any [a0, a1])⟩
set_option maxRecDepth 1000000 in
theorem p_X6_promise : c_pub_X6_promise.2.2.2.2.2.all (fun o => pO bT (gX 999) o []) = true := by decide +kernel
theorem q_X6_promise : c_pub_X6_promise.2.2.2.2.2.all (fun o => kndB false o.2.1) = true := by decide +kernel
set_option maxRecDepth 1000000 in
theorem p_X7_promise : c_pub_X7_promise.2.2.2.2.2.all (fun o => pO bY gY o []) = true := by decide +kernel
theorem q_X7_promise : c_pub_X7_promise.2.2.2.2.2.all (fun o => kndB false o.2.1) = true := by decide +kernel
theorem ef_promise {f : Nat → Int} {hx hy : AH} (sX : Sd bT (gX 999) f hx) (sY : Sd bY gY f hy) (a0 : Int32) (a1 : Int32) : ∃ (f' : Nat → Int), Ct mX6_promise 12 0 0 [.ref 0, .int a0, .int a1] hx (fun v hp' => (∃ w, v = some w ∧ kndV false w) ∧ hp'.length = (gX 999).length ∧ Sd bT (gX 999) f' hp') ∧ Ct mX7_promise 12 0 0 [.ref 0, .int a0, .int a1] hy (fun v hp' => (∃ w, v = some w ∧ kndV false w) ∧ hp'.length = gY.length ∧ Sd bY gY f' hp') :=
  ⟨_, safe (as := [a0, a1]) (k := 48) (d := 1) (fb := []) (bs := List.replicate 2 f32) (os := c_pub_X6_promise.2.2.2.2.2) (ch := []) false rfl (by decide) k_pub_X6_promise (by decide) (by decide) (by decide) p_X6_promise q_X6_promise sX fbIn0 (argsIn_any [a0, a1]),
  safe (as := [a0, a1]) (k := 126) (d := 6) (fb := []) (bs := List.replicate 2 f32) (os := c_pub_X7_promise.2.2.2.2.2) (ch := []) false rfl (by decide) k_pub_X7_promise (by decide) (by decide) (by decide) p_X7_promise q_X7_promise sY fbIn0 (argsIn_any [a0, a1])⟩
set_option maxRecDepth 1000000 in
theorem p_X6_keeping : c_pub_X6_keeping.2.2.2.2.2.all (fun o => pO bT (gX 999) o []) = true := by decide +kernel
theorem q_X6_keeping : c_pub_X6_keeping.2.2.2.2.2.all (fun o => kndB false o.2.1) = true := by decide +kernel
set_option maxRecDepth 1000000 in
theorem p_X7_keeping : c_pub_X7_keeping.2.2.2.2.2.all (fun o => pO bY gY o []) = true := by decide +kernel
theorem q_X7_keeping : c_pub_X7_keeping.2.2.2.2.2.all (fun o => kndB false o.2.1) = true := by decide +kernel
theorem ef_keeping {f : Nat → Int} {hx hy : AH} (sX : Sd bT (gX 999) f hx) (sY : Sd bY gY f hy) (a0 : Int32) (a1 : Int32) : ∃ (f' : Nat → Int), Ct mX6_keeping 12 0 0 [.ref 0, .int a0, .int a1] hx (fun v hp' => (∃ w, v = some w ∧ kndV false w) ∧ hp'.length = (gX 999).length ∧ Sd bT (gX 999) f' hp') ∧ Ct mX7_keeping 12 0 0 [.ref 0, .int a0, .int a1] hy (fun v hp' => (∃ w, v = some w ∧ kndV false w) ∧ hp'.length = gY.length ∧ Sd bY gY f' hp') :=
  ⟨_, safe (as := [a0, a1]) (k := 49) (d := 3) (fb := []) (bs := List.replicate 2 f32) (os := c_pub_X6_keeping.2.2.2.2.2) (ch := []) false rfl (by decide) k_pub_X6_keeping (by decide) (by decide) (by decide) p_X6_keeping q_X6_keeping sX fbIn0 (argsIn_any [a0, a1]),
  safe (as := [a0, a1]) (k := 127) (d := 2) (fb := []) (bs := List.replicate 2 f32) (os := c_pub_X7_keeping.2.2.2.2.2) (ch := []) false rfl (by decide) k_pub_X7_keeping (by decide) (by decide) (by decide) p_X7_keeping q_X7_keeping sY fbIn0 (argsIn_any [a0, a1])⟩
set_option maxRecDepth 1000000 in
theorem l40_X6_lie : lfB (oraL []) 33 50 mX6_lie.ml bT (gX 999) [] [((-2147483648), (-1)), ((-2147483648), 2147483647), ((-2147483648), 2147483647)] (kLf bT (gX 999) [] (none, (-2))) = true := by decide +kernel
set_option maxRecDepth 1000000 in
theorem l41_X7_lie : lfB (oraL []) 35 128 mX7_lie.ml bY gY [] [((-2147483648), (-1)), ((-2147483648), 2147483647), ((-2147483648), 2147483647)] (kLf bY gY [] (none, (-2))) = true := by decide +kernel
set_option maxRecDepth 1000000 in
theorem l42_X6_lie : lfB (oraL []) 48 50 mX6_lie.ml bT (gX 999) [] [(0, 23), ((-2147483648), (-1)), ((-2147483648), 2147483647)] (kLf bT (gX 999) [] (none, (-2))) = true := by decide +kernel
set_option maxRecDepth 1000000 in
theorem l43_X7_lie : lfB (oraL []) 52 128 mX7_lie.ml bY gY [] [(0, 23), ((-2147483648), (-1)), ((-2147483648), 2147483647)] (kLf bY gY [] (none, (-2))) = true := by decide +kernel
set_option maxRecDepth 1000000 in
theorem l44_X6_lie : lfB (oraL []) 60 50 mX6_lie.ml bT (gX 999) [] [(0, 23), (0, 7), ((-2147483648), 0)] (kLf bT (gX 999) [] (none, (-2))) = true := by decide +kernel
set_option maxRecDepth 1000000 in
theorem l45_X7_lie : lfB (oraL []) 66 128 mX7_lie.ml bY gY [] [(0, 23), (0, 7), ((-2147483648), 0)] (kLf bY gY [] (none, (-2))) = true := by decide +kernel
set_option maxRecDepth 1000000 in
theorem l46_X6_lie : lfB (oraL []) 111 50 mX6_lie.ml bT (gX 999) [(5, (0, 5))] [(0, 23), (0, 7), (1, 9)] (kLf bT (gX 999) [(5, (some 5, 1))] (some 5, 1)) = true := by decide +kernel
set_option maxRecDepth 1000000 in
theorem l47_X7_lie : lfB (oraL []) 99 128 mX7_lie.ml bY gY [(5, (0, 5))] [(0, 23), (0, 7), (1, 9)] (kLf bY gY [(5, (some 5, 1))] (some 5, 1)) = true := by decide +kernel
set_option maxRecDepth 1000000 in
theorem l48_X6_lie : lfB (oraL []) 77 50 mX6_lie.ml bT (gX 999) [(5, (6, 6))] [(0, 23), (0, 7), (1, 9)] (kLf bT (gX 999) [] (none, (-4))) = true := by decide +kernel
set_option maxRecDepth 1000000 in
theorem l49_X7_lie : lfB (oraL []) 74 128 mX7_lie.ml bY gY [(5, (6, 6))] [(0, 23), (0, 7), (1, 9)] (kLf bY gY [] (none, (-4))) = true := by decide +kernel
set_option maxRecDepth 1000000 in
theorem l50_X6_lie : lfB (oraL []) 63 50 mX6_lie.ml bT (gX 999) [] [(0, 23), (0, 7), (10, 2147483647)] (kLf bT (gX 999) [] (none, (-2))) = true := by decide +kernel
set_option maxRecDepth 1000000 in
theorem l51_X7_lie : lfB (oraL []) 69 128 mX7_lie.ml bY gY [] [(0, 23), (0, 7), (10, 2147483647)] (kLf bY gY [] (none, (-2))) = true := by decide +kernel
set_option maxRecDepth 1000000 in
theorem l52_X6_lie : lfB (oraL []) 51 50 mX6_lie.ml bT (gX 999) [] [(0, 23), (8, 2147483647), ((-2147483648), 2147483647)] (kLf bT (gX 999) [] (none, (-2))) = true := by decide +kernel
set_option maxRecDepth 1000000 in
theorem l53_X7_lie : lfB (oraL []) 55 128 mX7_lie.ml bY gY [] [(0, 23), (8, 2147483647), ((-2147483648), 2147483647)] (kLf bY gY [] (none, (-2))) = true := by decide +kernel
set_option maxRecDepth 1000000 in
theorem l54_X6_lie : lfB (oraL []) 36 50 mX6_lie.ml bT (gX 999) [] [(24, 2147483647), ((-2147483648), 2147483647), ((-2147483648), 2147483647)] (kLf bT (gX 999) [] (none, (-2))) = true := by decide +kernel
set_option maxRecDepth 1000000 in
theorem l55_X7_lie : lfB (oraL []) 38 128 mX7_lie.ml bY gY [] [(24, 2147483647), ((-2147483648), 2147483647), ((-2147483648), 2147483647)] (kLf bY gY [] (none, (-2))) = true := by decide +kernel
theorem ex_lie {f : Nat → Int} {hx hy : AH} (sX : Sd bT (gX 999) f hx) (sY : Sd bY gY f hy) (a0 : Int32) (a1 : Int32) (a2 : Int32) : ∃ (w : Int32) (f' : Nat → Int), Ct mX6_lie 12 0 0 [.ref 0, .int a0, .int a1, .int a2] hx (fun v hp' => v = some (.int w) ∧ hp'.length = (gX 999).length ∧ Sd bT (gX 999) f' hp') ∧ Ct mX7_lie 12 0 0 [.ref 0, .int a0, .int a1, .int a2] hy (fun v hp' => v = some (.int w) ∧ hp'.length = gY.length ∧ Sd bY gY f' hp') := by
  have l0 := int32_lo a0
  have u0 := int32_hi a0
  have l1 := int32_lo a1
  have u1 := int32_hi a1
  have l2 := int32_lo a2
  have u2 := int32_hi a2
  have b0 := Sd_bnd sX (j := 0) (by decide) (b := (0, 23)) rfl
  have b1 := Sd_bnd sX (j := 1) (by decide) (b := (0, 49)) rfl
  have b5 := Sd_bnd sX (j := 5) (by decide) (b := (0, 6)) rfl
  have b6 := Sd_bnd sX (j := 6) (by decide) (b := (0, 6)) rfl
  have b7 := Sd_bnd sX (j := 7) (by decide) (b := (0, 8)) rfl
  simp only at b0 b1 b5 b6 b7
  rcases (show (((-2147483648) : Int) ≤ a0.toInt ∧ a0.toInt ≤ (-1)) ∨ ((0 : Int) ≤ a0.toInt ∧ a0.toInt ≤ 23) ∨ ((24 : Int) ≤ a0.toInt ∧ a0.toInt ≤ 2147483647) by omega) with c | c | c
  · exact ⟨_, _, leafK (as := [a0, a1, a2]) (ans := (none, (-2))) (ch := []) (fb := []) (bs := [((-2147483648), (-1)), ((-2147483648), 2147483647), ((-2147483648), 2147483647)]) (oraL_ok al0) rfl (by decide) (by decide) l40_X6_lie sX fbIn0 ⟨⟨by show ((-2147483648) : Int) ≤ a0.toInt; omega, by show a0.toInt ≤ ((-1) : Int); omega⟩, ⟨⟨by show ((-2147483648) : Int) ≤ a1.toInt; omega, by show a1.toInt ≤ (2147483647 : Int); omega⟩, ⟨⟨by show ((-2147483648) : Int) ≤ a2.toInt; omega, by show a2.toInt ≤ (2147483647 : Int); omega⟩, trivial⟩⟩⟩, leafK (as := [a0, a1, a2]) (ans := (none, (-2))) (ch := []) (fb := []) (bs := [((-2147483648), (-1)), ((-2147483648), 2147483647), ((-2147483648), 2147483647)]) (oraL_ok al0) rfl (by decide) (by decide) l41_X7_lie sY fbIn0 ⟨⟨by show ((-2147483648) : Int) ≤ a0.toInt; omega, by show a0.toInt ≤ ((-1) : Int); omega⟩, ⟨⟨by show ((-2147483648) : Int) ≤ a1.toInt; omega, by show a1.toInt ≤ (2147483647 : Int); omega⟩, ⟨⟨by show ((-2147483648) : Int) ≤ a2.toInt; omega, by show a2.toInt ≤ (2147483647 : Int); omega⟩, trivial⟩⟩⟩⟩
  · rcases (show (((-2147483648) : Int) ≤ a1.toInt ∧ a1.toInt ≤ (-1)) ∨ ((0 : Int) ≤ a1.toInt ∧ a1.toInt ≤ 7) ∨ ((8 : Int) ≤ a1.toInt ∧ a1.toInt ≤ 2147483647) by omega) with c | c | c
    · exact ⟨_, _, leafK (as := [a0, a1, a2]) (ans := (none, (-2))) (ch := []) (fb := []) (bs := [(0, 23), ((-2147483648), (-1)), ((-2147483648), 2147483647)]) (oraL_ok al0) rfl (by decide) (by decide) l42_X6_lie sX fbIn0 ⟨⟨by show (0 : Int) ≤ a0.toInt; omega, by show a0.toInt ≤ (23 : Int); omega⟩, ⟨⟨by show ((-2147483648) : Int) ≤ a1.toInt; omega, by show a1.toInt ≤ ((-1) : Int); omega⟩, ⟨⟨by show ((-2147483648) : Int) ≤ a2.toInt; omega, by show a2.toInt ≤ (2147483647 : Int); omega⟩, trivial⟩⟩⟩, leafK (as := [a0, a1, a2]) (ans := (none, (-2))) (ch := []) (fb := []) (bs := [(0, 23), ((-2147483648), (-1)), ((-2147483648), 2147483647)]) (oraL_ok al0) rfl (by decide) (by decide) l43_X7_lie sY fbIn0 ⟨⟨by show (0 : Int) ≤ a0.toInt; omega, by show a0.toInt ≤ (23 : Int); omega⟩, ⟨⟨by show ((-2147483648) : Int) ≤ a1.toInt; omega, by show a1.toInt ≤ ((-1) : Int); omega⟩, ⟨⟨by show ((-2147483648) : Int) ≤ a2.toInt; omega, by show a2.toInt ≤ (2147483647 : Int); omega⟩, trivial⟩⟩⟩⟩
    · rcases (show (((-2147483648) : Int) ≤ a2.toInt ∧ a2.toInt ≤ 0) ∨ ((1 : Int) ≤ a2.toInt ∧ a2.toInt ≤ 9) ∨ ((10 : Int) ≤ a2.toInt ∧ a2.toInt ≤ 2147483647) by omega) with c | c | c
      · exact ⟨_, _, leafK (as := [a0, a1, a2]) (ans := (none, (-2))) (ch := []) (fb := []) (bs := [(0, 23), (0, 7), ((-2147483648), 0)]) (oraL_ok al0) rfl (by decide) (by decide) l44_X6_lie sX fbIn0 ⟨⟨by show (0 : Int) ≤ a0.toInt; omega, by show a0.toInt ≤ (23 : Int); omega⟩, ⟨⟨by show (0 : Int) ≤ a1.toInt; omega, by show a1.toInt ≤ (7 : Int); omega⟩, ⟨⟨by show ((-2147483648) : Int) ≤ a2.toInt; omega, by show a2.toInt ≤ (0 : Int); omega⟩, trivial⟩⟩⟩, leafK (as := [a0, a1, a2]) (ans := (none, (-2))) (ch := []) (fb := []) (bs := [(0, 23), (0, 7), ((-2147483648), 0)]) (oraL_ok al0) rfl (by decide) (by decide) l45_X7_lie sY fbIn0 ⟨⟨by show (0 : Int) ≤ a0.toInt; omega, by show a0.toInt ≤ (23 : Int); omega⟩, ⟨⟨by show (0 : Int) ≤ a1.toInt; omega, by show a1.toInt ≤ (7 : Int); omega⟩, ⟨⟨by show ((-2147483648) : Int) ≤ a2.toInt; omega, by show a2.toInt ≤ (0 : Int); omega⟩, trivial⟩⟩⟩⟩
      · rcases (show ((0 : Int) ≤ f 5 ∧ f 5 ≤ 5) ∨ ((6 : Int) ≤ f 5 ∧ f 5 ≤ 6) by omega) with c | c
        · exact ⟨_, _, leafK (as := [a0, a1, a2]) (ans := (some 5, 1)) (ch := [(5, (some 5, 1))]) (fb := [(5, (0, 5))]) (bs := [(0, 23), (0, 7), (1, 9)]) (oraL_ok al0) rfl (by decide) (by decide) l46_X6_lie sX (fbIn1 (by omega) (by omega)) ⟨⟨by show (0 : Int) ≤ a0.toInt; omega, by show a0.toInt ≤ (23 : Int); omega⟩, ⟨⟨by show (0 : Int) ≤ a1.toInt; omega, by show a1.toInt ≤ (7 : Int); omega⟩, ⟨⟨by show (1 : Int) ≤ a2.toInt; omega, by show a2.toInt ≤ (9 : Int); omega⟩, trivial⟩⟩⟩, leafK (as := [a0, a1, a2]) (ans := (some 5, 1)) (ch := [(5, (some 5, 1))]) (fb := [(5, (0, 5))]) (bs := [(0, 23), (0, 7), (1, 9)]) (oraL_ok al0) rfl (by decide) (by decide) l47_X7_lie sY (fbIn1 (by omega) (by omega)) ⟨⟨by show (0 : Int) ≤ a0.toInt; omega, by show a0.toInt ≤ (23 : Int); omega⟩, ⟨⟨by show (0 : Int) ≤ a1.toInt; omega, by show a1.toInt ≤ (7 : Int); omega⟩, ⟨⟨by show (1 : Int) ≤ a2.toInt; omega, by show a2.toInt ≤ (9 : Int); omega⟩, trivial⟩⟩⟩⟩
        · exact ⟨_, _, leafK (as := [a0, a1, a2]) (ans := (none, (-4))) (ch := []) (fb := [(5, (6, 6))]) (bs := [(0, 23), (0, 7), (1, 9)]) (oraL_ok al0) rfl (by decide) (by decide) l48_X6_lie sX (fbIn1 (by omega) (by omega)) ⟨⟨by show (0 : Int) ≤ a0.toInt; omega, by show a0.toInt ≤ (23 : Int); omega⟩, ⟨⟨by show (0 : Int) ≤ a1.toInt; omega, by show a1.toInt ≤ (7 : Int); omega⟩, ⟨⟨by show (1 : Int) ≤ a2.toInt; omega, by show a2.toInt ≤ (9 : Int); omega⟩, trivial⟩⟩⟩, leafK (as := [a0, a1, a2]) (ans := (none, (-4))) (ch := []) (fb := [(5, (6, 6))]) (bs := [(0, 23), (0, 7), (1, 9)]) (oraL_ok al0) rfl (by decide) (by decide) l49_X7_lie sY (fbIn1 (by omega) (by omega)) ⟨⟨by show (0 : Int) ≤ a0.toInt; omega, by show a0.toInt ≤ (23 : Int); omega⟩, ⟨⟨by show (0 : Int) ≤ a1.toInt; omega, by show a1.toInt ≤ (7 : Int); omega⟩, ⟨⟨by show (1 : Int) ≤ a2.toInt; omega, by show a2.toInt ≤ (9 : Int); omega⟩, trivial⟩⟩⟩⟩
      · exact ⟨_, _, leafK (as := [a0, a1, a2]) (ans := (none, (-2))) (ch := []) (fb := []) (bs := [(0, 23), (0, 7), (10, 2147483647)]) (oraL_ok al0) rfl (by decide) (by decide) l50_X6_lie sX fbIn0 ⟨⟨by show (0 : Int) ≤ a0.toInt; omega, by show a0.toInt ≤ (23 : Int); omega⟩, ⟨⟨by show (0 : Int) ≤ a1.toInt; omega, by show a1.toInt ≤ (7 : Int); omega⟩, ⟨⟨by show (10 : Int) ≤ a2.toInt; omega, by show a2.toInt ≤ (2147483647 : Int); omega⟩, trivial⟩⟩⟩, leafK (as := [a0, a1, a2]) (ans := (none, (-2))) (ch := []) (fb := []) (bs := [(0, 23), (0, 7), (10, 2147483647)]) (oraL_ok al0) rfl (by decide) (by decide) l51_X7_lie sY fbIn0 ⟨⟨by show (0 : Int) ≤ a0.toInt; omega, by show a0.toInt ≤ (23 : Int); omega⟩, ⟨⟨by show (0 : Int) ≤ a1.toInt; omega, by show a1.toInt ≤ (7 : Int); omega⟩, ⟨⟨by show (10 : Int) ≤ a2.toInt; omega, by show a2.toInt ≤ (2147483647 : Int); omega⟩, trivial⟩⟩⟩⟩
    · exact ⟨_, _, leafK (as := [a0, a1, a2]) (ans := (none, (-2))) (ch := []) (fb := []) (bs := [(0, 23), (8, 2147483647), ((-2147483648), 2147483647)]) (oraL_ok al0) rfl (by decide) (by decide) l52_X6_lie sX fbIn0 ⟨⟨by show (0 : Int) ≤ a0.toInt; omega, by show a0.toInt ≤ (23 : Int); omega⟩, ⟨⟨by show (8 : Int) ≤ a1.toInt; omega, by show a1.toInt ≤ (2147483647 : Int); omega⟩, ⟨⟨by show ((-2147483648) : Int) ≤ a2.toInt; omega, by show a2.toInt ≤ (2147483647 : Int); omega⟩, trivial⟩⟩⟩, leafK (as := [a0, a1, a2]) (ans := (none, (-2))) (ch := []) (fb := []) (bs := [(0, 23), (8, 2147483647), ((-2147483648), 2147483647)]) (oraL_ok al0) rfl (by decide) (by decide) l53_X7_lie sY fbIn0 ⟨⟨by show (0 : Int) ≤ a0.toInt; omega, by show a0.toInt ≤ (23 : Int); omega⟩, ⟨⟨by show (8 : Int) ≤ a1.toInt; omega, by show a1.toInt ≤ (2147483647 : Int); omega⟩, ⟨⟨by show ((-2147483648) : Int) ≤ a2.toInt; omega, by show a2.toInt ≤ (2147483647 : Int); omega⟩, trivial⟩⟩⟩⟩
  · exact ⟨_, _, leafK (as := [a0, a1, a2]) (ans := (none, (-2))) (ch := []) (fb := []) (bs := [(24, 2147483647), ((-2147483648), 2147483647), ((-2147483648), 2147483647)]) (oraL_ok al0) rfl (by decide) (by decide) l54_X6_lie sX fbIn0 ⟨⟨by show (24 : Int) ≤ a0.toInt; omega, by show a0.toInt ≤ (2147483647 : Int); omega⟩, ⟨⟨by show ((-2147483648) : Int) ≤ a1.toInt; omega, by show a1.toInt ≤ (2147483647 : Int); omega⟩, ⟨⟨by show ((-2147483648) : Int) ≤ a2.toInt; omega, by show a2.toInt ≤ (2147483647 : Int); omega⟩, trivial⟩⟩⟩, leafK (as := [a0, a1, a2]) (ans := (none, (-2))) (ch := []) (fb := []) (bs := [(24, 2147483647), ((-2147483648), 2147483647), ((-2147483648), 2147483647)]) (oraL_ok al0) rfl (by decide) (by decide) l55_X7_lie sY fbIn0 ⟨⟨by show (24 : Int) ≤ a0.toInt; omega, by show a0.toInt ≤ (2147483647 : Int); omega⟩, ⟨⟨by show ((-2147483648) : Int) ≤ a1.toInt; omega, by show a1.toInt ≤ (2147483647 : Int); omega⟩, ⟨⟨by show ((-2147483648) : Int) ≤ a2.toInt; omega, by show a2.toInt ≤ (2147483647 : Int); omega⟩, trivial⟩⟩⟩⟩
theorem ef_lie {f : Nat → Int} {hx hy : AH} (sX : Sd bT (gX 999) f hx) (sY : Sd bY gY f hy) (a0 : Int32) (a1 : Int32) (a2 : Int32) : ∃ (f' : Nat → Int), Ct mX6_lie 12 0 0 [.ref 0, .int a0, .int a1, .int a2] hx (fun v hp' => (∃ w, v = some w ∧ kndV false w) ∧ hp'.length = (gX 999).length ∧ Sd bT (gX 999) f' hp') ∧ Ct mX7_lie 12 0 0 [.ref 0, .int a0, .int a1, .int a2] hy (fun v hp' => (∃ w, v = some w ∧ kndV false w) ∧ hp'.length = gY.length ∧ Sd bY gY f' hp') := by
  obtain ⟨w, f', cX, cY⟩ := ex_lie sX sY a0 a1 a2
  exact ⟨f', Ct_weak cX (fun v hp' q => ⟨⟨_, q.1, knd_int w⟩, q.2⟩), Ct_weak cY (fun v hp' q => ⟨⟨_, q.1, knd_int w⟩, q.2⟩)⟩
set_option maxRecDepth 1000000 in
theorem l56_X6_letting : lfB (oraL []) 33 51 mX6_letting.ml bT (gX 999) [] [((-2147483648), (-1)), ((-2147483648), 2147483647), ((-2147483648), 2147483647)] (kLf bT (gX 999) [] (none, (-2))) = true := by decide +kernel
set_option maxRecDepth 1000000 in
theorem l57_X7_letting : lfB (oraL []) 35 129 mX7_letting.ml bY gY [] [((-2147483648), (-1)), ((-2147483648), 2147483647), ((-2147483648), 2147483647)] (kLf bY gY [] (none, (-2))) = true := by decide +kernel
set_option maxRecDepth 1000000 in
theorem l58_X6_letting : lfB (oraL []) 48 51 mX6_letting.ml bT (gX 999) [] [(0, 23), ((-2147483648), (-1)), ((-2147483648), 2147483647)] (kLf bT (gX 999) [] (none, (-2))) = true := by decide +kernel
set_option maxRecDepth 1000000 in
theorem l59_X7_letting : lfB (oraL []) 52 129 mX7_letting.ml bY gY [] [(0, 23), ((-2147483648), (-1)), ((-2147483648), 2147483647)] (kLf bY gY [] (none, (-2))) = true := by decide +kernel
set_option maxRecDepth 1000000 in
theorem l60_X6_letting : lfB (oraL []) 60 51 mX6_letting.ml bT (gX 999) [] [(0, 23), (0, 7), ((-2147483648), 0)] (kLf bT (gX 999) [] (none, (-2))) = true := by decide +kernel
set_option maxRecDepth 1000000 in
theorem l61_X7_letting : lfB (oraL []) 66 129 mX7_letting.ml bY gY [] [(0, 23), (0, 7), ((-2147483648), 0)] (kLf bY gY [] (none, (-2))) = true := by decide +kernel
set_option maxRecDepth 1000000 in
theorem l62_X6_letting : lfB (oraL []) 111 51 mX6_letting.ml bT (gX 999) [(6, (0, 5))] [(0, 23), (0, 7), (1, 9)] (kLf bT (gX 999) [(6, (some 6, 1))] (some 6, 1)) = true := by decide +kernel
set_option maxRecDepth 1000000 in
theorem l63_X7_letting : lfB (oraL []) 99 129 mX7_letting.ml bY gY [(6, (0, 5))] [(0, 23), (0, 7), (1, 9)] (kLf bY gY [(6, (some 6, 1))] (some 6, 1)) = true := by decide +kernel
set_option maxRecDepth 1000000 in
theorem l64_X6_letting : lfB (oraL []) 77 51 mX6_letting.ml bT (gX 999) [(6, (6, 6))] [(0, 23), (0, 7), (1, 9)] (kLf bT (gX 999) [] (none, (-4))) = true := by decide +kernel
set_option maxRecDepth 1000000 in
theorem l65_X7_letting : lfB (oraL []) 74 129 mX7_letting.ml bY gY [(6, (6, 6))] [(0, 23), (0, 7), (1, 9)] (kLf bY gY [] (none, (-4))) = true := by decide +kernel
set_option maxRecDepth 1000000 in
theorem l66_X6_letting : lfB (oraL []) 63 51 mX6_letting.ml bT (gX 999) [] [(0, 23), (0, 7), (10, 2147483647)] (kLf bT (gX 999) [] (none, (-2))) = true := by decide +kernel
set_option maxRecDepth 1000000 in
theorem l67_X7_letting : lfB (oraL []) 69 129 mX7_letting.ml bY gY [] [(0, 23), (0, 7), (10, 2147483647)] (kLf bY gY [] (none, (-2))) = true := by decide +kernel
set_option maxRecDepth 1000000 in
theorem l68_X6_letting : lfB (oraL []) 51 51 mX6_letting.ml bT (gX 999) [] [(0, 23), (8, 2147483647), ((-2147483648), 2147483647)] (kLf bT (gX 999) [] (none, (-2))) = true := by decide +kernel
set_option maxRecDepth 1000000 in
theorem l69_X7_letting : lfB (oraL []) 55 129 mX7_letting.ml bY gY [] [(0, 23), (8, 2147483647), ((-2147483648), 2147483647)] (kLf bY gY [] (none, (-2))) = true := by decide +kernel
set_option maxRecDepth 1000000 in
theorem l70_X6_letting : lfB (oraL []) 36 51 mX6_letting.ml bT (gX 999) [] [(24, 2147483647), ((-2147483648), 2147483647), ((-2147483648), 2147483647)] (kLf bT (gX 999) [] (none, (-2))) = true := by decide +kernel
set_option maxRecDepth 1000000 in
theorem l71_X7_letting : lfB (oraL []) 38 129 mX7_letting.ml bY gY [] [(24, 2147483647), ((-2147483648), 2147483647), ((-2147483648), 2147483647)] (kLf bY gY [] (none, (-2))) = true := by decide +kernel
theorem ex_letting {f : Nat → Int} {hx hy : AH} (sX : Sd bT (gX 999) f hx) (sY : Sd bY gY f hy) (a0 : Int32) (a1 : Int32) (a2 : Int32) : ∃ (w : Int32) (f' : Nat → Int), Ct mX6_letting 12 0 0 [.ref 0, .int a0, .int a1, .int a2] hx (fun v hp' => v = some (.int w) ∧ hp'.length = (gX 999).length ∧ Sd bT (gX 999) f' hp') ∧ Ct mX7_letting 12 0 0 [.ref 0, .int a0, .int a1, .int a2] hy (fun v hp' => v = some (.int w) ∧ hp'.length = gY.length ∧ Sd bY gY f' hp') := by
  have l0 := int32_lo a0
  have u0 := int32_hi a0
  have l1 := int32_lo a1
  have u1 := int32_hi a1
  have l2 := int32_lo a2
  have u2 := int32_hi a2
  have b0 := Sd_bnd sX (j := 0) (by decide) (b := (0, 23)) rfl
  have b1 := Sd_bnd sX (j := 1) (by decide) (b := (0, 49)) rfl
  have b5 := Sd_bnd sX (j := 5) (by decide) (b := (0, 6)) rfl
  have b6 := Sd_bnd sX (j := 6) (by decide) (b := (0, 6)) rfl
  have b7 := Sd_bnd sX (j := 7) (by decide) (b := (0, 8)) rfl
  simp only at b0 b1 b5 b6 b7
  rcases (show (((-2147483648) : Int) ≤ a0.toInt ∧ a0.toInt ≤ (-1)) ∨ ((0 : Int) ≤ a0.toInt ∧ a0.toInt ≤ 23) ∨ ((24 : Int) ≤ a0.toInt ∧ a0.toInt ≤ 2147483647) by omega) with c | c | c
  · exact ⟨_, _, leafK (as := [a0, a1, a2]) (ans := (none, (-2))) (ch := []) (fb := []) (bs := [((-2147483648), (-1)), ((-2147483648), 2147483647), ((-2147483648), 2147483647)]) (oraL_ok al0) rfl (by decide) (by decide) l56_X6_letting sX fbIn0 ⟨⟨by show ((-2147483648) : Int) ≤ a0.toInt; omega, by show a0.toInt ≤ ((-1) : Int); omega⟩, ⟨⟨by show ((-2147483648) : Int) ≤ a1.toInt; omega, by show a1.toInt ≤ (2147483647 : Int); omega⟩, ⟨⟨by show ((-2147483648) : Int) ≤ a2.toInt; omega, by show a2.toInt ≤ (2147483647 : Int); omega⟩, trivial⟩⟩⟩, leafK (as := [a0, a1, a2]) (ans := (none, (-2))) (ch := []) (fb := []) (bs := [((-2147483648), (-1)), ((-2147483648), 2147483647), ((-2147483648), 2147483647)]) (oraL_ok al0) rfl (by decide) (by decide) l57_X7_letting sY fbIn0 ⟨⟨by show ((-2147483648) : Int) ≤ a0.toInt; omega, by show a0.toInt ≤ ((-1) : Int); omega⟩, ⟨⟨by show ((-2147483648) : Int) ≤ a1.toInt; omega, by show a1.toInt ≤ (2147483647 : Int); omega⟩, ⟨⟨by show ((-2147483648) : Int) ≤ a2.toInt; omega, by show a2.toInt ≤ (2147483647 : Int); omega⟩, trivial⟩⟩⟩⟩
  · rcases (show (((-2147483648) : Int) ≤ a1.toInt ∧ a1.toInt ≤ (-1)) ∨ ((0 : Int) ≤ a1.toInt ∧ a1.toInt ≤ 7) ∨ ((8 : Int) ≤ a1.toInt ∧ a1.toInt ≤ 2147483647) by omega) with c | c | c
    · exact ⟨_, _, leafK (as := [a0, a1, a2]) (ans := (none, (-2))) (ch := []) (fb := []) (bs := [(0, 23), ((-2147483648), (-1)), ((-2147483648), 2147483647)]) (oraL_ok al0) rfl (by decide) (by decide) l58_X6_letting sX fbIn0 ⟨⟨by show (0 : Int) ≤ a0.toInt; omega, by show a0.toInt ≤ (23 : Int); omega⟩, ⟨⟨by show ((-2147483648) : Int) ≤ a1.toInt; omega, by show a1.toInt ≤ ((-1) : Int); omega⟩, ⟨⟨by show ((-2147483648) : Int) ≤ a2.toInt; omega, by show a2.toInt ≤ (2147483647 : Int); omega⟩, trivial⟩⟩⟩, leafK (as := [a0, a1, a2]) (ans := (none, (-2))) (ch := []) (fb := []) (bs := [(0, 23), ((-2147483648), (-1)), ((-2147483648), 2147483647)]) (oraL_ok al0) rfl (by decide) (by decide) l59_X7_letting sY fbIn0 ⟨⟨by show (0 : Int) ≤ a0.toInt; omega, by show a0.toInt ≤ (23 : Int); omega⟩, ⟨⟨by show ((-2147483648) : Int) ≤ a1.toInt; omega, by show a1.toInt ≤ ((-1) : Int); omega⟩, ⟨⟨by show ((-2147483648) : Int) ≤ a2.toInt; omega, by show a2.toInt ≤ (2147483647 : Int); omega⟩, trivial⟩⟩⟩⟩
    · rcases (show (((-2147483648) : Int) ≤ a2.toInt ∧ a2.toInt ≤ 0) ∨ ((1 : Int) ≤ a2.toInt ∧ a2.toInt ≤ 9) ∨ ((10 : Int) ≤ a2.toInt ∧ a2.toInt ≤ 2147483647) by omega) with c | c | c
      · exact ⟨_, _, leafK (as := [a0, a1, a2]) (ans := (none, (-2))) (ch := []) (fb := []) (bs := [(0, 23), (0, 7), ((-2147483648), 0)]) (oraL_ok al0) rfl (by decide) (by decide) l60_X6_letting sX fbIn0 ⟨⟨by show (0 : Int) ≤ a0.toInt; omega, by show a0.toInt ≤ (23 : Int); omega⟩, ⟨⟨by show (0 : Int) ≤ a1.toInt; omega, by show a1.toInt ≤ (7 : Int); omega⟩, ⟨⟨by show ((-2147483648) : Int) ≤ a2.toInt; omega, by show a2.toInt ≤ (0 : Int); omega⟩, trivial⟩⟩⟩, leafK (as := [a0, a1, a2]) (ans := (none, (-2))) (ch := []) (fb := []) (bs := [(0, 23), (0, 7), ((-2147483648), 0)]) (oraL_ok al0) rfl (by decide) (by decide) l61_X7_letting sY fbIn0 ⟨⟨by show (0 : Int) ≤ a0.toInt; omega, by show a0.toInt ≤ (23 : Int); omega⟩, ⟨⟨by show (0 : Int) ≤ a1.toInt; omega, by show a1.toInt ≤ (7 : Int); omega⟩, ⟨⟨by show ((-2147483648) : Int) ≤ a2.toInt; omega, by show a2.toInt ≤ (0 : Int); omega⟩, trivial⟩⟩⟩⟩
      · rcases (show ((0 : Int) ≤ f 6 ∧ f 6 ≤ 5) ∨ ((6 : Int) ≤ f 6 ∧ f 6 ≤ 6) by omega) with c | c
        · exact ⟨_, _, leafK (as := [a0, a1, a2]) (ans := (some 6, 1)) (ch := [(6, (some 6, 1))]) (fb := [(6, (0, 5))]) (bs := [(0, 23), (0, 7), (1, 9)]) (oraL_ok al0) rfl (by decide) (by decide) l62_X6_letting sX (fbIn1 (by omega) (by omega)) ⟨⟨by show (0 : Int) ≤ a0.toInt; omega, by show a0.toInt ≤ (23 : Int); omega⟩, ⟨⟨by show (0 : Int) ≤ a1.toInt; omega, by show a1.toInt ≤ (7 : Int); omega⟩, ⟨⟨by show (1 : Int) ≤ a2.toInt; omega, by show a2.toInt ≤ (9 : Int); omega⟩, trivial⟩⟩⟩, leafK (as := [a0, a1, a2]) (ans := (some 6, 1)) (ch := [(6, (some 6, 1))]) (fb := [(6, (0, 5))]) (bs := [(0, 23), (0, 7), (1, 9)]) (oraL_ok al0) rfl (by decide) (by decide) l63_X7_letting sY (fbIn1 (by omega) (by omega)) ⟨⟨by show (0 : Int) ≤ a0.toInt; omega, by show a0.toInt ≤ (23 : Int); omega⟩, ⟨⟨by show (0 : Int) ≤ a1.toInt; omega, by show a1.toInt ≤ (7 : Int); omega⟩, ⟨⟨by show (1 : Int) ≤ a2.toInt; omega, by show a2.toInt ≤ (9 : Int); omega⟩, trivial⟩⟩⟩⟩
        · exact ⟨_, _, leafK (as := [a0, a1, a2]) (ans := (none, (-4))) (ch := []) (fb := [(6, (6, 6))]) (bs := [(0, 23), (0, 7), (1, 9)]) (oraL_ok al0) rfl (by decide) (by decide) l64_X6_letting sX (fbIn1 (by omega) (by omega)) ⟨⟨by show (0 : Int) ≤ a0.toInt; omega, by show a0.toInt ≤ (23 : Int); omega⟩, ⟨⟨by show (0 : Int) ≤ a1.toInt; omega, by show a1.toInt ≤ (7 : Int); omega⟩, ⟨⟨by show (1 : Int) ≤ a2.toInt; omega, by show a2.toInt ≤ (9 : Int); omega⟩, trivial⟩⟩⟩, leafK (as := [a0, a1, a2]) (ans := (none, (-4))) (ch := []) (fb := [(6, (6, 6))]) (bs := [(0, 23), (0, 7), (1, 9)]) (oraL_ok al0) rfl (by decide) (by decide) l65_X7_letting sY (fbIn1 (by omega) (by omega)) ⟨⟨by show (0 : Int) ≤ a0.toInt; omega, by show a0.toInt ≤ (23 : Int); omega⟩, ⟨⟨by show (0 : Int) ≤ a1.toInt; omega, by show a1.toInt ≤ (7 : Int); omega⟩, ⟨⟨by show (1 : Int) ≤ a2.toInt; omega, by show a2.toInt ≤ (9 : Int); omega⟩, trivial⟩⟩⟩⟩
      · exact ⟨_, _, leafK (as := [a0, a1, a2]) (ans := (none, (-2))) (ch := []) (fb := []) (bs := [(0, 23), (0, 7), (10, 2147483647)]) (oraL_ok al0) rfl (by decide) (by decide) l66_X6_letting sX fbIn0 ⟨⟨by show (0 : Int) ≤ a0.toInt; omega, by show a0.toInt ≤ (23 : Int); omega⟩, ⟨⟨by show (0 : Int) ≤ a1.toInt; omega, by show a1.toInt ≤ (7 : Int); omega⟩, ⟨⟨by show (10 : Int) ≤ a2.toInt; omega, by show a2.toInt ≤ (2147483647 : Int); omega⟩, trivial⟩⟩⟩, leafK (as := [a0, a1, a2]) (ans := (none, (-2))) (ch := []) (fb := []) (bs := [(0, 23), (0, 7), (10, 2147483647)]) (oraL_ok al0) rfl (by decide) (by decide) l67_X7_letting sY fbIn0 ⟨⟨by show (0 : Int) ≤ a0.toInt; omega, by show a0.toInt ≤ (23 : Int); omega⟩, ⟨⟨by show (0 : Int) ≤ a1.toInt; omega, by show a1.toInt ≤ (7 : Int); omega⟩, ⟨⟨by show (10 : Int) ≤ a2.toInt; omega, by show a2.toInt ≤ (2147483647 : Int); omega⟩, trivial⟩⟩⟩⟩
    · exact ⟨_, _, leafK (as := [a0, a1, a2]) (ans := (none, (-2))) (ch := []) (fb := []) (bs := [(0, 23), (8, 2147483647), ((-2147483648), 2147483647)]) (oraL_ok al0) rfl (by decide) (by decide) l68_X6_letting sX fbIn0 ⟨⟨by show (0 : Int) ≤ a0.toInt; omega, by show a0.toInt ≤ (23 : Int); omega⟩, ⟨⟨by show (8 : Int) ≤ a1.toInt; omega, by show a1.toInt ≤ (2147483647 : Int); omega⟩, ⟨⟨by show ((-2147483648) : Int) ≤ a2.toInt; omega, by show a2.toInt ≤ (2147483647 : Int); omega⟩, trivial⟩⟩⟩, leafK (as := [a0, a1, a2]) (ans := (none, (-2))) (ch := []) (fb := []) (bs := [(0, 23), (8, 2147483647), ((-2147483648), 2147483647)]) (oraL_ok al0) rfl (by decide) (by decide) l69_X7_letting sY fbIn0 ⟨⟨by show (0 : Int) ≤ a0.toInt; omega, by show a0.toInt ≤ (23 : Int); omega⟩, ⟨⟨by show (8 : Int) ≤ a1.toInt; omega, by show a1.toInt ≤ (2147483647 : Int); omega⟩, ⟨⟨by show ((-2147483648) : Int) ≤ a2.toInt; omega, by show a2.toInt ≤ (2147483647 : Int); omega⟩, trivial⟩⟩⟩⟩
  · exact ⟨_, _, leafK (as := [a0, a1, a2]) (ans := (none, (-2))) (ch := []) (fb := []) (bs := [(24, 2147483647), ((-2147483648), 2147483647), ((-2147483648), 2147483647)]) (oraL_ok al0) rfl (by decide) (by decide) l70_X6_letting sX fbIn0 ⟨⟨by show (24 : Int) ≤ a0.toInt; omega, by show a0.toInt ≤ (2147483647 : Int); omega⟩, ⟨⟨by show ((-2147483648) : Int) ≤ a1.toInt; omega, by show a1.toInt ≤ (2147483647 : Int); omega⟩, ⟨⟨by show ((-2147483648) : Int) ≤ a2.toInt; omega, by show a2.toInt ≤ (2147483647 : Int); omega⟩, trivial⟩⟩⟩, leafK (as := [a0, a1, a2]) (ans := (none, (-2))) (ch := []) (fb := []) (bs := [(24, 2147483647), ((-2147483648), 2147483647), ((-2147483648), 2147483647)]) (oraL_ok al0) rfl (by decide) (by decide) l71_X7_letting sY fbIn0 ⟨⟨by show (24 : Int) ≤ a0.toInt; omega, by show a0.toInt ≤ (2147483647 : Int); omega⟩, ⟨⟨by show ((-2147483648) : Int) ≤ a1.toInt; omega, by show a1.toInt ≤ (2147483647 : Int); omega⟩, ⟨⟨by show ((-2147483648) : Int) ≤ a2.toInt; omega, by show a2.toInt ≤ (2147483647 : Int); omega⟩, trivial⟩⟩⟩⟩
theorem ef_letting {f : Nat → Int} {hx hy : AH} (sX : Sd bT (gX 999) f hx) (sY : Sd bY gY f hy) (a0 : Int32) (a1 : Int32) (a2 : Int32) : ∃ (f' : Nat → Int), Ct mX6_letting 12 0 0 [.ref 0, .int a0, .int a1, .int a2] hx (fun v hp' => (∃ w, v = some w ∧ kndV false w) ∧ hp'.length = (gX 999).length ∧ Sd bT (gX 999) f' hp') ∧ Ct mX7_letting 12 0 0 [.ref 0, .int a0, .int a1, .int a2] hy (fun v hp' => (∃ w, v = some w ∧ kndV false w) ∧ hp'.length = gY.length ∧ Sd bY gY f' hp') := by
  obtain ⟨w, f', cX, cY⟩ := ex_letting sX sY a0 a1 a2
  exact ⟨f', Ct_weak cX (fun v hp' q => ⟨⟨_, q.1, knd_int w⟩, q.2⟩), Ct_weak cY (fun v hp' q => ⟨⟨_, q.1, knd_int w⟩, q.2⟩)⟩
set_option maxRecDepth 1000000 in
theorem l72_X6_back : lfB (oraL []) 30 52 mX6_back.ml bT (gX 999) [] [((-2147483648), (-1))] (kLs bT (gX 999) []) = true := by decide +kernel
set_option maxRecDepth 1000000 in
theorem l73_X7_back : lfB (oraL []) 32 130 mX7_back.ml bY gY [] [((-2147483648), (-1))] (kLs bY gY []) = true := by decide +kernel
set_option maxRecDepth 1000000 in
theorem l74_X6_back : lfB (oraL []) 56 52 mX6_back.ml bT (gX 999) [] [(0, 0)] (kLs bT (gX 999) []) = true := by decide +kernel
set_option maxRecDepth 1000000 in
theorem l75_X7_back : lfB (oraL []) 73 130 mX7_back.ml bY gY [] [(0, 0)] (kLs bY gY []) = true := by decide +kernel
set_option maxRecDepth 1000000 in
theorem l76_X6_back : lfB (oraL []) 47 52 mX6_back.ml bT (gX 999) [(5, (0, 0))] [(1, 1)] (kLs bT (gX 999) []) = true := by decide +kernel
set_option maxRecDepth 1000000 in
theorem l77_X7_back : lfB (oraL []) 47 130 mX7_back.ml bY gY [(5, (0, 0))] [(1, 1)] (kLs bY gY []) = true := by decide +kernel
set_option maxRecDepth 1000000 in
theorem l78_X6_back : lfB (oraL []) 59 52 mX6_back.ml bT (gX 999) [(5, (1, 6))] [(1, 1)] (kLs bT (gX 999) [(5, (some 5, (-1)))]) = true := by decide +kernel
set_option maxRecDepth 1000000 in
theorem l79_X7_back : lfB (oraL []) 76 130 mX7_back.ml bY gY [(5, (1, 6))] [(1, 1)] (kLs bY gY [(5, (some 5, (-1)))]) = true := by decide +kernel
set_option maxRecDepth 1000000 in
theorem l80_X6_back : lfB (oraL []) 46 52 mX6_back.ml bT (gX 999) [(6, (0, 0))] [(2, 2)] (kLs bT (gX 999) []) = true := by decide +kernel
set_option maxRecDepth 1000000 in
theorem l81_X7_back : lfB (oraL []) 46 130 mX7_back.ml bY gY [(6, (0, 0))] [(2, 2)] (kLs bY gY []) = true := by decide +kernel
set_option maxRecDepth 1000000 in
theorem l82_X6_back : lfB (oraL []) 58 52 mX6_back.ml bT (gX 999) [(6, (1, 6))] [(2, 2)] (kLs bT (gX 999) [(6, (some 6, (-1)))]) = true := by decide +kernel
set_option maxRecDepth 1000000 in
theorem l83_X7_back : lfB (oraL []) 75 130 mX7_back.ml bY gY [(6, (1, 6))] [(2, 2)] (kLs bY gY [(6, (some 6, (-1)))]) = true := by decide +kernel
set_option maxRecDepth 1000000 in
theorem l84_X6_back : lfB (oraL []) 33 52 mX6_back.ml bT (gX 999) [] [(3, 2147483647)] (kLs bT (gX 999) []) = true := by decide +kernel
set_option maxRecDepth 1000000 in
theorem l85_X7_back : lfB (oraL []) 35 130 mX7_back.ml bY gY [] [(3, 2147483647)] (kLs bY gY []) = true := by decide +kernel
theorem ef_back {f : Nat → Int} {hx hy : AH} (sX : Sd bT (gX 999) f hx) (sY : Sd bY gY f hy) (a0 : Int32) : ∃ (f' : Nat → Int), Ct mX6_back 12 0 0 [.ref 0, .int a0] hx (fun v hp' => (∃ w, v = some w ∧ kndV false w) ∧ hp'.length = (gX 999).length ∧ Sd bT (gX 999) f' hp') ∧ Ct mX7_back 12 0 0 [.ref 0, .int a0] hy (fun v hp' => (∃ w, v = some w ∧ kndV false w) ∧ hp'.length = gY.length ∧ Sd bY gY f' hp') := by
  have l0 := int32_lo a0
  have u0 := int32_hi a0
  have b0 := Sd_bnd sX (j := 0) (by decide) (b := (0, 23)) rfl
  have b1 := Sd_bnd sX (j := 1) (by decide) (b := (0, 49)) rfl
  have b5 := Sd_bnd sX (j := 5) (by decide) (b := (0, 6)) rfl
  have b6 := Sd_bnd sX (j := 6) (by decide) (b := (0, 6)) rfl
  have b7 := Sd_bnd sX (j := 7) (by decide) (b := (0, 8)) rfl
  simp only at b0 b1 b5 b6 b7
  rcases (show (((-2147483648) : Int) ≤ a0.toInt ∧ a0.toInt ≤ (-1)) ∨ ((0 : Int) ≤ a0.toInt ∧ a0.toInt ≤ 0) ∨ ((1 : Int) ≤ a0.toInt ∧ a0.toInt ≤ 1) ∨ ((2 : Int) ≤ a0.toInt ∧ a0.toInt ≤ 2) ∨ ((3 : Int) ≤ a0.toInt ∧ a0.toInt ≤ 2147483647) by omega) with c | c | c | c | c
  · exact ⟨_, safeK (as := [a0]) (ch := []) (fb := []) (bs := [((-2147483648), (-1))]) (oraL_ok al0) rfl (by decide) l72_X6_back sX fbIn0 ⟨⟨by show ((-2147483648) : Int) ≤ a0.toInt; omega, by show a0.toInt ≤ ((-1) : Int); omega⟩, trivial⟩, safeK (as := [a0]) (ch := []) (fb := []) (bs := [((-2147483648), (-1))]) (oraL_ok al0) rfl (by decide) l73_X7_back sY fbIn0 ⟨⟨by show ((-2147483648) : Int) ≤ a0.toInt; omega, by show a0.toInt ≤ ((-1) : Int); omega⟩, trivial⟩⟩
  · exact ⟨_, safeK (as := [a0]) (ch := []) (fb := []) (bs := [(0, 0)]) (oraL_ok al0) rfl (by decide) l74_X6_back sX fbIn0 ⟨⟨by show (0 : Int) ≤ a0.toInt; omega, by show a0.toInt ≤ (0 : Int); omega⟩, trivial⟩, safeK (as := [a0]) (ch := []) (fb := []) (bs := [(0, 0)]) (oraL_ok al0) rfl (by decide) l75_X7_back sY fbIn0 ⟨⟨by show (0 : Int) ≤ a0.toInt; omega, by show a0.toInt ≤ (0 : Int); omega⟩, trivial⟩⟩
  · rcases (show ((0 : Int) ≤ f 5 ∧ f 5 ≤ 0) ∨ ((1 : Int) ≤ f 5 ∧ f 5 ≤ 6) by omega) with c | c
    · exact ⟨_, safeK (as := [a0]) (ch := []) (fb := [(5, (0, 0))]) (bs := [(1, 1)]) (oraL_ok al0) rfl (by decide) l76_X6_back sX (fbIn1 (by omega) (by omega)) ⟨⟨by show (1 : Int) ≤ a0.toInt; omega, by show a0.toInt ≤ (1 : Int); omega⟩, trivial⟩, safeK (as := [a0]) (ch := []) (fb := [(5, (0, 0))]) (bs := [(1, 1)]) (oraL_ok al0) rfl (by decide) l77_X7_back sY (fbIn1 (by omega) (by omega)) ⟨⟨by show (1 : Int) ≤ a0.toInt; omega, by show a0.toInt ≤ (1 : Int); omega⟩, trivial⟩⟩
    · exact ⟨_, safeK (as := [a0]) (ch := [(5, (some 5, (-1)))]) (fb := [(5, (1, 6))]) (bs := [(1, 1)]) (oraL_ok al0) rfl (by decide) l78_X6_back sX (fbIn1 (by omega) (by omega)) ⟨⟨by show (1 : Int) ≤ a0.toInt; omega, by show a0.toInt ≤ (1 : Int); omega⟩, trivial⟩, safeK (as := [a0]) (ch := [(5, (some 5, (-1)))]) (fb := [(5, (1, 6))]) (bs := [(1, 1)]) (oraL_ok al0) rfl (by decide) l79_X7_back sY (fbIn1 (by omega) (by omega)) ⟨⟨by show (1 : Int) ≤ a0.toInt; omega, by show a0.toInt ≤ (1 : Int); omega⟩, trivial⟩⟩
  · rcases (show ((0 : Int) ≤ f 6 ∧ f 6 ≤ 0) ∨ ((1 : Int) ≤ f 6 ∧ f 6 ≤ 6) by omega) with c | c
    · exact ⟨_, safeK (as := [a0]) (ch := []) (fb := [(6, (0, 0))]) (bs := [(2, 2)]) (oraL_ok al0) rfl (by decide) l80_X6_back sX (fbIn1 (by omega) (by omega)) ⟨⟨by show (2 : Int) ≤ a0.toInt; omega, by show a0.toInt ≤ (2 : Int); omega⟩, trivial⟩, safeK (as := [a0]) (ch := []) (fb := [(6, (0, 0))]) (bs := [(2, 2)]) (oraL_ok al0) rfl (by decide) l81_X7_back sY (fbIn1 (by omega) (by omega)) ⟨⟨by show (2 : Int) ≤ a0.toInt; omega, by show a0.toInt ≤ (2 : Int); omega⟩, trivial⟩⟩
    · exact ⟨_, safeK (as := [a0]) (ch := [(6, (some 6, (-1)))]) (fb := [(6, (1, 6))]) (bs := [(2, 2)]) (oraL_ok al0) rfl (by decide) l82_X6_back sX (fbIn1 (by omega) (by omega)) ⟨⟨by show (2 : Int) ≤ a0.toInt; omega, by show a0.toInt ≤ (2 : Int); omega⟩, trivial⟩, safeK (as := [a0]) (ch := [(6, (some 6, (-1)))]) (fb := [(6, (1, 6))]) (bs := [(2, 2)]) (oraL_ok al0) rfl (by decide) l83_X7_back sY (fbIn1 (by omega) (by omega)) ⟨⟨by show (2 : Int) ≤ a0.toInt; omega, by show a0.toInt ≤ (2 : Int); omega⟩, trivial⟩⟩
  · exact ⟨_, safeK (as := [a0]) (ch := []) (fb := []) (bs := [(3, 2147483647)]) (oraL_ok al0) rfl (by decide) l84_X6_back sX fbIn0 ⟨⟨by show (3 : Int) ≤ a0.toInt; omega, by show a0.toInt ≤ (2147483647 : Int); omega⟩, trivial⟩, safeK (as := [a0]) (ch := []) (fb := []) (bs := [(3, 2147483647)]) (oraL_ok al0) rfl (by decide) l85_X7_back sY fbIn0 ⟨⟨by show (3 : Int) ≤ a0.toInt; omega, by show a0.toInt ≤ (2147483647 : Int); omega⟩, trivial⟩⟩
set_option maxRecDepth 1000000 in
theorem p_X6_read : c_pub_X6_read.2.2.2.2.2.all (fun o => pO bT (gX 999) o []) = true := by decide +kernel
theorem q_X6_read : c_pub_X6_read.2.2.2.2.2.all (fun o => kndB false o.2.1) = true := by decide +kernel
set_option maxRecDepth 1000000 in
theorem p_X7_read : c_pub_X7_read.2.2.2.2.2.all (fun o => pO bY gY o []) = true := by decide +kernel
theorem q_X7_read : c_pub_X7_read.2.2.2.2.2.all (fun o => kndB false o.2.1) = true := by decide +kernel
theorem ef_read {f : Nat → Int} {hx hy : AH} (sX : Sd bT (gX 999) f hx) (sY : Sd bY gY f hy) (a0 : Int32) : ∃ (f' : Nat → Int), Ct mX6_read 12 0 0 [.ref 0, .int a0] hx (fun v hp' => (∃ w, v = some w ∧ kndV false w) ∧ hp'.length = (gX 999).length ∧ Sd bT (gX 999) f' hp') ∧ Ct mX7_read 12 0 0 [.ref 0, .int a0] hy (fun v hp' => (∃ w, v = some w ∧ kndV false w) ∧ hp'.length = gY.length ∧ Sd bY gY f' hp') :=
  ⟨_, safe (as := [a0]) (k := 53) (d := 3) (fb := []) (bs := List.replicate 1 f32) (os := c_pub_X6_read.2.2.2.2.2) (ch := []) false rfl (by decide) k_pub_X6_read (by decide) (by decide) (by decide) p_X6_read q_X6_read sX fbIn0 (argsIn_any [a0]),
  safe (as := [a0]) (k := 131) (d := 3) (fb := []) (bs := List.replicate 1 f32) (os := c_pub_X7_read.2.2.2.2.2) (ch := []) false rfl (by decide) k_pub_X7_read (by decide) (by decide) (by decide) p_X7_read q_X7_read sY fbIn0 (argsIn_any [a0])⟩
set_option maxRecDepth 1000000 in
theorem p_X6_coat : c_pub_X6_coat.2.2.2.2.2.all (fun o => pO bT (gX 999) o []) = true := by decide +kernel
theorem q_X6_coat : c_pub_X6_coat.2.2.2.2.2.all (fun o => kndB false o.2.1) = true := by decide +kernel
set_option maxRecDepth 1000000 in
theorem p_X7_coat : c_pub_X7_coat.2.2.2.2.2.all (fun o => pO bY gY o []) = true := by decide +kernel
theorem q_X7_coat : c_pub_X7_coat.2.2.2.2.2.all (fun o => kndB false o.2.1) = true := by decide +kernel
theorem ef_coat {f : Nat → Int} {hx hy : AH} (sX : Sd bT (gX 999) f hx) (sY : Sd bY gY f hy) (a0 : Int32) (a1 : Int32) (a2 : Int32) : ∃ (f' : Nat → Int), Ct mX6_coat 12 0 0 [.ref 0, .int a0, .int a1, .int a2] hx (fun v hp' => (∃ w, v = some w ∧ kndV false w) ∧ hp'.length = (gX 999).length ∧ Sd bT (gX 999) f' hp') ∧ Ct mX7_coat 12 0 0 [.ref 0, .int a0, .int a1, .int a2] hy (fun v hp' => (∃ w, v = some w ∧ kndV false w) ∧ hp'.length = gY.length ∧ Sd bY gY f' hp') :=
  ⟨_, safe (as := [a0, a1, a2]) (k := 54) (d := 5) (fb := []) (bs := List.replicate 3 f32) (os := c_pub_X6_coat.2.2.2.2.2) (ch := []) false rfl (by decide) k_pub_X6_coat (by decide) (by decide) (by decide) p_X6_coat q_X6_coat sX fbIn0 (argsIn_any [a0, a1, a2]),
  safe (as := [a0, a1, a2]) (k := 145) (d := 8) (fb := []) (bs := List.replicate 3 f32) (os := c_pub_X7_coat.2.2.2.2.2) (ch := []) false rfl (by decide) k_pub_X7_coat (by decide) (by decide) (by decide) p_X7_coat q_X7_coat sY fbIn0 (argsIn_any [a0, a1, a2])⟩
set_option maxRecDepth 1000000 in
theorem p_X6_stands : c_pub_X6_stands.2.2.2.2.2.all (fun o => pO bT (gX 999) o []) = true := by decide +kernel
theorem q_X6_stands : c_pub_X6_stands.2.2.2.2.2.all (fun o => kndB false o.2.1) = true := by decide +kernel
set_option maxRecDepth 1000000 in
theorem p_X7_stands : c_pub_X7_stands.2.2.2.2.2.all (fun o => pO bY gY o []) = true := by decide +kernel
theorem q_X7_stands : c_pub_X7_stands.2.2.2.2.2.all (fun o => kndB false o.2.1) = true := by decide +kernel
theorem ef_stands {f : Nat → Int} {hx hy : AH} (sX : Sd bT (gX 999) f hx) (sY : Sd bY gY f hy) (a0 : Int32) (a1 : Int32) : ∃ (f' : Nat → Int), Ct mX6_stands 12 0 0 [.ref 0, .int a0, .int a1] hx (fun v hp' => (∃ w, v = some w ∧ kndV false w) ∧ hp'.length = (gX 999).length ∧ Sd bT (gX 999) f' hp') ∧ Ct mX7_stands 12 0 0 [.ref 0, .int a0, .int a1] hy (fun v hp' => (∃ w, v = some w ∧ kndV false w) ∧ hp'.length = gY.length ∧ Sd bY gY f' hp') :=
  ⟨_, safe (as := [a0, a1]) (k := 55) (d := 5) (fb := []) (bs := List.replicate 2 f32) (os := c_pub_X6_stands.2.2.2.2.2) (ch := []) false rfl (by decide) k_pub_X6_stands (by decide) (by decide) (by decide) p_X6_stands q_X6_stands sX fbIn0 (argsIn_any [a0, a1]),
  safe (as := [a0, a1]) (k := 147) (d := 8) (fb := []) (bs := List.replicate 2 f32) (os := c_pub_X7_stands.2.2.2.2.2) (ch := []) false rfl (by decide) k_pub_X7_stands (by decide) (by decide) (by decide) p_X7_stands q_X7_stands sY fbIn0 (argsIn_any [a0, a1])⟩
set_option maxRecDepth 1000000 in
theorem p_X6_neat : c_pub_X6_neat.2.2.2.2.2.all (fun o => pO bT (gX 999) o []) = true := by decide +kernel
theorem q_X6_neat : c_pub_X6_neat.2.2.2.2.2.all (fun o => kndB false o.2.1) = true := by decide +kernel
set_option maxRecDepth 1000000 in
theorem p_X7_neat : c_pub_X7_neat.2.2.2.2.2.all (fun o => pO bY gY o []) = true := by decide +kernel
theorem q_X7_neat : c_pub_X7_neat.2.2.2.2.2.all (fun o => kndB false o.2.1) = true := by decide +kernel
theorem ef_neat {f : Nat → Int} {hx hy : AH} (sX : Sd bT (gX 999) f hx) (sY : Sd bY gY f hy) (a0 : Int32) : ∃ (f' : Nat → Int), Ct mX6_neat 12 0 0 [.ref 0, .int a0] hx (fun v hp' => (∃ w, v = some w ∧ kndV false w) ∧ hp'.length = (gX 999).length ∧ Sd bT (gX 999) f' hp') ∧ Ct mX7_neat 12 0 0 [.ref 0, .int a0] hy (fun v hp' => (∃ w, v = some w ∧ kndV false w) ∧ hp'.length = gY.length ∧ Sd bY gY f' hp') :=
  ⟨_, safe (as := [a0]) (k := 56) (d := 5) (fb := []) (bs := List.replicate 1 f32) (os := c_pub_X6_neat.2.2.2.2.2) (ch := []) false rfl (by decide) k_pub_X6_neat (by decide) (by decide) (by decide) p_X6_neat q_X6_neat sX fbIn0 (argsIn_any [a0]),
  safe (as := [a0]) (k := 149) (d := 8) (fb := []) (bs := List.replicate 1 f32) (os := c_pub_X7_neat.2.2.2.2.2) (ch := []) false rfl (by decide) k_pub_X7_neat (by decide) (by decide) (by decide) p_X7_neat q_X7_neat sY fbIn0 (argsIn_any [a0])⟩
set_option maxRecDepth 1000000 in
theorem p_X6_naked : c_pub_X6_naked.2.2.2.2.2.all (fun o => pO bT (gX 999) o []) = true := by decide +kernel
theorem q_X6_naked : c_pub_X6_naked.2.2.2.2.2.all (fun o => kndB false o.2.1) = true := by decide +kernel
set_option maxRecDepth 1000000 in
theorem p_X7_naked : c_pub_X7_naked.2.2.2.2.2.all (fun o => pO bY gY o []) = true := by decide +kernel
theorem q_X7_naked : c_pub_X7_naked.2.2.2.2.2.all (fun o => kndB false o.2.1) = true := by decide +kernel
theorem ef_naked {f : Nat → Int} {hx hy : AH} (sX : Sd bT (gX 999) f hx) (sY : Sd bY gY f hy) (a0 : Int32) : ∃ (f' : Nat → Int), Ct mX6_naked 12 0 0 [.ref 0, .int a0] hx (fun v hp' => (∃ w, v = some w ∧ kndV false w) ∧ hp'.length = (gX 999).length ∧ Sd bT (gX 999) f' hp') ∧ Ct mX7_naked 12 0 0 [.ref 0, .int a0] hy (fun v hp' => (∃ w, v = some w ∧ kndV false w) ∧ hp'.length = gY.length ∧ Sd bY gY f' hp') :=
  ⟨_, safe (as := [a0]) (k := 57) (d := 5) (fb := []) (bs := List.replicate 1 f32) (os := c_pub_X6_naked.2.2.2.2.2) (ch := []) false rfl (by decide) k_pub_X6_naked (by decide) (by decide) (by decide) p_X6_naked q_X6_naked sX fbIn0 (argsIn_any [a0]),
  safe (as := [a0]) (k := 152) (d := 8) (fb := []) (bs := List.replicate 1 f32) (os := c_pub_X7_naked.2.2.2.2.2) (ch := []) false rfl (by decide) k_pub_X7_naked (by decide) (by decide) (by decide) p_X7_naked q_X7_naked sY fbIn0 (argsIn_any [a0])⟩
set_option maxRecDepth 1000000 in
theorem p_X6_longest : c_pub_X6_longest.2.2.2.2.2.all (fun o => pO bT (gX 999) o []) = true := by decide +kernel
theorem q_X6_longest : c_pub_X6_longest.2.2.2.2.2.all (fun o => kndB false o.2.1) = true := by decide +kernel
set_option maxRecDepth 1000000 in
theorem p_X7_longest : c_pub_X7_longest.2.2.2.2.2.all (fun o => pO bY gY o []) = true := by decide +kernel
theorem q_X7_longest : c_pub_X7_longest.2.2.2.2.2.all (fun o => kndB false o.2.1) = true := by decide +kernel
theorem ef_longest {f : Nat → Int} {hx hy : AH} (sX : Sd bT (gX 999) f hx) (sY : Sd bY gY f hy) (a0 : Int32) : ∃ (f' : Nat → Int), Ct mX6_longest 12 0 0 [.ref 0, .int a0] hx (fun v hp' => (∃ w, v = some w ∧ kndV false w) ∧ hp'.length = (gX 999).length ∧ Sd bT (gX 999) f' hp') ∧ Ct mX7_longest 12 0 0 [.ref 0, .int a0] hy (fun v hp' => (∃ w, v = some w ∧ kndV false w) ∧ hp'.length = gY.length ∧ Sd bY gY f' hp') :=
  ⟨_, safe (as := [a0]) (k := 58) (d := 5) (fb := []) (bs := List.replicate 1 f32) (os := c_pub_X6_longest.2.2.2.2.2) (ch := []) false rfl (by decide) k_pub_X6_longest (by decide) (by decide) (by decide) p_X6_longest q_X6_longest sX fbIn0 (argsIn_any [a0]),
  safe (as := [a0]) (k := 154) (d := 8) (fb := []) (bs := List.replicate 1 f32) (os := c_pub_X7_longest.2.2.2.2.2) (ch := []) false rfl (by decide) k_pub_X7_longest (by decide) (by decide) (by decide) p_X7_longest q_X7_longest sY fbIn0 (argsIn_any [a0])⟩
set_option maxRecDepth 1000000 in
theorem p_X6_splits : c_pub_X6_splits.2.2.2.2.2.all (fun o => pO bT (gX 999) o []) = true := by decide +kernel
theorem q_X6_splits : c_pub_X6_splits.2.2.2.2.2.all (fun o => kndB false o.2.1) = true := by decide +kernel
set_option maxRecDepth 1000000 in
theorem p_X7_splits : c_pub_X7_splits.2.2.2.2.2.all (fun o => pO bY gY o []) = true := by decide +kernel
theorem q_X7_splits : c_pub_X7_splits.2.2.2.2.2.all (fun o => kndB false o.2.1) = true := by decide +kernel
theorem ef_splits {f : Nat → Int} {hx hy : AH} (sX : Sd bT (gX 999) f hx) (sY : Sd bY gY f hy)  : ∃ (f' : Nat → Int), Ct mX6_splits 12 0 0 [.ref 0] hx (fun v hp' => (∃ w, v = some w ∧ kndV false w) ∧ hp'.length = (gX 999).length ∧ Sd bT (gX 999) f' hp') ∧ Ct mX7_splits 12 0 0 [.ref 0] hy (fun v hp' => (∃ w, v = some w ∧ kndV false w) ∧ hp'.length = gY.length ∧ Sd bY gY f' hp') :=
  ⟨_, safe (as := []) (k := 59) (d := 5) (fb := []) (bs := List.replicate 0 f32) (os := c_pub_X6_splits.2.2.2.2.2) (ch := []) false rfl (by decide) k_pub_X6_splits (by decide) (by decide) (by decide) p_X6_splits q_X6_splits sX fbIn0 (argsIn_any []),
  safe (as := []) (k := 157) (d := 8) (fb := []) (bs := List.replicate 0 f32) (os := c_pub_X7_splits.2.2.2.2.2) (ch := []) false rfl (by decide) k_pub_X7_splits (by decide) (by decide) (by decide) p_X7_splits q_X7_splits sY fbIn0 (argsIn_any [])⟩
set_option maxRecDepth 1000000 in
theorem p_X6_best : c_pub_X6_best.2.2.2.2.2.all (fun o => pO bT (gX 999) o []) = true := by decide +kernel
theorem q_X6_best : c_pub_X6_best.2.2.2.2.2.all (fun o => kndB false o.2.1) = true := by decide +kernel
set_option maxRecDepth 1000000 in
theorem p_X7_best : c_pub_X7_best.2.2.2.2.2.all (fun o => pO bY gY o []) = true := by decide +kernel
theorem q_X7_best : c_pub_X7_best.2.2.2.2.2.all (fun o => kndB false o.2.1) = true := by decide +kernel
theorem ef_best {f : Nat → Int} {hx hy : AH} (sX : Sd bT (gX 999) f hx) (sY : Sd bY gY f hy)  : ∃ (f' : Nat → Int), Ct mX6_best 12 0 0 [.ref 0] hx (fun v hp' => (∃ w, v = some w ∧ kndV false w) ∧ hp'.length = (gX 999).length ∧ Sd bT (gX 999) f' hp') ∧ Ct mX7_best 12 0 0 [.ref 0] hy (fun v hp' => (∃ w, v = some w ∧ kndV false w) ∧ hp'.length = gY.length ∧ Sd bY gY f' hp') :=
  ⟨_, safe (as := []) (k := 60) (d := 4) (fb := []) (bs := List.replicate 0 f32) (os := c_pub_X6_best.2.2.2.2.2) (ch := []) false rfl (by decide) k_pub_X6_best (by decide) (by decide) (by decide) p_X6_best q_X6_best sX fbIn0 (argsIn_any []),
  safe (as := []) (k := 159) (d := 8) (fb := []) (bs := List.replicate 0 f32) (os := c_pub_X7_best.2.2.2.2.2) (ch := []) false rfl (by decide) k_pub_X7_best (by decide) (by decide) (by decide) p_X7_best q_X7_best sY fbIn0 (argsIn_any [])⟩
set_option maxRecDepth 1000000 in
theorem p_X6_swear : c_pub_X6_swear.2.2.2.2.2.all (fun o => pO bT (gX 999) o []) = true := by decide +kernel
theorem q_X6_swear : c_pub_X6_swear.2.2.2.2.2.all (fun o => kndB false o.2.1) = true := by decide +kernel
set_option maxRecDepth 1000000 in
theorem p_X7_swear : c_pub_X7_swear.2.2.2.2.2.all (fun o => pO bY gY o []) = true := by decide +kernel
theorem q_X7_swear : c_pub_X7_swear.2.2.2.2.2.all (fun o => kndB false o.2.1) = true := by decide +kernel
theorem ef_swear {f : Nat → Int} {hx hy : AH} (sX : Sd bT (gX 999) f hx) (sY : Sd bY gY f hy) (a0 : Int32) (a1 : Int32) : ∃ (f' : Nat → Int), Ct mX6_swear 12 0 0 [.ref 0, .int a0, .int a1] hx (fun v hp' => (∃ w, v = some w ∧ kndV false w) ∧ hp'.length = (gX 999).length ∧ Sd bT (gX 999) f' hp') ∧ Ct mX7_swear 12 0 0 [.ref 0, .int a0, .int a1] hy (fun v hp' => (∃ w, v = some w ∧ kndV false w) ∧ hp'.length = gY.length ∧ Sd bY gY f' hp') :=
  ⟨_, safe (as := [a0, a1]) (k := 61) (d := 5) (fb := []) (bs := List.replicate 2 f32) (os := c_pub_X6_swear.2.2.2.2.2) (ch := []) false rfl (by decide) k_pub_X6_swear (by decide) (by decide) (by decide) p_X6_swear q_X6_swear sX fbIn0 (argsIn_any [a0, a1]),
  safe (as := [a0, a1]) (k := 161) (d := 7) (fb := []) (bs := List.replicate 2 f32) (os := c_pub_X7_swear.2.2.2.2.2) (ch := []) false rfl (by decide) k_pub_X7_swear (by decide) (by decide) (by decide) p_X7_swear q_X7_swear sY fbIn0 (argsIn_any [a0, a1])⟩
set_option maxRecDepth 1000000 in
theorem p_X6_keep : c_pub_X6_keep.2.2.2.2.2.all (fun o => pO bT (gX 999) o []) = true := by decide +kernel
theorem q_X6_keep : c_pub_X6_keep.2.2.2.2.2.all (fun o => kndB false o.2.1) = true := by decide +kernel
set_option maxRecDepth 1000000 in
theorem p_X7_keep : c_pub_X7_keep.2.2.2.2.2.all (fun o => pO bY gY o []) = true := by decide +kernel
theorem q_X7_keep : c_pub_X7_keep.2.2.2.2.2.all (fun o => kndB false o.2.1) = true := by decide +kernel
theorem ef_keep {f : Nat → Int} {hx hy : AH} (sX : Sd bT (gX 999) f hx) (sY : Sd bY gY f hy) (a0 : Int32) (a1 : Int32) : ∃ (f' : Nat → Int), Ct mX6_keep 12 0 0 [.ref 0, .int a0, .int a1] hx (fun v hp' => (∃ w, v = some w ∧ kndV false w) ∧ hp'.length = (gX 999).length ∧ Sd bT (gX 999) f' hp') ∧ Ct mX7_keep 12 0 0 [.ref 0, .int a0, .int a1] hy (fun v hp' => (∃ w, v = some w ∧ kndV false w) ∧ hp'.length = gY.length ∧ Sd bY gY f' hp') :=
  ⟨_, safe (as := [a0, a1]) (k := 62) (d := 5) (fb := []) (bs := List.replicate 2 f32) (os := c_pub_X6_keep.2.2.2.2.2) (ch := []) false rfl (by decide) k_pub_X6_keep (by decide) (by decide) (by decide) p_X6_keep q_X6_keep sX fbIn0 (argsIn_any [a0, a1]),
  safe (as := [a0, a1]) (k := 163) (d := 7) (fb := []) (bs := List.replicate 2 f32) (os := c_pub_X7_keep.2.2.2.2.2) (ch := []) false rfl (by decide) k_pub_X7_keep (by decide) (by decide) (by decide) p_X7_keep q_X7_keep sY fbIn0 (argsIn_any [a0, a1])⟩
set_option maxRecDepth 1000000 in
theorem p_X6_due : c_pub_X6_due.2.2.2.2.2.all (fun o => pO bT (gX 999) o []) = true := by decide +kernel
theorem q_X6_due : c_pub_X6_due.2.2.2.2.2.all (fun o => kndB false o.2.1) = true := by decide +kernel
set_option maxRecDepth 1000000 in
theorem p_X7_due : c_pub_X7_due.2.2.2.2.2.all (fun o => pO bY gY o []) = true := by decide +kernel
theorem q_X7_due : c_pub_X7_due.2.2.2.2.2.all (fun o => kndB false o.2.1) = true := by decide +kernel
theorem ef_due {f : Nat → Int} {hx hy : AH} (sX : Sd bT (gX 999) f hx) (sY : Sd bY gY f hy) (a0 : Int32) (a1 : Int32) : ∃ (f' : Nat → Int), Ct mX6_due 12 0 0 [.ref 0, .int a0, .int a1] hx (fun v hp' => (∃ w, v = some w ∧ kndV false w) ∧ hp'.length = (gX 999).length ∧ Sd bT (gX 999) f' hp') ∧ Ct mX7_due 12 0 0 [.ref 0, .int a0, .int a1] hy (fun v hp' => (∃ w, v = some w ∧ kndV false w) ∧ hp'.length = gY.length ∧ Sd bY gY f' hp') :=
  ⟨_, safe (as := [a0, a1]) (k := 63) (d := 5) (fb := []) (bs := List.replicate 2 f32) (os := c_pub_X6_due.2.2.2.2.2) (ch := []) false rfl (by decide) k_pub_X6_due (by decide) (by decide) (by decide) p_X6_due q_X6_due sX fbIn0 (argsIn_any [a0, a1]),
  safe (as := [a0, a1]) (k := 165) (d := 7) (fb := []) (bs := List.replicate 2 f32) (os := c_pub_X7_due.2.2.2.2.2) (ch := []) false rfl (by decide) k_pub_X7_due (by decide) (by decide) (by decide) p_X7_due q_X7_due sY fbIn0 (argsIn_any [a0, a1])⟩
set_option maxRecDepth 1000000 in
theorem p_X6_hush : c_pub_X6_hush.2.2.2.2.2.all (fun o => pO bT (gX 999) o []) = true := by decide +kernel
theorem q_X6_hush : c_pub_X6_hush.2.2.2.2.2.all (fun o => kndB false o.2.1) = true := by decide +kernel
set_option maxRecDepth 1000000 in
theorem p_X7_hush : c_pub_X7_hush.2.2.2.2.2.all (fun o => pO bY gY o []) = true := by decide +kernel
theorem q_X7_hush : c_pub_X7_hush.2.2.2.2.2.all (fun o => kndB false o.2.1) = true := by decide +kernel
theorem ef_hush {f : Nat → Int} {hx hy : AH} (sX : Sd bT (gX 999) f hx) (sY : Sd bY gY f hy) (a0 : Int32) : ∃ (f' : Nat → Int), Ct mX6_hush 12 0 0 [.ref 0, .int a0] hx (fun v hp' => (∃ w, v = some w ∧ kndV false w) ∧ hp'.length = (gX 999).length ∧ Sd bT (gX 999) f' hp') ∧ Ct mX7_hush 12 0 0 [.ref 0, .int a0] hy (fun v hp' => (∃ w, v = some w ∧ kndV false w) ∧ hp'.length = gY.length ∧ Sd bY gY f' hp') :=
  ⟨_, safe (as := [a0]) (k := 64) (d := 6) (fb := []) (bs := List.replicate 1 f32) (os := c_pub_X6_hush.2.2.2.2.2) (ch := []) false rfl (by decide) k_pub_X6_hush (by decide) (by decide) (by decide) p_X6_hush q_X6_hush sX fbIn0 (argsIn_any [a0]),
  safe (as := [a0]) (k := 169) (d := 7) (fb := []) (bs := List.replicate 1 f32) (os := c_pub_X7_hush.2.2.2.2.2) (ch := []) false rfl (by decide) k_pub_X7_hush (by decide) (by decide) (by decide) p_X7_hush q_X7_hush sY fbIn0 (argsIn_any [a0])⟩
set_option maxRecDepth 1000000 in
theorem l86_X6_seen : lfB (oraL []) 33 65 mX6_seen.ml bT (gX 999) [] [((-2147483648), (-1)), ((-2147483648), 2147483647), ((-2147483648), 2147483647)] (kLf bT (gX 999) [] (none, (-2))) = true := by decide +kernel
set_option maxRecDepth 1000000 in
theorem l87_X7_seen : lfB (oraL []) 35 170 mX7_seen.ml bY gY [] [((-2147483648), (-1)), ((-2147483648), 2147483647), ((-2147483648), 2147483647)] (kLf bY gY [] (none, (-2))) = true := by decide +kernel
set_option maxRecDepth 1000000 in
theorem l88_X6_seen : lfB (oraL []) 48 65 mX6_seen.ml bT (gX 999) [] [(0, 23), ((-2147483648), (-1)), ((-2147483648), 2147483647)] (kLf bT (gX 999) [] (none, (-2))) = true := by decide +kernel
set_option maxRecDepth 1000000 in
theorem l89_X7_seen : lfB (oraL []) 52 170 mX7_seen.ml bY gY [] [(0, 23), ((-2147483648), (-1)), ((-2147483648), 2147483647)] (kLf bY gY [] (none, (-2))) = true := by decide +kernel
set_option maxRecDepth 1000000 in
theorem l90_X6_seen : lfB (oraL []) 60 65 mX6_seen.ml bT (gX 999) [] [(0, 23), (0, 7), ((-2147483648), (-1))] (kLf bT (gX 999) [] (none, (-2))) = true := by decide +kernel
set_option maxRecDepth 1000000 in
theorem l91_X7_seen : lfB (oraL []) 66 170 mX7_seen.ml bY gY [] [(0, 23), (0, 7), ((-2147483648), (-1))] (kLf bY gY [] (none, (-2))) = true := by decide +kernel
set_option maxRecDepth 1000000 in
theorem l92_X6_seen : lfB (oraL []) 111 65 mX6_seen.ml bT (gX 999) [(7, (0, 7))] [(0, 23), (0, 7), (0, 99)] (kLf bT (gX 999) [(7, (some 7, 1))] (some 7, 1)) = true := by decide +kernel
set_option maxRecDepth 1000000 in
theorem l93_X7_seen : lfB (oraL []) 99 170 mX7_seen.ml bY gY [(7, (0, 7))] [(0, 23), (0, 7), (0, 99)] (kLf bY gY [(7, (some 7, 1))] (some 7, 1)) = true := by decide +kernel
set_option maxRecDepth 1000000 in
theorem l94_X6_seen : lfB (oraL []) 77 65 mX6_seen.ml bT (gX 999) [(7, (8, 8))] [(0, 23), (0, 7), (0, 99)] (kLf bT (gX 999) [] (none, (-4))) = true := by decide +kernel
set_option maxRecDepth 1000000 in
theorem l95_X7_seen : lfB (oraL []) 74 170 mX7_seen.ml bY gY [(7, (8, 8))] [(0, 23), (0, 7), (0, 99)] (kLf bY gY [] (none, (-4))) = true := by decide +kernel
set_option maxRecDepth 1000000 in
theorem l96_X6_seen : lfB (oraL []) 63 65 mX6_seen.ml bT (gX 999) [] [(0, 23), (0, 7), (100, 2147483647)] (kLf bT (gX 999) [] (none, (-2))) = true := by decide +kernel
set_option maxRecDepth 1000000 in
theorem l97_X7_seen : lfB (oraL []) 69 170 mX7_seen.ml bY gY [] [(0, 23), (0, 7), (100, 2147483647)] (kLf bY gY [] (none, (-2))) = true := by decide +kernel
set_option maxRecDepth 1000000 in
theorem l98_X6_seen : lfB (oraL []) 51 65 mX6_seen.ml bT (gX 999) [] [(0, 23), (8, 2147483647), ((-2147483648), 2147483647)] (kLf bT (gX 999) [] (none, (-2))) = true := by decide +kernel
set_option maxRecDepth 1000000 in
theorem l99_X7_seen : lfB (oraL []) 55 170 mX7_seen.ml bY gY [] [(0, 23), (8, 2147483647), ((-2147483648), 2147483647)] (kLf bY gY [] (none, (-2))) = true := by decide +kernel
set_option maxRecDepth 1000000 in
theorem l100_X6_seen : lfB (oraL []) 36 65 mX6_seen.ml bT (gX 999) [] [(24, 2147483647), ((-2147483648), 2147483647), ((-2147483648), 2147483647)] (kLf bT (gX 999) [] (none, (-2))) = true := by decide +kernel
set_option maxRecDepth 1000000 in
theorem l101_X7_seen : lfB (oraL []) 38 170 mX7_seen.ml bY gY [] [(24, 2147483647), ((-2147483648), 2147483647), ((-2147483648), 2147483647)] (kLf bY gY [] (none, (-2))) = true := by decide +kernel
theorem ex_seen {f : Nat → Int} {hx hy : AH} (sX : Sd bT (gX 999) f hx) (sY : Sd bY gY f hy) (a0 : Int32) (a1 : Int32) (a2 : Int32) : ∃ (w : Int32) (f' : Nat → Int), Ct mX6_seen 12 0 0 [.ref 0, .int a0, .int a1, .int a2] hx (fun v hp' => v = some (.int w) ∧ hp'.length = (gX 999).length ∧ Sd bT (gX 999) f' hp') ∧ Ct mX7_seen 12 0 0 [.ref 0, .int a0, .int a1, .int a2] hy (fun v hp' => v = some (.int w) ∧ hp'.length = gY.length ∧ Sd bY gY f' hp') := by
  have l0 := int32_lo a0
  have u0 := int32_hi a0
  have l1 := int32_lo a1
  have u1 := int32_hi a1
  have l2 := int32_lo a2
  have u2 := int32_hi a2
  have b0 := Sd_bnd sX (j := 0) (by decide) (b := (0, 23)) rfl
  have b1 := Sd_bnd sX (j := 1) (by decide) (b := (0, 49)) rfl
  have b5 := Sd_bnd sX (j := 5) (by decide) (b := (0, 6)) rfl
  have b6 := Sd_bnd sX (j := 6) (by decide) (b := (0, 6)) rfl
  have b7 := Sd_bnd sX (j := 7) (by decide) (b := (0, 8)) rfl
  simp only at b0 b1 b5 b6 b7
  rcases (show (((-2147483648) : Int) ≤ a0.toInt ∧ a0.toInt ≤ (-1)) ∨ ((0 : Int) ≤ a0.toInt ∧ a0.toInt ≤ 23) ∨ ((24 : Int) ≤ a0.toInt ∧ a0.toInt ≤ 2147483647) by omega) with c | c | c
  · exact ⟨_, _, leafK (as := [a0, a1, a2]) (ans := (none, (-2))) (ch := []) (fb := []) (bs := [((-2147483648), (-1)), ((-2147483648), 2147483647), ((-2147483648), 2147483647)]) (oraL_ok al0) rfl (by decide) (by decide) l86_X6_seen sX fbIn0 ⟨⟨by show ((-2147483648) : Int) ≤ a0.toInt; omega, by show a0.toInt ≤ ((-1) : Int); omega⟩, ⟨⟨by show ((-2147483648) : Int) ≤ a1.toInt; omega, by show a1.toInt ≤ (2147483647 : Int); omega⟩, ⟨⟨by show ((-2147483648) : Int) ≤ a2.toInt; omega, by show a2.toInt ≤ (2147483647 : Int); omega⟩, trivial⟩⟩⟩, leafK (as := [a0, a1, a2]) (ans := (none, (-2))) (ch := []) (fb := []) (bs := [((-2147483648), (-1)), ((-2147483648), 2147483647), ((-2147483648), 2147483647)]) (oraL_ok al0) rfl (by decide) (by decide) l87_X7_seen sY fbIn0 ⟨⟨by show ((-2147483648) : Int) ≤ a0.toInt; omega, by show a0.toInt ≤ ((-1) : Int); omega⟩, ⟨⟨by show ((-2147483648) : Int) ≤ a1.toInt; omega, by show a1.toInt ≤ (2147483647 : Int); omega⟩, ⟨⟨by show ((-2147483648) : Int) ≤ a2.toInt; omega, by show a2.toInt ≤ (2147483647 : Int); omega⟩, trivial⟩⟩⟩⟩
  · rcases (show (((-2147483648) : Int) ≤ a1.toInt ∧ a1.toInt ≤ (-1)) ∨ ((0 : Int) ≤ a1.toInt ∧ a1.toInt ≤ 7) ∨ ((8 : Int) ≤ a1.toInt ∧ a1.toInt ≤ 2147483647) by omega) with c | c | c
    · exact ⟨_, _, leafK (as := [a0, a1, a2]) (ans := (none, (-2))) (ch := []) (fb := []) (bs := [(0, 23), ((-2147483648), (-1)), ((-2147483648), 2147483647)]) (oraL_ok al0) rfl (by decide) (by decide) l88_X6_seen sX fbIn0 ⟨⟨by show (0 : Int) ≤ a0.toInt; omega, by show a0.toInt ≤ (23 : Int); omega⟩, ⟨⟨by show ((-2147483648) : Int) ≤ a1.toInt; omega, by show a1.toInt ≤ ((-1) : Int); omega⟩, ⟨⟨by show ((-2147483648) : Int) ≤ a2.toInt; omega, by show a2.toInt ≤ (2147483647 : Int); omega⟩, trivial⟩⟩⟩, leafK (as := [a0, a1, a2]) (ans := (none, (-2))) (ch := []) (fb := []) (bs := [(0, 23), ((-2147483648), (-1)), ((-2147483648), 2147483647)]) (oraL_ok al0) rfl (by decide) (by decide) l89_X7_seen sY fbIn0 ⟨⟨by show (0 : Int) ≤ a0.toInt; omega, by show a0.toInt ≤ (23 : Int); omega⟩, ⟨⟨by show ((-2147483648) : Int) ≤ a1.toInt; omega, by show a1.toInt ≤ ((-1) : Int); omega⟩, ⟨⟨by show ((-2147483648) : Int) ≤ a2.toInt; omega, by show a2.toInt ≤ (2147483647 : Int); omega⟩, trivial⟩⟩⟩⟩
    · rcases (show (((-2147483648) : Int) ≤ a2.toInt ∧ a2.toInt ≤ (-1)) ∨ ((0 : Int) ≤ a2.toInt ∧ a2.toInt ≤ 99) ∨ ((100 : Int) ≤ a2.toInt ∧ a2.toInt ≤ 2147483647) by omega) with c | c | c
      · exact ⟨_, _, leafK (as := [a0, a1, a2]) (ans := (none, (-2))) (ch := []) (fb := []) (bs := [(0, 23), (0, 7), ((-2147483648), (-1))]) (oraL_ok al0) rfl (by decide) (by decide) l90_X6_seen sX fbIn0 ⟨⟨by show (0 : Int) ≤ a0.toInt; omega, by show a0.toInt ≤ (23 : Int); omega⟩, ⟨⟨by show (0 : Int) ≤ a1.toInt; omega, by show a1.toInt ≤ (7 : Int); omega⟩, ⟨⟨by show ((-2147483648) : Int) ≤ a2.toInt; omega, by show a2.toInt ≤ ((-1) : Int); omega⟩, trivial⟩⟩⟩, leafK (as := [a0, a1, a2]) (ans := (none, (-2))) (ch := []) (fb := []) (bs := [(0, 23), (0, 7), ((-2147483648), (-1))]) (oraL_ok al0) rfl (by decide) (by decide) l91_X7_seen sY fbIn0 ⟨⟨by show (0 : Int) ≤ a0.toInt; omega, by show a0.toInt ≤ (23 : Int); omega⟩, ⟨⟨by show (0 : Int) ≤ a1.toInt; omega, by show a1.toInt ≤ (7 : Int); omega⟩, ⟨⟨by show ((-2147483648) : Int) ≤ a2.toInt; omega, by show a2.toInt ≤ ((-1) : Int); omega⟩, trivial⟩⟩⟩⟩
      · rcases (show ((0 : Int) ≤ f 7 ∧ f 7 ≤ 7) ∨ ((8 : Int) ≤ f 7 ∧ f 7 ≤ 8) by omega) with c | c
        · exact ⟨_, _, leafK (as := [a0, a1, a2]) (ans := (some 7, 1)) (ch := [(7, (some 7, 1))]) (fb := [(7, (0, 7))]) (bs := [(0, 23), (0, 7), (0, 99)]) (oraL_ok al0) rfl (by decide) (by decide) l92_X6_seen sX (fbIn1 (by omega) (by omega)) ⟨⟨by show (0 : Int) ≤ a0.toInt; omega, by show a0.toInt ≤ (23 : Int); omega⟩, ⟨⟨by show (0 : Int) ≤ a1.toInt; omega, by show a1.toInt ≤ (7 : Int); omega⟩, ⟨⟨by show (0 : Int) ≤ a2.toInt; omega, by show a2.toInt ≤ (99 : Int); omega⟩, trivial⟩⟩⟩, leafK (as := [a0, a1, a2]) (ans := (some 7, 1)) (ch := [(7, (some 7, 1))]) (fb := [(7, (0, 7))]) (bs := [(0, 23), (0, 7), (0, 99)]) (oraL_ok al0) rfl (by decide) (by decide) l93_X7_seen sY (fbIn1 (by omega) (by omega)) ⟨⟨by show (0 : Int) ≤ a0.toInt; omega, by show a0.toInt ≤ (23 : Int); omega⟩, ⟨⟨by show (0 : Int) ≤ a1.toInt; omega, by show a1.toInt ≤ (7 : Int); omega⟩, ⟨⟨by show (0 : Int) ≤ a2.toInt; omega, by show a2.toInt ≤ (99 : Int); omega⟩, trivial⟩⟩⟩⟩
        · exact ⟨_, _, leafK (as := [a0, a1, a2]) (ans := (none, (-4))) (ch := []) (fb := [(7, (8, 8))]) (bs := [(0, 23), (0, 7), (0, 99)]) (oraL_ok al0) rfl (by decide) (by decide) l94_X6_seen sX (fbIn1 (by omega) (by omega)) ⟨⟨by show (0 : Int) ≤ a0.toInt; omega, by show a0.toInt ≤ (23 : Int); omega⟩, ⟨⟨by show (0 : Int) ≤ a1.toInt; omega, by show a1.toInt ≤ (7 : Int); omega⟩, ⟨⟨by show (0 : Int) ≤ a2.toInt; omega, by show a2.toInt ≤ (99 : Int); omega⟩, trivial⟩⟩⟩, leafK (as := [a0, a1, a2]) (ans := (none, (-4))) (ch := []) (fb := [(7, (8, 8))]) (bs := [(0, 23), (0, 7), (0, 99)]) (oraL_ok al0) rfl (by decide) (by decide) l95_X7_seen sY (fbIn1 (by omega) (by omega)) ⟨⟨by show (0 : Int) ≤ a0.toInt; omega, by show a0.toInt ≤ (23 : Int); omega⟩, ⟨⟨by show (0 : Int) ≤ a1.toInt; omega, by show a1.toInt ≤ (7 : Int); omega⟩, ⟨⟨by show (0 : Int) ≤ a2.toInt; omega, by show a2.toInt ≤ (99 : Int); omega⟩, trivial⟩⟩⟩⟩
      · exact ⟨_, _, leafK (as := [a0, a1, a2]) (ans := (none, (-2))) (ch := []) (fb := []) (bs := [(0, 23), (0, 7), (100, 2147483647)]) (oraL_ok al0) rfl (by decide) (by decide) l96_X6_seen sX fbIn0 ⟨⟨by show (0 : Int) ≤ a0.toInt; omega, by show a0.toInt ≤ (23 : Int); omega⟩, ⟨⟨by show (0 : Int) ≤ a1.toInt; omega, by show a1.toInt ≤ (7 : Int); omega⟩, ⟨⟨by show (100 : Int) ≤ a2.toInt; omega, by show a2.toInt ≤ (2147483647 : Int); omega⟩, trivial⟩⟩⟩, leafK (as := [a0, a1, a2]) (ans := (none, (-2))) (ch := []) (fb := []) (bs := [(0, 23), (0, 7), (100, 2147483647)]) (oraL_ok al0) rfl (by decide) (by decide) l97_X7_seen sY fbIn0 ⟨⟨by show (0 : Int) ≤ a0.toInt; omega, by show a0.toInt ≤ (23 : Int); omega⟩, ⟨⟨by show (0 : Int) ≤ a1.toInt; omega, by show a1.toInt ≤ (7 : Int); omega⟩, ⟨⟨by show (100 : Int) ≤ a2.toInt; omega, by show a2.toInt ≤ (2147483647 : Int); omega⟩, trivial⟩⟩⟩⟩
    · exact ⟨_, _, leafK (as := [a0, a1, a2]) (ans := (none, (-2))) (ch := []) (fb := []) (bs := [(0, 23), (8, 2147483647), ((-2147483648), 2147483647)]) (oraL_ok al0) rfl (by decide) (by decide) l98_X6_seen sX fbIn0 ⟨⟨by show (0 : Int) ≤ a0.toInt; omega, by show a0.toInt ≤ (23 : Int); omega⟩, ⟨⟨by show (8 : Int) ≤ a1.toInt; omega, by show a1.toInt ≤ (2147483647 : Int); omega⟩, ⟨⟨by show ((-2147483648) : Int) ≤ a2.toInt; omega, by show a2.toInt ≤ (2147483647 : Int); omega⟩, trivial⟩⟩⟩, leafK (as := [a0, a1, a2]) (ans := (none, (-2))) (ch := []) (fb := []) (bs := [(0, 23), (8, 2147483647), ((-2147483648), 2147483647)]) (oraL_ok al0) rfl (by decide) (by decide) l99_X7_seen sY fbIn0 ⟨⟨by show (0 : Int) ≤ a0.toInt; omega, by show a0.toInt ≤ (23 : Int); omega⟩, ⟨⟨by show (8 : Int) ≤ a1.toInt; omega, by show a1.toInt ≤ (2147483647 : Int); omega⟩, ⟨⟨by show ((-2147483648) : Int) ≤ a2.toInt; omega, by show a2.toInt ≤ (2147483647 : Int); omega⟩, trivial⟩⟩⟩⟩
  · exact ⟨_, _, leafK (as := [a0, a1, a2]) (ans := (none, (-2))) (ch := []) (fb := []) (bs := [(24, 2147483647), ((-2147483648), 2147483647), ((-2147483648), 2147483647)]) (oraL_ok al0) rfl (by decide) (by decide) l100_X6_seen sX fbIn0 ⟨⟨by show (24 : Int) ≤ a0.toInt; omega, by show a0.toInt ≤ (2147483647 : Int); omega⟩, ⟨⟨by show ((-2147483648) : Int) ≤ a1.toInt; omega, by show a1.toInt ≤ (2147483647 : Int); omega⟩, ⟨⟨by show ((-2147483648) : Int) ≤ a2.toInt; omega, by show a2.toInt ≤ (2147483647 : Int); omega⟩, trivial⟩⟩⟩, leafK (as := [a0, a1, a2]) (ans := (none, (-2))) (ch := []) (fb := []) (bs := [(24, 2147483647), ((-2147483648), 2147483647), ((-2147483648), 2147483647)]) (oraL_ok al0) rfl (by decide) (by decide) l101_X7_seen sY fbIn0 ⟨⟨by show (24 : Int) ≤ a0.toInt; omega, by show a0.toInt ≤ (2147483647 : Int); omega⟩, ⟨⟨by show ((-2147483648) : Int) ≤ a1.toInt; omega, by show a1.toInt ≤ (2147483647 : Int); omega⟩, ⟨⟨by show ((-2147483648) : Int) ≤ a2.toInt; omega, by show a2.toInt ≤ (2147483647 : Int); omega⟩, trivial⟩⟩⟩⟩
theorem ef_seen {f : Nat → Int} {hx hy : AH} (sX : Sd bT (gX 999) f hx) (sY : Sd bY gY f hy) (a0 : Int32) (a1 : Int32) (a2 : Int32) : ∃ (f' : Nat → Int), Ct mX6_seen 12 0 0 [.ref 0, .int a0, .int a1, .int a2] hx (fun v hp' => (∃ w, v = some w ∧ kndV false w) ∧ hp'.length = (gX 999).length ∧ Sd bT (gX 999) f' hp') ∧ Ct mX7_seen 12 0 0 [.ref 0, .int a0, .int a1, .int a2] hy (fun v hp' => (∃ w, v = some w ∧ kndV false w) ∧ hp'.length = gY.length ∧ Sd bY gY f' hp') := by
  obtain ⟨w, f', cX, cY⟩ := ex_seen sX sY a0 a1 a2
  exact ⟨f', Ct_weak cX (fun v hp' q => ⟨⟨_, q.1, knd_int w⟩, q.2⟩), Ct_weak cY (fun v hp' q => ⟨⟨_, q.1, knd_int w⟩, q.2⟩)⟩
set_option maxRecDepth 1000000 in
theorem l102_X6_forget : lfB (oraL []) 30 66 mX6_forget.ml bT (gX 999) [] [] (kLf bT (gX 999) [(7, (none, 0))] (some 7, 0)) = true := by decide +kernel
set_option maxRecDepth 1000000 in
theorem l103_X7_forget : lfB (oraL []) 28 171 mX7_forget.ml bY gY [] [] (kLf bY gY [(7, (none, 0))] (some 7, 0)) = true := by decide +kernel
theorem ex_forget {f : Nat → Int} {hx hy : AH} (sX : Sd bT (gX 999) f hx) (sY : Sd bY gY f hy)  : ∃ (w : Int32) (f' : Nat → Int), Ct mX6_forget 12 0 0 [.ref 0] hx (fun v hp' => v = some (.int w) ∧ hp'.length = (gX 999).length ∧ Sd bT (gX 999) f' hp') ∧ Ct mX7_forget 12 0 0 [.ref 0] hy (fun v hp' => v = some (.int w) ∧ hp'.length = gY.length ∧ Sd bY gY f' hp') := by
  have b0 := Sd_bnd sX (j := 0) (by decide) (b := (0, 23)) rfl
  have b1 := Sd_bnd sX (j := 1) (by decide) (b := (0, 49)) rfl
  have b5 := Sd_bnd sX (j := 5) (by decide) (b := (0, 6)) rfl
  have b6 := Sd_bnd sX (j := 6) (by decide) (b := (0, 6)) rfl
  have b7 := Sd_bnd sX (j := 7) (by decide) (b := (0, 8)) rfl
  simp only at b0 b1 b5 b6 b7
  exact ⟨_, _, leafK (as := []) (ans := (some 7, 0)) (ch := [(7, (none, 0))]) (fb := []) (bs := []) (oraL_ok al0) rfl (by decide) (by decide) l102_X6_forget sX fbIn0 trivial, leafK (as := []) (ans := (some 7, 0)) (ch := [(7, (none, 0))]) (fb := []) (bs := []) (oraL_ok al0) rfl (by decide) (by decide) l103_X7_forget sY fbIn0 trivial⟩
theorem ef_forget {f : Nat → Int} {hx hy : AH} (sX : Sd bT (gX 999) f hx) (sY : Sd bY gY f hy)  : ∃ (f' : Nat → Int), Ct mX6_forget 12 0 0 [.ref 0] hx (fun v hp' => (∃ w, v = some w ∧ kndV false w) ∧ hp'.length = (gX 999).length ∧ Sd bT (gX 999) f' hp') ∧ Ct mX7_forget 12 0 0 [.ref 0] hy (fun v hp' => (∃ w, v = some w ∧ kndV false w) ∧ hp'.length = gY.length ∧ Sd bY gY f' hp') := by
  obtain ⟨w, f', cX, cY⟩ := ex_forget sX sY 
  exact ⟨f', Ct_weak cX (fun v hp' q => ⟨⟨_, q.1, knd_int w⟩, q.2⟩), Ct_weak cY (fun v hp' q => ⟨⟨_, q.1, knd_int w⟩, q.2⟩)⟩
set_option maxRecDepth 1000000 in
theorem p_X6_never : c_pub_X6_never.2.2.2.2.2.all (fun o => pO bT (gX 999) o []) = true := by decide +kernel
theorem q_X6_never : c_pub_X6_never.2.2.2.2.2.all (fun o => kndB false o.2.1) = true := by decide +kernel
set_option maxRecDepth 1000000 in
theorem p_X7_never : c_pub_X7_never.2.2.2.2.2.all (fun o => pO bY gY o []) = true := by decide +kernel
theorem q_X7_never : c_pub_X7_never.2.2.2.2.2.all (fun o => kndB false o.2.1) = true := by decide +kernel
theorem ef_never {f : Nat → Int} {hx hy : AH} (sX : Sd bT (gX 999) f hx) (sY : Sd bY gY f hy)  : ∃ (f' : Nat → Int), Ct mX6_never 12 0 0 [.ref 0] hx (fun v hp' => (∃ w, v = some w ∧ kndV false w) ∧ hp'.length = (gX 999).length ∧ Sd bT (gX 999) f' hp') ∧ Ct mX7_never 12 0 0 [.ref 0] hy (fun v hp' => (∃ w, v = some w ∧ kndV false w) ∧ hp'.length = gY.length ∧ Sd bY gY f' hp') :=
  ⟨_, safe (as := []) (k := 67) (d := 5) (fb := []) (bs := List.replicate 0 f32) (os := c_pub_X6_never.2.2.2.2.2) (ch := []) false rfl (by decide) k_pub_X6_never (by decide) (by decide) (by decide) p_X6_never q_X6_never sX fbIn0 (argsIn_any []),
  safe (as := []) (k := 174) (d := 7) (fb := []) (bs := List.replicate 0 f32) (os := c_pub_X7_never.2.2.2.2.2) (ch := []) false rfl (by decide) k_pub_X7_never (by decide) (by decide) (by decide) p_X7_never q_X7_never sY fbIn0 (argsIn_any [])⟩
set_option maxRecDepth 1000000 in
theorem p_X6_was : c_pub_X6_was.2.2.2.2.2.all (fun o => pO bT (gX 999) o []) = true := by decide +kernel
theorem q_X6_was : c_pub_X6_was.2.2.2.2.2.all (fun o => kndB false o.2.1) = true := by decide +kernel
set_option maxRecDepth 1000000 in
theorem p_X7_was : c_pub_X7_was.2.2.2.2.2.all (fun o => pO bY gY o []) = true := by decide +kernel
theorem q_X7_was : c_pub_X7_was.2.2.2.2.2.all (fun o => kndB false o.2.1) = true := by decide +kernel
theorem ef_was {f : Nat → Int} {hx hy : AH} (sX : Sd bT (gX 999) f hx) (sY : Sd bY gY f hy) (a0 : Int32) (a1 : Int32) : ∃ (f' : Nat → Int), Ct mX6_was 12 0 0 [.ref 0, .int a0, .int a1] hx (fun v hp' => (∃ w, v = some w ∧ kndV false w) ∧ hp'.length = (gX 999).length ∧ Sd bT (gX 999) f' hp') ∧ Ct mX7_was 12 0 0 [.ref 0, .int a0, .int a1] hy (fun v hp' => (∃ w, v = some w ∧ kndV false w) ∧ hp'.length = gY.length ∧ Sd bY gY f' hp') :=
  ⟨_, safe (as := [a0, a1]) (k := 68) (d := 6) (fb := []) (bs := List.replicate 2 f32) (os := c_pub_X6_was.2.2.2.2.2) (ch := []) false rfl (by decide) k_pub_X6_was (by decide) (by decide) (by decide) p_X6_was q_X6_was sX fbIn0 (argsIn_any [a0, a1]),
  safe (as := [a0, a1]) (k := 177) (d := 7) (fb := []) (bs := List.replicate 2 f32) (os := c_pub_X7_was.2.2.2.2.2) (ch := []) false rfl (by decide) k_pub_X7_was (by decide) (by decide) (by decide) p_X7_was q_X7_was sY fbIn0 (argsIn_any [a0, a1])⟩
set_option maxRecDepth 1000000 in
theorem p_X6_ask : c_pub_X6_ask.2.2.2.2.2.all (fun o => pO bT (gX 999) o []) = true := by decide +kernel
theorem q_X6_ask : c_pub_X6_ask.2.2.2.2.2.all (fun o => kndB false o.2.1) = true := by decide +kernel
set_option maxRecDepth 1000000 in
theorem p_X7_ask : c_pub_X7_ask.2.2.2.2.2.all (fun o => pO bY gY o []) = true := by decide +kernel
theorem q_X7_ask : c_pub_X7_ask.2.2.2.2.2.all (fun o => kndB false o.2.1) = true := by decide +kernel
theorem ef_ask {f : Nat → Int} {hx hy : AH} (sX : Sd bT (gX 999) f hx) (sY : Sd bY gY f hy) (a0 : Int32) : ∃ (f' : Nat → Int), Ct mX6_ask 12 0 0 [.ref 0, .int a0] hx (fun v hp' => (∃ w, v = some w ∧ kndV false w) ∧ hp'.length = (gX 999).length ∧ Sd bT (gX 999) f' hp') ∧ Ct mX7_ask 12 0 0 [.ref 0, .int a0] hy (fun v hp' => (∃ w, v = some w ∧ kndV false w) ∧ hp'.length = gY.length ∧ Sd bY gY f' hp') :=
  ⟨_, safe (as := [a0]) (k := 69) (d := 6) (fb := []) (bs := List.replicate 1 f32) (os := c_pub_X6_ask.2.2.2.2.2) (ch := []) false rfl (by decide) k_pub_X6_ask (by decide) (by decide) (by decide) p_X6_ask q_X6_ask sX fbIn0 (argsIn_any [a0]),
  safe (as := [a0]) (k := 179) (d := 8) (fb := []) (bs := List.replicate 1 f32) (os := c_pub_X7_ask.2.2.2.2.2) (ch := []) false rfl (by decide) k_pub_X7_ask (by decide) (by decide) (by decide) p_X7_ask q_X7_ask sY fbIn0 (argsIn_any [a0])⟩
set_option maxRecDepth 1000000 in
theorem p_X6_word : c_pub_X6_word.2.2.2.2.2.all (fun o => pO bT (gX 999) o []) = true := by decide +kernel
theorem q_X6_word : c_pub_X6_word.2.2.2.2.2.all (fun o => kndB true o.2.1) = true := by decide +kernel
set_option maxRecDepth 1000000 in
theorem p_X7_word : c_pub_X7_word.2.2.2.2.2.all (fun o => pO bY gY o []) = true := by decide +kernel
theorem q_X7_word : c_pub_X7_word.2.2.2.2.2.all (fun o => kndB true o.2.1) = true := by decide +kernel
theorem ef_word {f : Nat → Int} {hx hy : AH} (sX : Sd bT (gX 999) f hx) (sY : Sd bY gY f hy) (a0 : Int32) (a1 : Int32) (a2 : Int32) (a3 : Int32) : ∃ (f' : Nat → Int), Ct mX6_word 12 0 0 [.ref 0, .int a0, .int a1, .int a2, .int a3] hx (fun v hp' => (∃ w, v = some w ∧ kndV true w) ∧ hp'.length = (gX 999).length ∧ Sd bT (gX 999) f' hp') ∧ Ct mX7_word 12 0 0 [.ref 0, .int a0, .int a1, .int a2, .int a3] hy (fun v hp' => (∃ w, v = some w ∧ kndV true w) ∧ hp'.length = gY.length ∧ Sd bY gY f' hp') :=
  ⟨_, safe (as := [a0, a1, a2, a3]) (k := 70) (d := 4) (fb := []) (bs := List.replicate 4 f32) (os := c_pub_X6_word.2.2.2.2.2) (ch := []) true rfl (by decide) k_pub_X6_word (by decide) (by decide) (by decide) p_X6_word q_X6_word sX fbIn0 (argsIn_any [a0, a1, a2, a3]),
  safe (as := [a0, a1, a2, a3]) (k := 181) (d := 7) (fb := []) (bs := List.replicate 4 f32) (os := c_pub_X7_word.2.2.2.2.2) (ch := []) true rfl (by decide) k_pub_X7_word (by decide) (by decide) (by decide) p_X7_word q_X7_word sY fbIn0 (argsIn_any [a0, a1, a2, a3])⟩
set_option maxRecDepth 1000000 in
theorem p_X6_year : c_pub_X6_year.2.2.2.2.2.all (fun o => pO bT (gX 999) o []) = true := by decide +kernel
theorem q_X6_year : c_pub_X6_year.2.2.2.2.2.all (fun o => kndB false o.2.1) = true := by decide +kernel
set_option maxRecDepth 1000000 in
theorem p_X7_year : c_pub_X7_year.2.2.2.2.2.all (fun o => pO bY gY o []) = true := by decide +kernel
theorem q_X7_year : c_pub_X7_year.2.2.2.2.2.all (fun o => kndB false o.2.1) = true := by decide +kernel
theorem ef_year {f : Nat → Int} {hx hy : AH} (sX : Sd bT (gX 999) f hx) (sY : Sd bY gY f hy) (a0 : Int32) (a1 : Int32) (a2 : Int32) : ∃ (f' : Nat → Int), Ct mX6_year 12 0 0 [.ref 0, .int a0, .int a1, .int a2] hx (fun v hp' => (∃ w, v = some w ∧ kndV false w) ∧ hp'.length = (gX 999).length ∧ Sd bT (gX 999) f' hp') ∧ Ct mX7_year 12 0 0 [.ref 0, .int a0, .int a1, .int a2] hy (fun v hp' => (∃ w, v = some w ∧ kndV false w) ∧ hp'.length = gY.length ∧ Sd bY gY f' hp') :=
  ⟨_, safe (as := [a0, a1, a2]) (k := 71) (d := 4) (fb := []) (bs := List.replicate 3 f32) (os := c_pub_X6_year.2.2.2.2.2) (ch := []) false rfl (by decide) k_pub_X6_year (by decide) (by decide) (by decide) p_X6_year q_X6_year sX fbIn0 (argsIn_any [a0, a1, a2]),
  safe (as := [a0, a1, a2]) (k := 183) (d := 7) (fb := []) (bs := List.replicate 3 f32) (os := c_pub_X7_year.2.2.2.2.2) (ch := []) false rfl (by decide) k_pub_X7_year (by decide) (by decide) (by decide) p_X7_year q_X7_year sY fbIn0 (argsIn_any [a0, a1, a2])⟩
set_option maxRecDepth 1000000 in
theorem l104_X6_sheet : lfB (oraL []) 33 72 mX6_sheet.ml bT (gX 999) [] [((-2147483648), (-1)), ((-2147483648), 2147483647), ((-2147483648), 2147483647)] (kLf bT (gX 999) [] (none, (-2))) = true := by decide +kernel
set_option maxRecDepth 1000000 in
theorem l105_X7_sheet : lfB (oraL []) 35 186 mX7_sheet.ml bY gY [] [((-2147483648), (-1)), ((-2147483648), 2147483647), ((-2147483648), 2147483647)] (kLf bY gY [] (none, (-2))) = true := by decide +kernel
set_option maxRecDepth 1000000 in
theorem l106_X6_sheet : lfB (oraL []) 48 72 mX6_sheet.ml bT (gX 999) [] [(0, 3), ((-2147483648), (-1)), ((-2147483648), 2147483647)] (kLf bT (gX 999) [] (none, (-2))) = true := by decide +kernel
set_option maxRecDepth 1000000 in
theorem l107_X7_sheet : lfB (oraL []) 49 186 mX7_sheet.ml bY gY [] [(0, 3), ((-2147483648), (-1)), ((-2147483648), 2147483647)] (kLf bY gY [] (none, (-2))) = true := by decide +kernel
set_option maxRecDepth 1000000 in
theorem l108_X6_sheet : lfB (oraL []) 66 72 mX6_sheet.ml bT (gX 999) [] [(0, 3), (0, 2), ((-2147483648), (-1))] (kLf bT (gX 999) [] (none, (-15))) = true := by decide +kernel
set_option maxRecDepth 1000000 in
theorem l109_X7_sheet : lfB (oraL []) 67 186 mX7_sheet.ml bY gY [] [(0, 3), (0, 2), ((-2147483648), (-1))] (kLf bY gY [] (none, (-15))) = true := by decide +kernel
set_option maxRecDepth 1000000 in
theorem l110_X6_sheet : lfB (oraL [c_J7_fill__4, c_J7_fill__5, c_J7_fill__6, c_J7_fill__7]) 80 72 mX6_sheet.ml bT (gX 999) [] [(0, 3), (0, 2), (0, 60)] (kLf bT (gX 999) [] (some 102, 0)) = true := by decide +kernel
def c_lf_X7_sheet : CTR := (186, 2, (bY ++ [(0, 3), (0, 2), (0, 60)]), [.inr (.inl 0), .inl (some 13, 0), .inl (some 14, 0), .inl (some 15, 0)], (gY), [((bY ++ [(0, 3), (0, 2), (0, 60)]), some (.inl (some 15, 0)), (gY))])
def h_lf_X7_sheet : List HD := [(59, (bY ++ [(0, 3), (0, 2), (0, 60), (0, 60)]), [some (.inr (.inl 0)), some (.inl (some 13, 0)), some (.inl (some 14, 0)), some (.inl (some 15, 0)), some (.inl (some 16, 0))], (gY), [(true, (none, 1)), (true, (some 16, 0))])]
set_option maxRecDepth 1000000 in
theorem k_lf_X7_sheet : ctrOk c_lf_X7_sheet := ctr_by (al0) c_lf_X7_sheet 74 mX7_sheet rfl h_lf_X7_sheet (by decide +kernel) (by decide +kernel) (hc (by decide +kernel) (hn _ _ _ _))
set_option maxRecDepth 1000000 in
theorem l111_X7_sheetp : c_lf_X7_sheet.2.2.2.2.2.all (fun o => pO bY gY o []) = true := by decide +kernel
set_option maxRecDepth 1000000 in
theorem l112_X6_sheet : lfB (oraL []) 55 72 mX6_sheet.ml bT (gX 999) [] [(0, 3), (0, 2), (61, 2147483647)] (kLf bT (gX 999) [] (none, (-2))) = true := by decide +kernel
set_option maxRecDepth 1000000 in
theorem l113_X7_sheet : lfB (oraL []) 56 186 mX7_sheet.ml bY gY [] [(0, 3), (0, 2), (61, 2147483647)] (kLf bY gY [] (none, (-2))) = true := by decide +kernel
set_option maxRecDepth 1000000 in
theorem l114_X6_sheet : lfB (oraL []) 51 72 mX6_sheet.ml bT (gX 999) [] [(0, 3), (3, 2147483647), ((-2147483648), 2147483647)] (kLf bT (gX 999) [] (none, (-2))) = true := by decide +kernel
set_option maxRecDepth 1000000 in
theorem l115_X7_sheet : lfB (oraL []) 52 186 mX7_sheet.ml bY gY [] [(0, 3), (3, 2147483647), ((-2147483648), 2147483647)] (kLf bY gY [] (none, (-2))) = true := by decide +kernel
set_option maxRecDepth 1000000 in
theorem l116_X6_sheet : lfB (oraL []) 36 72 mX6_sheet.ml bT (gX 999) [] [(4, 2147483647), ((-2147483648), 2147483647), ((-2147483648), 2147483647)] (kLf bT (gX 999) [] (none, (-2))) = true := by decide +kernel
set_option maxRecDepth 1000000 in
theorem l117_X7_sheet : lfB (oraL []) 38 186 mX7_sheet.ml bY gY [] [(4, 2147483647), ((-2147483648), 2147483647), ((-2147483648), 2147483647)] (kLf bY gY [] (none, (-2))) = true := by decide +kernel
theorem ex_sheet {f : Nat → Int} {hx hy : AH} (sX : Sd bT (gX 999) f hx) (sY : Sd bY gY f hy) (a0 : Int32) (a1 : Int32) (a2 : Int32) : ∃ (w : Int32) (f' : Nat → Int), Ct mX6_sheet 12 0 0 [.ref 0, .int a0, .int a1, .int a2] hx (fun v hp' => v = some (.int w) ∧ hp'.length = (gX 999).length ∧ Sd bT (gX 999) f' hp') ∧ Ct mX7_sheet 12 0 0 [.ref 0, .int a0, .int a1, .int a2] hy (fun v hp' => v = some (.int w) ∧ hp'.length = gY.length ∧ Sd bY gY f' hp') := by
  have l0 := int32_lo a0
  have u0 := int32_hi a0
  have l1 := int32_lo a1
  have u1 := int32_hi a1
  have l2 := int32_lo a2
  have u2 := int32_hi a2
  have b0 := Sd_bnd sX (j := 0) (by decide) (b := (0, 23)) rfl
  have b1 := Sd_bnd sX (j := 1) (by decide) (b := (0, 49)) rfl
  have b5 := Sd_bnd sX (j := 5) (by decide) (b := (0, 6)) rfl
  have b6 := Sd_bnd sX (j := 6) (by decide) (b := (0, 6)) rfl
  have b7 := Sd_bnd sX (j := 7) (by decide) (b := (0, 8)) rfl
  simp only at b0 b1 b5 b6 b7
  rcases (show (((-2147483648) : Int) ≤ a0.toInt ∧ a0.toInt ≤ (-1)) ∨ ((0 : Int) ≤ a0.toInt ∧ a0.toInt ≤ 3) ∨ ((4 : Int) ≤ a0.toInt ∧ a0.toInt ≤ 2147483647) by omega) with c | c | c
  · exact ⟨_, _, leafK (as := [a0, a1, a2]) (ans := (none, (-2))) (ch := []) (fb := []) (bs := [((-2147483648), (-1)), ((-2147483648), 2147483647), ((-2147483648), 2147483647)]) (oraL_ok al0) rfl (by decide) (by decide) l104_X6_sheet sX fbIn0 ⟨⟨by show ((-2147483648) : Int) ≤ a0.toInt; omega, by show a0.toInt ≤ ((-1) : Int); omega⟩, ⟨⟨by show ((-2147483648) : Int) ≤ a1.toInt; omega, by show a1.toInt ≤ (2147483647 : Int); omega⟩, ⟨⟨by show ((-2147483648) : Int) ≤ a2.toInt; omega, by show a2.toInt ≤ (2147483647 : Int); omega⟩, trivial⟩⟩⟩, leafK (as := [a0, a1, a2]) (ans := (none, (-2))) (ch := []) (fb := []) (bs := [((-2147483648), (-1)), ((-2147483648), 2147483647), ((-2147483648), 2147483647)]) (oraL_ok al0) rfl (by decide) (by decide) l105_X7_sheet sY fbIn0 ⟨⟨by show ((-2147483648) : Int) ≤ a0.toInt; omega, by show a0.toInt ≤ ((-1) : Int); omega⟩, ⟨⟨by show ((-2147483648) : Int) ≤ a1.toInt; omega, by show a1.toInt ≤ (2147483647 : Int); omega⟩, ⟨⟨by show ((-2147483648) : Int) ≤ a2.toInt; omega, by show a2.toInt ≤ (2147483647 : Int); omega⟩, trivial⟩⟩⟩⟩
  · rcases (show (((-2147483648) : Int) ≤ a1.toInt ∧ a1.toInt ≤ (-1)) ∨ ((0 : Int) ≤ a1.toInt ∧ a1.toInt ≤ 2) ∨ ((3 : Int) ≤ a1.toInt ∧ a1.toInt ≤ 2147483647) by omega) with c | c | c
    · exact ⟨_, _, leafK (as := [a0, a1, a2]) (ans := (none, (-2))) (ch := []) (fb := []) (bs := [(0, 3), ((-2147483648), (-1)), ((-2147483648), 2147483647)]) (oraL_ok al0) rfl (by decide) (by decide) l106_X6_sheet sX fbIn0 ⟨⟨by show (0 : Int) ≤ a0.toInt; omega, by show a0.toInt ≤ (3 : Int); omega⟩, ⟨⟨by show ((-2147483648) : Int) ≤ a1.toInt; omega, by show a1.toInt ≤ ((-1) : Int); omega⟩, ⟨⟨by show ((-2147483648) : Int) ≤ a2.toInt; omega, by show a2.toInt ≤ (2147483647 : Int); omega⟩, trivial⟩⟩⟩, leafK (as := [a0, a1, a2]) (ans := (none, (-2))) (ch := []) (fb := []) (bs := [(0, 3), ((-2147483648), (-1)), ((-2147483648), 2147483647)]) (oraL_ok al0) rfl (by decide) (by decide) l107_X7_sheet sY fbIn0 ⟨⟨by show (0 : Int) ≤ a0.toInt; omega, by show a0.toInt ≤ (3 : Int); omega⟩, ⟨⟨by show ((-2147483648) : Int) ≤ a1.toInt; omega, by show a1.toInt ≤ ((-1) : Int); omega⟩, ⟨⟨by show ((-2147483648) : Int) ≤ a2.toInt; omega, by show a2.toInt ≤ (2147483647 : Int); omega⟩, trivial⟩⟩⟩⟩
    · rcases (show (((-2147483648) : Int) ≤ a2.toInt ∧ a2.toInt ≤ (-1)) ∨ ((0 : Int) ≤ a2.toInt ∧ a2.toInt ≤ 60) ∨ ((61 : Int) ≤ a2.toInt ∧ a2.toInt ≤ 2147483647) by omega) with c | c | c
      · exact ⟨_, _, leafK (as := [a0, a1, a2]) (ans := (none, (-15))) (ch := []) (fb := []) (bs := [(0, 3), (0, 2), ((-2147483648), (-1))]) (oraL_ok al0) rfl (by decide) (by decide) l108_X6_sheet sX fbIn0 ⟨⟨by show (0 : Int) ≤ a0.toInt; omega, by show a0.toInt ≤ (3 : Int); omega⟩, ⟨⟨by show (0 : Int) ≤ a1.toInt; omega, by show a1.toInt ≤ (2 : Int); omega⟩, ⟨⟨by show ((-2147483648) : Int) ≤ a2.toInt; omega, by show a2.toInt ≤ ((-1) : Int); omega⟩, trivial⟩⟩⟩, leafK (as := [a0, a1, a2]) (ans := (none, (-15))) (ch := []) (fb := []) (bs := [(0, 3), (0, 2), ((-2147483648), (-1))]) (oraL_ok al0) rfl (by decide) (by decide) l109_X7_sheet sY fbIn0 ⟨⟨by show (0 : Int) ≤ a0.toInt; omega, by show a0.toInt ≤ (3 : Int); omega⟩, ⟨⟨by show (0 : Int) ≤ a1.toInt; omega, by show a1.toInt ≤ (2 : Int); omega⟩, ⟨⟨by show ((-2147483648) : Int) ≤ a2.toInt; omega, by show a2.toInt ≤ ((-1) : Int); omega⟩, trivial⟩⟩⟩⟩
      · exact ⟨_, _, leafK (as := [a0, a1, a2]) (ans := (some 102, 0)) (ch := []) (fb := []) (bs := [(0, 3), (0, 2), (0, 60)]) (oraL_ok (al k_J7_fill__4 (al k_J7_fill__5 (al k_J7_fill__6 (al k_J7_fill__7 al0))))) rfl (by decide) (by decide) l110_X6_sheet sX fbIn0 ⟨⟨by show (0 : Int) ≤ a0.toInt; omega, by show a0.toInt ≤ (3 : Int); omega⟩, ⟨⟨by show (0 : Int) ≤ a1.toInt; omega, by show a1.toInt ≤ (2 : Int); omega⟩, ⟨⟨by show (0 : Int) ≤ a2.toInt; omega, by show a2.toInt ≤ (60 : Int); omega⟩, trivial⟩⟩⟩, leaf (as := [a0, a1, a2]) (k := 186) (d := 2) (fb := []) (bs := [(0, 3), (0, 2), (0, 60)]) (os := c_lf_X7_sheet.2.2.2.2.2) (ch := []) (ans := (some 102, 0)) rfl (by decide) k_lf_X7_sheet (by decide) (by decide) (by decide) l111_X7_sheetp (by decide) (by decide +kernel) sY fbIn0 ⟨⟨by show (0 : Int) ≤ a0.toInt; omega, by show a0.toInt ≤ (3 : Int); omega⟩, ⟨⟨by show (0 : Int) ≤ a1.toInt; omega, by show a1.toInt ≤ (2 : Int); omega⟩, ⟨⟨by show (0 : Int) ≤ a2.toInt; omega, by show a2.toInt ≤ (60 : Int); omega⟩, trivial⟩⟩⟩⟩
      · exact ⟨_, _, leafK (as := [a0, a1, a2]) (ans := (none, (-2))) (ch := []) (fb := []) (bs := [(0, 3), (0, 2), (61, 2147483647)]) (oraL_ok al0) rfl (by decide) (by decide) l112_X6_sheet sX fbIn0 ⟨⟨by show (0 : Int) ≤ a0.toInt; omega, by show a0.toInt ≤ (3 : Int); omega⟩, ⟨⟨by show (0 : Int) ≤ a1.toInt; omega, by show a1.toInt ≤ (2 : Int); omega⟩, ⟨⟨by show (61 : Int) ≤ a2.toInt; omega, by show a2.toInt ≤ (2147483647 : Int); omega⟩, trivial⟩⟩⟩, leafK (as := [a0, a1, a2]) (ans := (none, (-2))) (ch := []) (fb := []) (bs := [(0, 3), (0, 2), (61, 2147483647)]) (oraL_ok al0) rfl (by decide) (by decide) l113_X7_sheet sY fbIn0 ⟨⟨by show (0 : Int) ≤ a0.toInt; omega, by show a0.toInt ≤ (3 : Int); omega⟩, ⟨⟨by show (0 : Int) ≤ a1.toInt; omega, by show a1.toInt ≤ (2 : Int); omega⟩, ⟨⟨by show (61 : Int) ≤ a2.toInt; omega, by show a2.toInt ≤ (2147483647 : Int); omega⟩, trivial⟩⟩⟩⟩
    · exact ⟨_, _, leafK (as := [a0, a1, a2]) (ans := (none, (-2))) (ch := []) (fb := []) (bs := [(0, 3), (3, 2147483647), ((-2147483648), 2147483647)]) (oraL_ok al0) rfl (by decide) (by decide) l114_X6_sheet sX fbIn0 ⟨⟨by show (0 : Int) ≤ a0.toInt; omega, by show a0.toInt ≤ (3 : Int); omega⟩, ⟨⟨by show (3 : Int) ≤ a1.toInt; omega, by show a1.toInt ≤ (2147483647 : Int); omega⟩, ⟨⟨by show ((-2147483648) : Int) ≤ a2.toInt; omega, by show a2.toInt ≤ (2147483647 : Int); omega⟩, trivial⟩⟩⟩, leafK (as := [a0, a1, a2]) (ans := (none, (-2))) (ch := []) (fb := []) (bs := [(0, 3), (3, 2147483647), ((-2147483648), 2147483647)]) (oraL_ok al0) rfl (by decide) (by decide) l115_X7_sheet sY fbIn0 ⟨⟨by show (0 : Int) ≤ a0.toInt; omega, by show a0.toInt ≤ (3 : Int); omega⟩, ⟨⟨by show (3 : Int) ≤ a1.toInt; omega, by show a1.toInt ≤ (2147483647 : Int); omega⟩, ⟨⟨by show ((-2147483648) : Int) ≤ a2.toInt; omega, by show a2.toInt ≤ (2147483647 : Int); omega⟩, trivial⟩⟩⟩⟩
  · exact ⟨_, _, leafK (as := [a0, a1, a2]) (ans := (none, (-2))) (ch := []) (fb := []) (bs := [(4, 2147483647), ((-2147483648), 2147483647), ((-2147483648), 2147483647)]) (oraL_ok al0) rfl (by decide) (by decide) l116_X6_sheet sX fbIn0 ⟨⟨by show (4 : Int) ≤ a0.toInt; omega, by show a0.toInt ≤ (2147483647 : Int); omega⟩, ⟨⟨by show ((-2147483648) : Int) ≤ a1.toInt; omega, by show a1.toInt ≤ (2147483647 : Int); omega⟩, ⟨⟨by show ((-2147483648) : Int) ≤ a2.toInt; omega, by show a2.toInt ≤ (2147483647 : Int); omega⟩, trivial⟩⟩⟩, leafK (as := [a0, a1, a2]) (ans := (none, (-2))) (ch := []) (fb := []) (bs := [(4, 2147483647), ((-2147483648), 2147483647), ((-2147483648), 2147483647)]) (oraL_ok al0) rfl (by decide) (by decide) l117_X7_sheet sY fbIn0 ⟨⟨by show (4 : Int) ≤ a0.toInt; omega, by show a0.toInt ≤ (2147483647 : Int); omega⟩, ⟨⟨by show ((-2147483648) : Int) ≤ a1.toInt; omega, by show a1.toInt ≤ (2147483647 : Int); omega⟩, ⟨⟨by show ((-2147483648) : Int) ≤ a2.toInt; omega, by show a2.toInt ≤ (2147483647 : Int); omega⟩, trivial⟩⟩⟩⟩
theorem ef_sheet {f : Nat → Int} {hx hy : AH} (sX : Sd bT (gX 999) f hx) (sY : Sd bY gY f hy) (a0 : Int32) (a1 : Int32) (a2 : Int32) : ∃ (f' : Nat → Int), Ct mX6_sheet 12 0 0 [.ref 0, .int a0, .int a1, .int a2] hx (fun v hp' => (∃ w, v = some w ∧ kndV false w) ∧ hp'.length = (gX 999).length ∧ Sd bT (gX 999) f' hp') ∧ Ct mX7_sheet 12 0 0 [.ref 0, .int a0, .int a1, .int a2] hy (fun v hp' => (∃ w, v = some w ∧ kndV false w) ∧ hp'.length = gY.length ∧ Sd bY gY f' hp') := by
  obtain ⟨w, f', cX, cY⟩ := ex_sheet sX sY a0 a1 a2
  exact ⟨f', Ct_weak cX (fun v hp' q => ⟨⟨_, q.1, knd_int w⟩, q.2⟩), Ct_weak cY (fun v hp' q => ⟨⟨_, q.1, knd_int w⟩, q.2⟩)⟩
set_option maxRecDepth 1000000 in
theorem p_X6_lose : c_pub_X6_lose.2.2.2.2.2.all (fun o => pO bT (gX 999) o []) = true := by decide +kernel
theorem q_X6_lose : c_pub_X6_lose.2.2.2.2.2.all (fun o => kndB false o.2.1) = true := by decide +kernel
set_option maxRecDepth 1000000 in
theorem p_X7_lose : c_pub_X7_lose.2.2.2.2.2.all (fun o => pO bY gY o []) = true := by decide +kernel
theorem q_X7_lose : c_pub_X7_lose.2.2.2.2.2.all (fun o => kndB false o.2.1) = true := by decide +kernel
theorem ef_lose {f : Nat → Int} {hx hy : AH} (sX : Sd bT (gX 999) f hx) (sY : Sd bY gY f hy) (a0 : Int32) : ∃ (f' : Nat → Int), Ct mX6_lose 12 0 0 [.ref 0, .int a0] hx (fun v hp' => (∃ w, v = some w ∧ kndV false w) ∧ hp'.length = (gX 999).length ∧ Sd bT (gX 999) f' hp') ∧ Ct mX7_lose 12 0 0 [.ref 0, .int a0] hy (fun v hp' => (∃ w, v = some w ∧ kndV false w) ∧ hp'.length = gY.length ∧ Sd bY gY f' hp') :=
  ⟨_, safe (as := [a0]) (k := 73) (d := 2) (fb := []) (bs := List.replicate 1 f32) (os := c_pub_X6_lose.2.2.2.2.2) (ch := []) false rfl (by decide) k_pub_X6_lose (by decide) (by decide) (by decide) p_X6_lose q_X6_lose sX fbIn0 (argsIn_any [a0]),
  safe (as := [a0]) (k := 187) (d := 2) (fb := []) (bs := List.replicate 1 f32) (os := c_pub_X7_lose.2.2.2.2.2) (ch := []) false rfl (by decide) k_pub_X7_lose (by decide) (by decide) (by decide) p_X7_lose q_X7_lose sY fbIn0 (argsIn_any [a0])⟩
set_option maxRecDepth 1000000 in
theorem p_X6_put : c_pub_X6_put.2.2.2.2.2.all (fun o => pO bT (gX 999) o []) = true := by decide +kernel
theorem q_X6_put : c_pub_X6_put.2.2.2.2.2.all (fun o => kndB false o.2.1) = true := by decide +kernel
set_option maxRecDepth 1000000 in
theorem p_X7_put : c_pub_X7_put.2.2.2.2.2.all (fun o => pO bY gY o []) = true := by decide +kernel
theorem q_X7_put : c_pub_X7_put.2.2.2.2.2.all (fun o => kndB false o.2.1) = true := by decide +kernel
theorem ef_put {f : Nat → Int} {hx hy : AH} (sX : Sd bT (gX 999) f hx) (sY : Sd bY gY f hy) (a0 : Int32) (a1 : Int32) (a2 : Int32) (a3 : Int32) : ∃ (f' : Nat → Int), Ct mX6_put 12 0 0 [.ref 0, .int a0, .int a1, .int a2, .int a3] hx (fun v hp' => (∃ w, v = some w ∧ kndV false w) ∧ hp'.length = (gX 999).length ∧ Sd bT (gX 999) f' hp') ∧ Ct mX7_put 12 0 0 [.ref 0, .int a0, .int a1, .int a2, .int a3] hy (fun v hp' => (∃ w, v = some w ∧ kndV false w) ∧ hp'.length = gY.length ∧ Sd bY gY f' hp') :=
  ⟨_, safe (as := [a0, a1, a2, a3]) (k := 74) (d := 2) (fb := []) (bs := List.replicate 4 f32) (os := c_pub_X6_put.2.2.2.2.2) (ch := []) false rfl (by decide) k_pub_X6_put (by decide) (by decide) (by decide) p_X6_put q_X6_put sX fbIn0 (argsIn_any [a0, a1, a2, a3]),
  safe (as := [a0, a1, a2, a3]) (k := 190) (d := 2) (fb := []) (bs := List.replicate 4 f32) (os := c_pub_X7_put.2.2.2.2.2) (ch := []) false rfl (by decide) k_pub_X7_put (by decide) (by decide) (by decide) p_X7_put q_X7_put sY fbIn0 (argsIn_any [a0, a1, a2, a3])⟩
set_option maxRecDepth 1000000 in
theorem p_X6_get : c_pub_X6_get.2.2.2.2.2.all (fun o => pO bT (gX 999) o []) = true := by decide +kernel
theorem q_X6_get : c_pub_X6_get.2.2.2.2.2.all (fun o => kndB false o.2.1) = true := by decide +kernel
set_option maxRecDepth 1000000 in
theorem p_X7_get : c_pub_X7_get.2.2.2.2.2.all (fun o => pO bY gY o []) = true := by decide +kernel
theorem q_X7_get : c_pub_X7_get.2.2.2.2.2.all (fun o => kndB false o.2.1) = true := by decide +kernel
theorem ef_get {f : Nat → Int} {hx hy : AH} (sX : Sd bT (gX 999) f hx) (sY : Sd bY gY f hy) (a0 : Int32) (a1 : Int32) (a2 : Int32) : ∃ (f' : Nat → Int), Ct mX6_get 12 0 0 [.ref 0, .int a0, .int a1, .int a2] hx (fun v hp' => (∃ w, v = some w ∧ kndV false w) ∧ hp'.length = (gX 999).length ∧ Sd bT (gX 999) f' hp') ∧ Ct mX7_get 12 0 0 [.ref 0, .int a0, .int a1, .int a2] hy (fun v hp' => (∃ w, v = some w ∧ kndV false w) ∧ hp'.length = gY.length ∧ Sd bY gY f' hp') :=
  ⟨_, safe (as := [a0, a1, a2]) (k := 75) (d := 2) (fb := []) (bs := List.replicate 3 f32) (os := c_pub_X6_get.2.2.2.2.2) (ch := []) false rfl (by decide) k_pub_X6_get (by decide) (by decide) (by decide) p_X6_get q_X6_get sX fbIn0 (argsIn_any [a0, a1, a2]),
  safe (as := [a0, a1, a2]) (k := 191) (d := 2) (fb := []) (bs := List.replicate 3 f32) (os := c_pub_X7_get.2.2.2.2.2) (ch := []) false rfl (by decide) k_pub_X7_get (by decide) (by decide) (by decide) p_X7_get q_X7_get sY fbIn0 (argsIn_any [a0, a1, a2])⟩
set_option maxRecDepth 1000000 in
theorem p_X6_copy : c_pub_X6_copy.2.2.2.2.2.all (fun o => pO bT (gX 999) o []) = true := by decide +kernel
theorem q_X6_copy : c_pub_X6_copy.2.2.2.2.2.all (fun o => kndB false o.2.1) = true := by decide +kernel
set_option maxRecDepth 1000000 in
theorem p_X7_copy : c_pub_X7_copy.2.2.2.2.2.all (fun o => pO bY gY o []) = true := by decide +kernel
theorem q_X7_copy : c_pub_X7_copy.2.2.2.2.2.all (fun o => kndB false o.2.1) = true := by decide +kernel
theorem ef_copy {f : Nat → Int} {hx hy : AH} (sX : Sd bT (gX 999) f hx) (sY : Sd bY gY f hy) (a0 : Int32) (a1 : Int32) (a2 : Int32) (a3 : Int32) (a4 : Int32) : ∃ (f' : Nat → Int), Ct mX6_copy 12 0 0 [.ref 0, .int a0, .int a1, .int a2, .int a3, .int a4] hx (fun v hp' => (∃ w, v = some w ∧ kndV false w) ∧ hp'.length = (gX 999).length ∧ Sd bT (gX 999) f' hp') ∧ Ct mX7_copy 12 0 0 [.ref 0, .int a0, .int a1, .int a2, .int a3, .int a4] hy (fun v hp' => (∃ w, v = some w ∧ kndV false w) ∧ hp'.length = gY.length ∧ Sd bY gY f' hp') :=
  ⟨_, safe (as := [a0, a1, a2, a3, a4]) (k := 76) (d := 2) (fb := []) (bs := List.replicate 5 f32) (os := c_pub_X6_copy.2.2.2.2.2) (ch := []) false rfl (by decide) k_pub_X6_copy (by decide) (by decide) (by decide) p_X6_copy q_X6_copy sX fbIn0 (argsIn_any [a0, a1, a2, a3, a4]),
  safe (as := [a0, a1, a2, a3, a4]) (k := 192) (d := 2) (fb := []) (bs := List.replicate 5 f32) (os := c_pub_X7_copy.2.2.2.2.2) (ch := []) false rfl (by decide) k_pub_X7_copy (by decide) (by decide) (by decide) p_X7_copy q_X7_copy sY fbIn0 (argsIn_any [a0, a1, a2, a3, a4])⟩
set_option maxRecDepth 1000000 in
theorem p_X6_write : c_pub_X6_write.2.2.2.2.2.all (fun o => pO bT (gX 999) o []) = true := by decide +kernel
theorem q_X6_write : c_pub_X6_write.2.2.2.2.2.all (fun o => kndB false o.2.1) = true := by decide +kernel
set_option maxRecDepth 1000000 in
theorem p_X7_write : c_pub_X7_write.2.2.2.2.2.all (fun o => pO bY gY o []) = true := by decide +kernel
theorem q_X7_write : c_pub_X7_write.2.2.2.2.2.all (fun o => kndB false o.2.1) = true := by decide +kernel
theorem ef_write {f : Nat → Int} {hx hy : AH} (sX : Sd bT (gX 999) f hx) (sY : Sd bY gY f hy) (a0 : Int32) (a1 : Int32) : ∃ (f' : Nat → Int), Ct mX6_write 12 0 0 [.ref 0, .int a0, .int a1] hx (fun v hp' => (∃ w, v = some w ∧ kndV false w) ∧ hp'.length = (gX 999).length ∧ Sd bT (gX 999) f' hp') ∧ Ct mX7_write 12 0 0 [.ref 0, .int a0, .int a1] hy (fun v hp' => (∃ w, v = some w ∧ kndV false w) ∧ hp'.length = gY.length ∧ Sd bY gY f' hp') :=
  ⟨_, safe (as := [a0, a1]) (k := 77) (d := 4) (fb := []) (bs := List.replicate 2 f32) (os := c_pub_X6_write.2.2.2.2.2) (ch := []) false rfl (by decide) k_pub_X6_write (by decide) (by decide) (by decide) p_X6_write q_X6_write sX fbIn0 (argsIn_any [a0, a1]),
  safe (as := [a0, a1]) (k := 193) (d := 7) (fb := []) (bs := List.replicate 2 f32) (os := c_pub_X7_write.2.2.2.2.2) (ch := []) false rfl (by decide) k_pub_X7_write (by decide) (by decide) (by decide) p_X7_write q_X7_write sY fbIn0 (argsIn_any [a0, a1])⟩
set_option maxRecDepth 1000000 in
theorem p_X6_count : c_pub_X6_count.2.2.2.2.2.all (fun o => pO bT (gX 999) o []) = true := by decide +kernel
theorem q_X6_count : c_pub_X6_count.2.2.2.2.2.all (fun o => kndB false o.2.1) = true := by decide +kernel
set_option maxRecDepth 1000000 in
theorem p_X7_count : c_pub_X7_count.2.2.2.2.2.all (fun o => pO bY gY o []) = true := by decide +kernel
theorem q_X7_count : c_pub_X7_count.2.2.2.2.2.all (fun o => kndB false o.2.1) = true := by decide +kernel
theorem ef_count {f : Nat → Int} {hx hy : AH} (sX : Sd bT (gX 999) f hx) (sY : Sd bY gY f hy) (a0 : Int32) : ∃ (f' : Nat → Int), Ct mX6_count 12 0 0 [.ref 0, .int a0] hx (fun v hp' => (∃ w, v = some w ∧ kndV false w) ∧ hp'.length = (gX 999).length ∧ Sd bT (gX 999) f' hp') ∧ Ct mX7_count 12 0 0 [.ref 0, .int a0] hy (fun v hp' => (∃ w, v = some w ∧ kndV false w) ∧ hp'.length = gY.length ∧ Sd bY gY f' hp') :=
  ⟨_, safe (as := [a0]) (k := 78) (d := 0) (fb := []) (bs := List.replicate 1 f32) (os := c_pub_X6_count.2.2.2.2.2) (ch := []) false rfl (by decide) k_pub_X6_count (by decide) (by decide) (by decide) p_X6_count q_X6_count sX fbIn0 (argsIn_any [a0]),
  safe (as := [a0]) (k := 195) (d := 6) (fb := []) (bs := List.replicate 1 f32) (os := c_pub_X7_count.2.2.2.2.2) (ch := []) false rfl (by decide) k_pub_X7_count (by decide) (by decide) (by decide) p_X7_count q_X7_count sY fbIn0 (argsIn_any [a0])⟩
set_option maxRecDepth 1000000 in
theorem p_X6_digest : c_pub_X6_digest.2.2.2.2.2.all (fun o => pO bT (gX 999) o []) = true := by decide +kernel
theorem q_X6_digest : c_pub_X6_digest.2.2.2.2.2.all (fun o => kndB true o.2.1) = true := by decide +kernel
set_option maxRecDepth 1000000 in
theorem p_X7_digest : c_pub_X7_digest.2.2.2.2.2.all (fun o => pO bY gY o []) = true := by decide +kernel
theorem q_X7_digest : c_pub_X7_digest.2.2.2.2.2.all (fun o => kndB true o.2.1) = true := by decide +kernel
theorem ef_digest {f : Nat → Int} {hx hy : AH} (sX : Sd bT (gX 999) f hx) (sY : Sd bY gY f hy)  : ∃ (f' : Nat → Int), Ct mX6_digest 12 0 0 [.ref 0] hx (fun v hp' => (∃ w, v = some w ∧ kndV true w) ∧ hp'.length = (gX 999).length ∧ Sd bT (gX 999) f' hp') ∧ Ct mX7_digest 12 0 0 [.ref 0] hy (fun v hp' => (∃ w, v = some w ∧ kndV true w) ∧ hp'.length = gY.length ∧ Sd bY gY f' hp') :=
  ⟨_, safe (as := []) (k := 79) (d := 8) (fb := []) (bs := List.replicate 0 f32) (os := c_pub_X6_digest.2.2.2.2.2) (ch := []) true rfl (by decide) k_pub_X6_digest (by decide) (by decide) (by decide) p_X6_digest q_X6_digest sX fbIn0 (argsIn_any []),
  safe (as := []) (k := 199) (d := 10) (fb := []) (bs := List.replicate 0 f32) (os := c_pub_X7_digest.2.2.2.2.2) (ch := []) true rfl (by decide) k_pub_X7_digest (by decide) (by decide) (by decide) p_X7_digest q_X7_digest sY fbIn0 (argsIn_any [])⟩
