def c_pub_X6_type : CTR := (43, 4, (bT ++ [((-2147483648), 2147483647), ((-2147483648), 2147483647)]), [.inr (.inl 0), .inl (some 14, 0), .inl (some 15, 0)], (gX 999), [((bT ++ [((-2147483648), 2147483647), ((-2147483648), 2147483647), ((-4), 49), (0, 23), (0, 49), (0, 8), (0, 10)]), some (.inl (some 16, 0)), (hst (gX 999) [(1, .inr (.inr (.inr (3, [.inr (.inl 2), .inl (none, 23), .inl (none, 0), .inl (some 17, 0)])))), (3, .inr (.inr (.inr (3, [.inr (.inl 4), .inl (none, 49), .inl (none, 1), .inl (some 18, 0)])))), (6, .inr (.inr (.inr (1, [.inr (.inl 7), .inr (.inl 8), .inl (some 19, 0)])))), (9, .inr (.inr (.inr (5, [.inr (.inl 10), .inr (.inl 11), .inr (.inl 12), .inr (.inl 13), .inl (some 20, 0)]))))]))])
def h_pub_X6_type : List HD := []
set_option maxRecDepth 1000000 in
theorem k_pub_X6_type : ctrOk c_pub_X6_type := ctr_by (al k_X6_takeTexts_0 (al0)) c_pub_X6_type 91 mX6_type rfl h_pub_X6_type (by decide +kernel) (by decide +kernel) (hn _ _ _ _)
def c_pub_X7_type : CTR := (111, 2, (bY ++ [((-2147483648), 2147483647), ((-2147483648), 2147483647)]), [.inr (.inl 0), .inl (some 13, 0), .inl (some 14, 0)], (gY), [((bY ++ [((-2147483648), 2147483647), ((-2147483648), 2147483647), ((-4), 49), (0, 23), (0, 49)]), some (.inl (some 15, 0)), (hst (gY) [(1, .inr (.inl (.int, [(some 16, 0), (some 17, 0)])))]))])
def h_pub_X7_type_p0 : List HD := []
set_option maxRecDepth 1000000 in
theorem k_pub_X7_type_p0 : ctrOk (cset c_pub_X7_type 13 ((-2147483648), (-1))) := ctr_by (al0) (cset c_pub_X7_type 13 ((-2147483648), (-1))) 35 mX7_type rfl h_pub_X7_type_p0 (by decide +kernel) (by decide +kernel) (hn _ _ _ _)
def h_pub_X7_type_p1 : List HD := []
set_option maxRecDepth 1000000 in
theorem k_pub_X7_type_p1 : ctrOk (cset c_pub_X7_type 13 (0, 0)) := ctr_by (al0) (cset c_pub_X7_type 13 (0, 0)) 85 mX7_type rfl h_pub_X7_type_p1 (by decide +kernel) (by decide +kernel) (hn _ _ _ _)
def h_pub_X7_type_p2 : List HD := []
set_option maxRecDepth 1000000 in
theorem k_pub_X7_type_p2 : ctrOk (cset c_pub_X7_type 13 (1, 1)) := ctr_by (al0) (cset c_pub_X7_type 13 (1, 1)) 84 mX7_type rfl h_pub_X7_type_p2 (by decide +kernel) (by decide +kernel) (hn _ _ _ _)
def h_pub_X7_type_p3 : List HD := []
set_option maxRecDepth 1000000 in
theorem k_pub_X7_type_p3 : ctrOk (cset c_pub_X7_type 13 (2, 2147483647)) := ctr_by (al0) (cset c_pub_X7_type 13 (2, 2147483647)) 38 mX7_type rfl h_pub_X7_type_p3 (by decide +kernel) (by decide +kernel) (hn _ _ _ _)
theorem k_pub_X7_type : ctrOk c_pub_X7_type := ctr_split c_pub_X7_type 13 rfl [((-2147483648), (-1)), (0, 0), (1, 1), (2, 2147483647)] (by decide +kernel) (fmc k_pub_X7_type_p0 (fmc k_pub_X7_type_p1 (fmc k_pub_X7_type_p2 (fmc k_pub_X7_type_p3 fmn))))
def c_pub_X6_wipe : CTR := (44, 4, (bT ++ [((-2147483648), 2147483647)]), [.inr (.inl 0), .inl (some 14, 0)], (gX 999), [((bT ++ [((-2147483648), 2147483647), ((-2), 49), (0, 23), (0, 49), (0, 8), (0, 10)]), some (.inl (some 15, 0)), (hst (gX 999) [(1, .inr (.inr (.inr (3, [.inr (.inl 2), .inl (none, 23), .inl (none, 0), .inl (some 16, 0)])))), (3, .inr (.inr (.inr (3, [.inr (.inl 4), .inl (none, 49), .inl (none, 1), .inl (some 17, 0)])))), (6, .inr (.inr (.inr (1, [.inr (.inl 7), .inr (.inl 8), .inl (some 18, 0)])))), (9, .inr (.inr (.inr (5, [.inr (.inl 10), .inr (.inl 11), .inr (.inl 12), .inr (.inl 13), .inl (some 19, 0)]))))]))])
def h_pub_X6_wipe : List HD := []
set_option maxRecDepth 1000000 in
theorem k_pub_X6_wipe : ctrOk c_pub_X6_wipe := ctr_by (al k_X6_takeTexts_0 (al0)) c_pub_X6_wipe 61 mX6_wipe rfl h_pub_X6_wipe (by decide +kernel) (by decide +kernel) (hn _ _ _ _)
def c_pub_X7_wipe : CTR := (112, 2, (bY ++ [((-2147483648), 2147483647)]), [.inr (.inl 0), .inl (some 13, 0)], (gY), [((bY ++ [((-2147483648), 2147483647), ((-2), 49), (0, 23), (0, 49)]), some (.inl (some 14, 0)), (hst (gY) [(1, .inr (.inl (.int, [(some 15, 0), (some 16, 0)])))]))])
def h_pub_X7_wipe_p0 : List HD := []
set_option maxRecDepth 1000000 in
theorem k_pub_X7_wipe_p0 : ctrOk (cset c_pub_X7_wipe 13 ((-2147483648), (-1))) := ctr_by (al0) (cset c_pub_X7_wipe 13 ((-2147483648), (-1))) 35 mX7_wipe rfl h_pub_X7_wipe_p0 (by decide +kernel) (by decide +kernel) (hn _ _ _ _)
def h_pub_X7_wipe_p1 : List HD := []
set_option maxRecDepth 1000000 in
theorem k_pub_X7_wipe_p1 : ctrOk (cset c_pub_X7_wipe 13 (0, 0)) := ctr_by (al0) (cset c_pub_X7_wipe 13 (0, 0)) 49 mX7_wipe rfl h_pub_X7_wipe_p1 (by decide +kernel) (by decide +kernel) (hn _ _ _ _)
def h_pub_X7_wipe_p2 : List HD := []
set_option maxRecDepth 1000000 in
theorem k_pub_X7_wipe_p2 : ctrOk (cset c_pub_X7_wipe 13 (1, 1)) := ctr_by (al0) (cset c_pub_X7_wipe 13 (1, 1)) 49 mX7_wipe rfl h_pub_X7_wipe_p2 (by decide +kernel) (by decide +kernel) (hn _ _ _ _)
def h_pub_X7_wipe_p3 : List HD := []
set_option maxRecDepth 1000000 in
theorem k_pub_X7_wipe_p3 : ctrOk (cset c_pub_X7_wipe 13 (2, 2147483647)) := ctr_by (al0) (cset c_pub_X7_wipe 13 (2, 2147483647)) 38 mX7_wipe rfl h_pub_X7_wipe_p3 (by decide +kernel) (by decide +kernel) (hn _ _ _ _)
theorem k_pub_X7_wipe : ctrOk c_pub_X7_wipe := ctr_split c_pub_X7_wipe 13 rfl [((-2147483648), (-1)), (0, 0), (1, 1), (2, 2147483647)] (by decide +kernel) (fmc k_pub_X7_wipe_p0 (fmc k_pub_X7_wipe_p1 (fmc k_pub_X7_wipe_p2 (fmc k_pub_X7_wipe_p3 fmn))))
def c_pub_X6_undo : CTR := (45, 4, (bT ++ [((-2147483648), 2147483647)]), [.inr (.inl 0), .inl (some 14, 0)], (gX 999), [((bT ++ [((-2147483648), 2147483647), ((-3), 48), (0, 23), (0, 49), (0, 8), (0, 10)]), some (.inl (some 15, 0)), (hst (gX 999) [(1, .inr (.inr (.inr (3, [.inr (.inl 2), .inl (none, 23), .inl (none, 0), .inl (some 16, 0)])))), (3, .inr (.inr (.inr (3, [.inr (.inl 4), .inl (none, 49), .inl (none, 1), .inl (some 17, 0)])))), (6, .inr (.inr (.inr (1, [.inr (.inl 7), .inr (.inl 8), .inl (some 18, 0)])))), (9, .inr (.inr (.inr (5, [.inr (.inl 10), .inr (.inl 11), .inr (.inl 12), .inr (.inl 13), .inl (some 19, 0)]))))]))])
def h_pub_X6_undo : List HD := []
set_option maxRecDepth 1000000 in
theorem k_pub_X6_undo : ctrOk c_pub_X6_undo := ctr_by (al k_X6_takeTexts_0 (al0)) c_pub_X6_undo 73 mX6_undo rfl h_pub_X6_undo (by decide +kernel) (by decide +kernel) (hn _ _ _ _)
def c_pub_X7_undo : CTR := (113, 2, (bY ++ [((-2147483648), 2147483647)]), [.inr (.inl 0), .inl (some 13, 0)], (gY), [((bY ++ [((-2147483648), 2147483647), ((-3), 48), (0, 23), (0, 49)]), some (.inl (some 14, 0)), (hst (gY) [(1, .inr (.inl (.int, [(some 15, 0), (some 16, 0)])))]))])
def h_pub_X7_undo_p0 : List HD := []
set_option maxRecDepth 1000000 in
theorem k_pub_X7_undo_p0 : ctrOk (cset c_pub_X7_undo 13 ((-2147483648), (-1))) := ctr_by (al0) (cset c_pub_X7_undo 13 ((-2147483648), (-1))) 35 mX7_undo rfl h_pub_X7_undo_p0 (by decide +kernel) (by decide +kernel) (hn _ _ _ _)
def h_pub_X7_undo_p1 : List HD := []
set_option maxRecDepth 1000000 in
theorem k_pub_X7_undo_p1 : ctrOk (cset c_pub_X7_undo 13 (0, 0)) := ctr_by (al0) (cset c_pub_X7_undo 13 (0, 0)) 55 mX7_undo rfl h_pub_X7_undo_p1 (by decide +kernel) (by decide +kernel) (hn _ _ _ _)
def h_pub_X7_undo_p2 : List HD := []
set_option maxRecDepth 1000000 in
theorem k_pub_X7_undo_p2 : ctrOk (cset c_pub_X7_undo 13 (1, 1)) := ctr_by (al0) (cset c_pub_X7_undo 13 (1, 1)) 55 mX7_undo rfl h_pub_X7_undo_p2 (by decide +kernel) (by decide +kernel) (hn _ _ _ _)
def h_pub_X7_undo_p3 : List HD := []
set_option maxRecDepth 1000000 in
theorem k_pub_X7_undo_p3 : ctrOk (cset c_pub_X7_undo 13 (2, 2147483647)) := ctr_by (al0) (cset c_pub_X7_undo 13 (2, 2147483647)) 38 mX7_undo rfl h_pub_X7_undo_p3 (by decide +kernel) (by decide +kernel) (hn _ _ _ _)
theorem k_pub_X7_undo : ctrOk c_pub_X7_undo := ctr_split c_pub_X7_undo 13 rfl [((-2147483648), (-1)), (0, 0), (1, 1), (2, 2147483647)] (by decide +kernel) (fmc k_pub_X7_undo_p0 (fmc k_pub_X7_undo_p1 (fmc k_pub_X7_undo_p2 (fmc k_pub_X7_undo_p3 fmn))))
def c_X3_firstFault_0 : CTR := (30, 1, (bX), [.inr (.inl 1)], (gX 999), [((bX ++ [((-1), 23)]), some (.inl (some 14, 0)), (gX 999))])
def h_X3_firstFault_0 : List HD := [(2, (bX ++ [(0, 23)]), [some (.inr (.inl 1)), some (.inl (some 14, 0)), none], (gX 999), [(true, (none, 1)), (true, (some 14, 0))])]
set_option maxRecDepth 1000000 in
theorem k_X3_firstFault_0 : ctrOk c_X3_firstFault_0 := ctr_by (al0) c_X3_firstFault_0 55 mX3_firstFault rfl h_X3_firstFault_0 (by decide +kernel) (by decide +kernel) (hc (by decide +kernel) (hn _ _ _ _))
def c_X3_firstFault_1 : CTR := (30, 1, (bX), [.inr (.inl 3)], (gX 999), [((bX ++ [((-1), 49)]), some (.inl (some 14, 0)), (gX 999))])
def h_X3_firstFault_1 : List HD := [(2, (bX ++ [(0, 49)]), [some (.inr (.inl 3)), some (.inl (some 14, 0)), none], (gX 999), [(true, (none, 1)), (true, (some 14, 0))])]
set_option maxRecDepth 1000000 in
theorem k_X3_firstFault_1 : ctrOk c_X3_firstFault_1 := ctr_by (al0) c_X3_firstFault_1 53 mX3_firstFault rfl h_X3_firstFault_1 (by decide +kernel) (by decide +kernel) (hc (by decide +kernel) (hn _ _ _ _))
def c_pub_X6_fault : CTR := (46, 2, (bT ++ [((-2147483648), 2147483647)]), [.inr (.inl 0), .inl (some 14, 0)], (gX 999), [((bT ++ [((-2147483648), 2147483647), ((-2), 49)]), some (.inl (some 15, 0)), (gX 999))])
def h_pub_X6_fault : List HD := []
set_option maxRecDepth 1000000 in
theorem k_pub_X6_fault : ctrOk c_pub_X6_fault := ctr_by (al k_X3_firstFault_0 (al k_X3_firstFault_1 (al0))) c_pub_X6_fault 47 mX6_fault rfl h_pub_X6_fault (by decide +kernel) (by decide +kernel) (hn _ _ _ _)
def c_pub_X7_fault : CTR := (120, 4, (bY ++ [((-2147483648), 2147483647)]), [.inr (.inl 0), .inl (some 13, 0)], (gY), [((bY ++ [((-2147483648), 2147483647), ((-2), 49), (0, 8), (0, 10)]), some (.inl (some 14, 0)), (hst (gY) [(0, .inr (.inr (.inr (7, [.inr (.inl 1), .inr (.inl 2), .inl (some 15, 0), .inr (.inl 3), .inr (.inl 4), .inl (some 16, 0), .inr (.inl 5), .inr (.inl 6), .inr (.inl 7), .inr (.inl 8), .inl (some 4, 0), .inr (.inl 9), .inr (.inl 10), .inl (some 5, 0), .inr (.inl 11), .inr (.inl 12), .inr (.inl 13), .inl (some 6, 0), .inr (.inl 14), .inr (.inl 15), .inr (.inl 16), .inl (some 8, 0), .inl (some 9, 0), .inr (.inl 17), .inr (.inl 18), .inl (some 10, 0), .inl (some 11, 0), .inr (.inl 19), .inr (.inl 20), .inr (.inl 21), .inr (.inl 22), .inr (.inl 23), .inr (.inl 24), .inr (.inl 25), .inl (some 7, 0), .inr (.inl 26), .inr (.inl 27), .inr (.inl 28), .inr (.inl 29), .inr (.inl 30), .inr (.inl 31), .inr (.inl 32), .inr (.inl 33), .inr (.inl 34), .inl (some 12, 0)]))))]))])
def h_pub_X7_fault : List HD := []
set_option maxRecDepth 1000000 in
theorem k_pub_X7_fault : ctrOk c_pub_X7_fault := ctr_by (al k_X7_faultOf_0 (al0)) c_pub_X7_fault 42 mX7_fault rfl h_pub_X7_fault (by decide +kernel) (by decide +kernel) (hn _ _ _ _)
def c_pub_X6_person : CTR := (47, 1, (bT ++ [((-2147483648), 2147483647), ((-2147483648), 2147483647)]), [.inr (.inl 0), .inl (some 14, 0), .inl (some 15, 0)], (gX 999), [((bT ++ [((-2147483648), 2147483647), ((-2147483648), 2147483647), ((-2), 9)]), some (.inl (some 16, 0)), (gX 999))])
def h_pub_X6_person : List HD := []
set_option maxRecDepth 1000000 in
theorem k_pub_X6_person : ctrOk c_pub_X6_person := ctr_by (al0) c_pub_X6_person 55 mX6_person rfl h_pub_X6_person (by decide +kernel) (by decide +kernel) (hn _ _ _ _)
def c_X7_personOf_0 : CTR := (123, 0, (bY ++ [(0, 7), ((-2147483648), 2147483647)]), [.inr (.inl 0), .inl (some 13, 0), .inl (some 14, 0)], (gY), [((bY ++ [(0, 7), ((-2147483648), 2147483647), (0, 9)]), some (.inl (some 15, 0)), (gY))])
def h_X7_personOf_0 : List HD := []
set_option maxRecDepth 1000000 in
theorem k_X7_personOf_0 : ctrOk c_X7_personOf_0 := ctr_by (al0) c_X7_personOf_0 28 mX7_personOf rfl h_X7_personOf_0 (by decide +kernel) (by decide +kernel) (hn _ _ _ _)
def c_pub_X7_person : CTR := (124, 6, (bY ++ [((-2147483648), 2147483647), ((-2147483648), 2147483647)]), [.inr (.inl 0), .inl (some 13, 0), .inl (some 14, 0)], (gY), [((bY ++ [((-2147483648), 2147483647), ((-2147483648), 2147483647), ((-2), 9), (0, 8), (0, 10)]), some (.inl (some 15, 0)), (hst (gY) [(0, .inr (.inr (.inr (7, [.inr (.inl 1), .inr (.inl 2), .inl (some 16, 0), .inr (.inl 3), .inr (.inl 4), .inl (some 17, 0), .inr (.inl 5), .inr (.inl 6), .inr (.inl 7), .inr (.inl 8), .inl (some 4, 0), .inr (.inl 9), .inr (.inl 10), .inl (some 5, 0), .inr (.inl 11), .inr (.inl 12), .inr (.inl 13), .inl (some 6, 0), .inr (.inl 14), .inr (.inl 15), .inr (.inl 16), .inl (some 8, 0), .inl (some 9, 0), .inr (.inl 17), .inr (.inl 18), .inl (some 10, 0), .inl (some 11, 0), .inr (.inl 19), .inr (.inl 20), .inr (.inl 21), .inr (.inl 22), .inr (.inl 23), .inr (.inl 24), .inr (.inl 25), .inl (some 7, 0), .inr (.inl 26), .inr (.inl 27), .inr (.inl 28), .inr (.inl 29), .inr (.inl 30), .inr (.inl 31), .inr (.inl 32), .inr (.inl 33), .inr (.inl 34), .inl (some 12, 0)]))))]))])
def h_pub_X7_person : List HD := []
set_option maxRecDepth 1000000 in
theorem k_pub_X7_person : ctrOk c_pub_X7_person := ctr_by (al k_X7_faultOf_0 (al k_X7_personOf_0 (al0))) c_pub_X7_person 68 mX7_person rfl h_pub_X7_person (by decide +kernel) (by decide +kernel) (hn _ _ _ _)
def c_pub_X6_promise : CTR := (48, 1, (bT ++ [((-2147483648), 2147483647), ((-2147483648), 2147483647)]), [.inr (.inl 0), .inl (some 14, 0), .inl (some 15, 0)], (gX 999), [((bT ++ [((-2147483648), 2147483647), ((-2147483648), 2147483647), ((-2), 23)]), some (.inl (some 16, 0)), (gX 999))])
def h_pub_X6_promise : List HD := []
set_option maxRecDepth 1000000 in
theorem k_pub_X6_promise : ctrOk c_pub_X6_promise := ctr_by (al0) c_pub_X6_promise 54 mX6_promise rfl h_pub_X6_promise (by decide +kernel) (by decide +kernel) (hn _ _ _ _)
def c_X7_promiseOf_0 : CTR := (125, 0, (bY ++ [(0, 9), ((-2147483648), 2147483647)]), [.inr (.inl 0), .inl (some 13, 0), .inl (some 14, 0)], (gY), [((bY ++ [(0, 9), ((-2147483648), 2147483647), ((-1), 23)]), some (.inl (some 15, 0)), (gY))])
def h_X7_promiseOf_0 : List HD := []
set_option maxRecDepth 1000000 in
theorem k_X7_promiseOf_0 : ctrOk c_X7_promiseOf_0 := ctr_by (al0) c_X7_promiseOf_0 34 mX7_promiseOf rfl h_X7_promiseOf_0 (by decide +kernel) (by decide +kernel) (hn _ _ _ _)
def c_pub_X7_promise : CTR := (126, 6, (bY ++ [((-2147483648), 2147483647), ((-2147483648), 2147483647)]), [.inr (.inl 0), .inl (some 13, 0), .inl (some 14, 0)], (gY), [((bY ++ [((-2147483648), 2147483647), ((-2147483648), 2147483647), ((-2), 23), (0, 8), (0, 10)]), some (.inl (some 15, 0)), (hst (gY) [(0, .inr (.inr (.inr (7, [.inr (.inl 1), .inr (.inl 2), .inl (some 16, 0), .inr (.inl 3), .inr (.inl 4), .inl (some 17, 0), .inr (.inl 5), .inr (.inl 6), .inr (.inl 7), .inr (.inl 8), .inl (some 4, 0), .inr (.inl 9), .inr (.inl 10), .inl (some 5, 0), .inr (.inl 11), .inr (.inl 12), .inr (.inl 13), .inl (some 6, 0), .inr (.inl 14), .inr (.inl 15), .inr (.inl 16), .inl (some 8, 0), .inl (some 9, 0), .inr (.inl 17), .inr (.inl 18), .inl (some 10, 0), .inl (some 11, 0), .inr (.inl 19), .inr (.inl 20), .inr (.inl 21), .inr (.inl 22), .inr (.inl 23), .inr (.inl 24), .inr (.inl 25), .inl (some 7, 0), .inr (.inl 26), .inr (.inl 27), .inr (.inl 28), .inr (.inl 29), .inr (.inl 30), .inr (.inl 31), .inr (.inl 32), .inr (.inl 33), .inr (.inl 34), .inl (some 12, 0)]))))]))])
def h_pub_X7_promise : List HD := []
set_option maxRecDepth 1000000 in
theorem k_pub_X7_promise : ctrOk c_pub_X7_promise := ctr_by (al k_X7_faultOf_0 (al k_X7_promiseOf_0 (al0))) c_pub_X7_promise 68 mX7_promise rfl h_pub_X7_promise (by decide +kernel) (by decide +kernel) (hn _ _ _ _)
def c_pub_X6_keeping : CTR := (49, 3, (bT ++ [((-2147483648), 2147483647), ((-2147483648), 2147483647)]), [.inr (.inl 0), .inl (some 14, 0), .inl (some 15, 0)], (gX 999), [((bT ++ [((-2147483648), 2147483647), ((-2147483648), 2147483647), ((-4), 8), (0, 8)]), some (.inl (some 16, 0)), (hst (gX 999) [(14, .inr (.inr (.inr (4, [.inr (.inl 15), .inr (.inl 16), .inr (.inl 17), .inl (none, 8), .inl (some 17, 0)]))))]))])
def h_pub_X6_keeping : List HD := []
set_option maxRecDepth 1000000 in
theorem k_pub_X6_keeping : ctrOk c_pub_X6_keeping := ctr_by (al0) c_pub_X6_keeping 103 mX6_keeping rfl h_pub_X6_keeping (by decide +kernel) (by decide +kernel) (hn _ _ _ _)
def c_pub_X7_keeping : CTR := (127, 2, (bY ++ [((-2147483648), 2147483647), ((-2147483648), 2147483647)]), [.inr (.inl 0), .inl (some 13, 0), .inl (some 14, 0)], (gY), [((bY ++ [((-2147483648), 2147483647), ((-2147483648), 2147483647), ((-4), 8), (0, 8)]), some (.inl (some 15, 0)), (hst (gY) [(0, .inr (.inr (.inr (7, [.inr (.inl 1), .inr (.inl 2), .inl (some 2, 0), .inr (.inl 3), .inr (.inl 4), .inl (some 3, 0), .inr (.inl 5), .inr (.inl 6), .inr (.inl 7), .inr (.inl 8), .inl (some 16, 0), .inr (.inl 9), .inr (.inl 10), .inl (some 5, 0), .inr (.inl 11), .inr (.inl 12), .inr (.inl 13), .inl (some 6, 0), .inr (.inl 14), .inr (.inl 15), .inr (.inl 16), .inl (some 8, 0), .inl (some 9, 0), .inr (.inl 17), .inr (.inl 18), .inl (some 10, 0), .inl (some 11, 0), .inr (.inl 19), .inr (.inl 20), .inr (.inl 21), .inr (.inl 22), .inr (.inl 23), .inr (.inl 24), .inr (.inl 25), .inl (some 7, 0), .inr (.inl 26), .inr (.inl 27), .inr (.inl 28), .inr (.inl 29), .inr (.inl 30), .inr (.inl 31), .inr (.inl 32), .inr (.inl 33), .inr (.inl 34), .inl (some 12, 0)]))))]))])
def h_pub_X7_keeping : List HD := []
set_option maxRecDepth 1000000 in
theorem k_pub_X7_keeping : ctrOk c_pub_X7_keeping := ctr_by (al0) c_pub_X7_keeping 76 mX7_keeping rfl h_pub_X7_keeping (by decide +kernel) (by decide +kernel) (hn _ _ _ _)
def c_pub_X6_lie : CTR := (50, 2, (bT ++ [((-2147483648), 2147483647), ((-2147483648), 2147483647), ((-2147483648), 2147483647)]), [.inr (.inl 0), .inl (some 14, 0), .inl (some 15, 0), .inl (some 16, 0)], (gX 999), [((bT ++ [((-2147483648), 2147483647), ((-2147483648), 2147483647), ((-2147483648), 2147483647), ((-4), 6), (0, 6)]), some (.inl (some 17, 0)), (hst (gX 999) [(18, .inr (.inr (.inr (4, [.inr (.inl 19), .inr (.inl 20), .inr (.inl 21), .inl (none, 6), .inl (some 18, 0)]))))]))])
def h_pub_X6_lie : List HD := []
set_option maxRecDepth 1000000 in
theorem k_pub_X6_lie : ctrOk c_pub_X6_lie := ctr_by (al0) c_pub_X6_lie 111 mX6_lie rfl h_pub_X6_lie (by decide +kernel) (by decide +kernel) (hn _ _ _ _)
def c_pub_X7_lie : CTR := (128, 2, (bY ++ [((-2147483648), 2147483647), ((-2147483648), 2147483647), ((-2147483648), 2147483647)]), [.inr (.inl 0), .inl (some 13, 0), .inl (some 14, 0), .inl (some 15, 0)], (gY), [((bY ++ [((-2147483648), 2147483647), ((-2147483648), 2147483647), ((-2147483648), 2147483647), ((-4), 6), (0, 6)]), some (.inl (some 16, 0)), (hst (gY) [(0, .inr (.inr (.inr (7, [.inr (.inl 1), .inr (.inl 2), .inl (some 2, 0), .inr (.inl 3), .inr (.inl 4), .inl (some 3, 0), .inr (.inl 5), .inr (.inl 6), .inr (.inl 7), .inr (.inl 8), .inl (some 4, 0), .inr (.inl 9), .inr (.inl 10), .inl (some 17, 0), .inr (.inl 11), .inr (.inl 12), .inr (.inl 13), .inl (some 6, 0), .inr (.inl 14), .inr (.inl 15), .inr (.inl 16), .inl (some 8, 0), .inl (some 9, 0), .inr (.inl 17), .inr (.inl 18), .inl (some 10, 0), .inl (some 11, 0), .inr (.inl 19), .inr (.inl 20), .inr (.inl 21), .inr (.inl 22), .inr (.inl 23), .inr (.inl 24), .inr (.inl 25), .inl (some 7, 0), .inr (.inl 26), .inr (.inl 27), .inr (.inl 28), .inr (.inl 29), .inr (.inl 30), .inr (.inl 31), .inr (.inl 32), .inr (.inl 33), .inr (.inl 34), .inl (some 12, 0)]))))]))])
def h_pub_X7_lie : List HD := []
set_option maxRecDepth 1000000 in
theorem k_pub_X7_lie : ctrOk c_pub_X7_lie := ctr_by (al0) c_pub_X7_lie 99 mX7_lie rfl h_pub_X7_lie (by decide +kernel) (by decide +kernel) (hn _ _ _ _)
def c_pub_X6_letting : CTR := (51, 2, (bT ++ [((-2147483648), 2147483647), ((-2147483648), 2147483647), ((-2147483648), 2147483647)]), [.inr (.inl 0), .inl (some 14, 0), .inl (some 15, 0), .inl (some 16, 0)], (gX 999), [((bT ++ [((-2147483648), 2147483647), ((-2147483648), 2147483647), ((-2147483648), 2147483647), ((-4), 6), (0, 6)]), some (.inl (some 17, 0)), (hst (gX 999) [(22, .inr (.inr (.inr (4, [.inr (.inl 23), .inr (.inl 24), .inr (.inl 25), .inl (none, 6), .inl (some 18, 0)]))))]))])
def h_pub_X6_letting : List HD := []
set_option maxRecDepth 1000000 in
theorem k_pub_X6_letting : ctrOk c_pub_X6_letting := ctr_by (al0) c_pub_X6_letting 111 mX6_letting rfl h_pub_X6_letting (by decide +kernel) (by decide +kernel) (hn _ _ _ _)
def c_pub_X7_letting : CTR := (129, 2, (bY ++ [((-2147483648), 2147483647), ((-2147483648), 2147483647), ((-2147483648), 2147483647)]), [.inr (.inl 0), .inl (some 13, 0), .inl (some 14, 0), .inl (some 15, 0)], (gY), [((bY ++ [((-2147483648), 2147483647), ((-2147483648), 2147483647), ((-2147483648), 2147483647), ((-4), 6), (0, 6)]), some (.inl (some 16, 0)), (hst (gY) [(0, .inr (.inr (.inr (7, [.inr (.inl 1), .inr (.inl 2), .inl (some 2, 0), .inr (.inl 3), .inr (.inl 4), .inl (some 3, 0), .inr (.inl 5), .inr (.inl 6), .inr (.inl 7), .inr (.inl 8), .inl (some 4, 0), .inr (.inl 9), .inr (.inl 10), .inl (some 5, 0), .inr (.inl 11), .inr (.inl 12), .inr (.inl 13), .inl (some 17, 0), .inr (.inl 14), .inr (.inl 15), .inr (.inl 16), .inl (some 8, 0), .inl (some 9, 0), .inr (.inl 17), .inr (.inl 18), .inl (some 10, 0), .inl (some 11, 0), .inr (.inl 19), .inr (.inl 20), .inr (.inl 21), .inr (.inl 22), .inr (.inl 23), .inr (.inl 24), .inr (.inl 25), .inl (some 7, 0), .inr (.inl 26), .inr (.inl 27), .inr (.inl 28), .inr (.inl 29), .inr (.inl 30), .inr (.inl 31), .inr (.inl 32), .inr (.inl 33), .inr (.inl 34), .inl (some 12, 0)]))))]))])
def h_pub_X7_letting : List HD := []
set_option maxRecDepth 1000000 in
theorem k_pub_X7_letting : ctrOk c_pub_X7_letting := ctr_by (al0) c_pub_X7_letting 99 mX7_letting rfl h_pub_X7_letting (by decide +kernel) (by decide +kernel) (hn _ _ _ _)
def c_pub_X6_back : CTR := (52, 1, (bT ++ [((-2147483648), 2147483647)]), [.inr (.inl 0), .inl (some 14, 0)], (gX 999), [((bT ++ [((-2147483648), 2147483647), ((-3), 7), (0, 8), (0, 6), (0, 6)]), some (.inl (some 15, 0)), (hst (gX 999) [(14, .inr (.inr (.inr (4, [.inr (.inl 15), .inr (.inl 16), .inr (.inl 17), .inl (none, 8), .inl (some 16, 0)])))), (18, .inr (.inr (.inr (4, [.inr (.inl 19), .inr (.inl 20), .inr (.inl 21), .inl (none, 6), .inl (some 17, 0)])))), (22, .inr (.inr (.inr (4, [.inr (.inl 23), .inr (.inl 24), .inr (.inl 25), .inl (none, 6), .inl (some 18, 0)]))))]))])
def h_pub_X6_back : List HD := []
set_option maxRecDepth 1000000 in
theorem k_pub_X6_back : ctrOk c_pub_X6_back := ctr_by (al0) c_pub_X6_back 59 mX6_back rfl h_pub_X6_back (by decide +kernel) (by decide +kernel) (hn _ _ _ _)
def c_pub_X7_back : CTR := (130, 1, (bY ++ [((-2147483648), 2147483647)]), [.inr (.inl 0), .inl (some 13, 0)], (gY), [((bY ++ [((-2147483648), 2147483647), ((-3), 7), (0, 8), (0, 6), (0, 6)]), some (.inl (some 14, 0)), (hst (gY) [(0, .inr (.inr (.inr (7, [.inr (.inl 1), .inr (.inl 2), .inl (some 2, 0), .inr (.inl 3), .inr (.inl 4), .inl (some 3, 0), .inr (.inl 5), .inr (.inl 6), .inr (.inl 7), .inr (.inl 8), .inl (some 15, 0), .inr (.inl 9), .inr (.inl 10), .inl (some 16, 0), .inr (.inl 11), .inr (.inl 12), .inr (.inl 13), .inl (some 17, 0), .inr (.inl 14), .inr (.inl 15), .inr (.inl 16), .inl (some 8, 0), .inl (some 9, 0), .inr (.inl 17), .inr (.inl 18), .inl (some 10, 0), .inl (some 11, 0), .inr (.inl 19), .inr (.inl 20), .inr (.inl 21), .inr (.inl 22), .inr (.inl 23), .inr (.inl 24), .inr (.inl 25), .inl (some 7, 0), .inr (.inl 26), .inr (.inl 27), .inr (.inl 28), .inr (.inl 29), .inr (.inl 30), .inr (.inl 31), .inr (.inl 32), .inr (.inl 33), .inr (.inl 34), .inl (some 12, 0)]))))]))])
def h_pub_X7_back : List HD := []
set_option maxRecDepth 1000000 in
theorem k_pub_X7_back : ctrOk c_pub_X7_back := ctr_by (al0) c_pub_X7_back 76 mX7_back rfl h_pub_X7_back (by decide +kernel) (by decide +kernel) (hn _ _ _ _)
