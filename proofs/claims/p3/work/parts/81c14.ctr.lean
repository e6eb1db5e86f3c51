def c_pub_X6_copy : CTR := (76, 2, (bT ++ [((-2147483648), 2147483647), ((-2147483648), 2147483647), ((-2147483648), 2147483647), ((-2147483648), 2147483647), ((-2147483648), 2147483647)]), [.inr (.inl 0), .inl (some 14, 0), .inl (some 15, 0), .inl (some 16, 0), .inl (some 17, 0), .inl (some 18, 0)], (gX 999), [((bT ++ [((-2147483648), 2147483647), ((-2147483648), 2147483647), ((-2147483648), 2147483647), ((-2147483648), 2147483647), ((-2147483648), 2147483647), ((-14), 1), (0, 5)]), some (.inl (some 19, 0)), (hst (gX 999) [(0, .inr (.inr (.inr (6, [.inr (.inl 1), .inr (.inl 3), .inr (.inl 5), .inr (.inl 6), .inr (.inl 9), .inr (.inl 14), .inr (.inl 18), .inr (.inl 22), .inr (.inl 31), .inr (.inl 35), .inr (.inl 39), .inr (.inl 47), .inl (some 20, 0)]))))]))])
def h_pub_X6_copy_p0 : List HD := []
set_option maxRecDepth 1000000 in
theorem k_pub_X6_copy_p0 : ctrOk (cset c_pub_X6_copy 18 ((-2147483648), (-1))) := ctr_by (al0) (cset c_pub_X6_copy 18 ((-2147483648), (-1))) 111 mX6_copy rfl h_pub_X6_copy_p0 (by decide +kernel) (by decide +kernel) (hn _ _ _ _)
def h_pub_X6_copy_p1 : List HD := []
set_option maxRecDepth 1000000 in
theorem k_pub_X6_copy_p1 : ctrOk (cset c_pub_X6_copy 18 (0, 0)) := ctr_by (al0) (cset c_pub_X6_copy 18 (0, 0)) 159 mX6_copy rfl h_pub_X6_copy_p1 (by decide +kernel) (by decide +kernel) (hn _ _ _ _)
def h_pub_X6_copy_p2 : List HD := []
set_option maxRecDepth 1000000 in
theorem k_pub_X6_copy_p2 : ctrOk (cset c_pub_X6_copy 18 (1, 1)) := ctr_by (al0) (cset c_pub_X6_copy 18 (1, 1)) 159 mX6_copy rfl h_pub_X6_copy_p2 (by decide +kernel) (by decide +kernel) (hn _ _ _ _)
def h_pub_X6_copy_p3 : List HD := []
set_option maxRecDepth 1000000 in
theorem k_pub_X6_copy_p3 : ctrOk (cset c_pub_X6_copy 18 (2, 2)) := ctr_by (al0) (cset c_pub_X6_copy 18 (2, 2)) 159 mX6_copy rfl h_pub_X6_copy_p3 (by decide +kernel) (by decide +kernel) (hn _ _ _ _)
def h_pub_X6_copy_p4 : List HD := []
set_option maxRecDepth 1000000 in
theorem k_pub_X6_copy_p4 : ctrOk (cset c_pub_X6_copy 18 (3, 3)) := ctr_by (al0) (cset c_pub_X6_copy 18 (3, 3)) 159 mX6_copy rfl h_pub_X6_copy_p4 (by decide +kernel) (by decide +kernel) (hn _ _ _ _)
def h_pub_X6_copy_p5 : List HD := []
set_option maxRecDepth 1000000 in
theorem k_pub_X6_copy_p5 : ctrOk (cset c_pub_X6_copy 18 (4, 4)) := ctr_by (al0) (cset c_pub_X6_copy 18 (4, 4)) 159 mX6_copy rfl h_pub_X6_copy_p5 (by decide +kernel) (by decide +kernel) (hn _ _ _ _)
def h_pub_X6_copy_p6 : List HD := []
set_option maxRecDepth 1000000 in
theorem k_pub_X6_copy_p6 : ctrOk (cset c_pub_X6_copy 18 (5, 5)) := ctr_by (al0) (cset c_pub_X6_copy 18 (5, 5)) 159 mX6_copy rfl h_pub_X6_copy_p6 (by decide +kernel) (by decide +kernel) (hn _ _ _ _)
def h_pub_X6_copy_p7 : List HD := []
set_option maxRecDepth 1000000 in
theorem k_pub_X6_copy_p7 : ctrOk (cset c_pub_X6_copy 18 (6, 6)) := ctr_by (al0) (cset c_pub_X6_copy 18 (6, 6)) 159 mX6_copy rfl h_pub_X6_copy_p7 (by decide +kernel) (by decide +kernel) (hn _ _ _ _)
def h_pub_X6_copy_p8 : List HD := []
set_option maxRecDepth 1000000 in
theorem k_pub_X6_copy_p8 : ctrOk (cset c_pub_X6_copy 18 (7, 7)) := ctr_by (al0) (cset c_pub_X6_copy 18 (7, 7)) 159 mX6_copy rfl h_pub_X6_copy_p8 (by decide +kernel) (by decide +kernel) (hn _ _ _ _)
def h_pub_X6_copy_p9 : List HD := []
set_option maxRecDepth 1000000 in
theorem k_pub_X6_copy_p9 : ctrOk (cset c_pub_X6_copy 18 (8, 8)) := ctr_by (al0) (cset c_pub_X6_copy 18 (8, 8)) 159 mX6_copy rfl h_pub_X6_copy_p9 (by decide +kernel) (by decide +kernel) (hn _ _ _ _)
def h_pub_X6_copy_p10 : List HD := []
set_option maxRecDepth 1000000 in
theorem k_pub_X6_copy_p10 : ctrOk (cset c_pub_X6_copy 18 (9, 9)) := ctr_by (al0) (cset c_pub_X6_copy 18 (9, 9)) 159 mX6_copy rfl h_pub_X6_copy_p10 (by decide +kernel) (by decide +kernel) (hn _ _ _ _)
def h_pub_X6_copy_p11 : List HD := []
set_option maxRecDepth 1000000 in
theorem k_pub_X6_copy_p11 : ctrOk (cset c_pub_X6_copy 18 (10, 10)) := ctr_by (al0) (cset c_pub_X6_copy 18 (10, 10)) 159 mX6_copy rfl h_pub_X6_copy_p11 (by decide +kernel) (by decide +kernel) (hn _ _ _ _)
def h_pub_X6_copy_p12 : List HD := []
set_option maxRecDepth 1000000 in
theorem k_pub_X6_copy_p12 : ctrOk (cset c_pub_X6_copy 18 (11, 11)) := ctr_by (al0) (cset c_pub_X6_copy 18 (11, 11)) 159 mX6_copy rfl h_pub_X6_copy_p12 (by decide +kernel) (by decide +kernel) (hn _ _ _ _)
def h_pub_X6_copy_p13 : List HD := []
set_option maxRecDepth 1000000 in
theorem k_pub_X6_copy_p13 : ctrOk (cset c_pub_X6_copy 18 (12, 12)) := ctr_by (al0) (cset c_pub_X6_copy 18 (12, 12)) 159 mX6_copy rfl h_pub_X6_copy_p13 (by decide +kernel) (by decide +kernel) (hn _ _ _ _)
def h_pub_X6_copy_p14 : List HD := []
set_option maxRecDepth 1000000 in
theorem k_pub_X6_copy_p14 : ctrOk (cset c_pub_X6_copy 18 (13, 13)) := ctr_by (al0) (cset c_pub_X6_copy 18 (13, 13)) 159 mX6_copy rfl h_pub_X6_copy_p14 (by decide +kernel) (by decide +kernel) (hn _ _ _ _)
def h_pub_X6_copy_p15 : List HD := []
set_option maxRecDepth 1000000 in
theorem k_pub_X6_copy_p15 : ctrOk (cset c_pub_X6_copy 18 (14, 14)) := ctr_by (al0) (cset c_pub_X6_copy 18 (14, 14)) 159 mX6_copy rfl h_pub_X6_copy_p15 (by decide +kernel) (by decide +kernel) (hn _ _ _ _)
def h_pub_X6_copy_p16 : List HD := []
set_option maxRecDepth 1000000 in
theorem k_pub_X6_copy_p16 : ctrOk (cset c_pub_X6_copy 18 (15, 15)) := ctr_by (al0) (cset c_pub_X6_copy 18 (15, 15)) 159 mX6_copy rfl h_pub_X6_copy_p16 (by decide +kernel) (by decide +kernel) (hn _ _ _ _)
def h_pub_X6_copy_p17 : List HD := []
set_option maxRecDepth 1000000 in
theorem k_pub_X6_copy_p17 : ctrOk (cset c_pub_X6_copy 18 (16, 16)) := ctr_by (al0) (cset c_pub_X6_copy 18 (16, 16)) 159 mX6_copy rfl h_pub_X6_copy_p17 (by decide +kernel) (by decide +kernel) (hn _ _ _ _)
def h_pub_X6_copy_p18 : List HD := []
set_option maxRecDepth 1000000 in
theorem k_pub_X6_copy_p18 : ctrOk (cset c_pub_X6_copy 18 (17, 17)) := ctr_by (al0) (cset c_pub_X6_copy 18 (17, 17)) 159 mX6_copy rfl h_pub_X6_copy_p18 (by decide +kernel) (by decide +kernel) (hn _ _ _ _)
def h_pub_X6_copy_p19 : List HD := []
set_option maxRecDepth 1000000 in
theorem k_pub_X6_copy_p19 : ctrOk (cset c_pub_X6_copy 18 (18, 18)) := ctr_by (al0) (cset c_pub_X6_copy 18 (18, 18)) 159 mX6_copy rfl h_pub_X6_copy_p19 (by decide +kernel) (by decide +kernel) (hn _ _ _ _)
def h_pub_X6_copy_p20 : List HD := []
set_option maxRecDepth 1000000 in
theorem k_pub_X6_copy_p20 : ctrOk (cset c_pub_X6_copy 18 (19, 19)) := ctr_by (al0) (cset c_pub_X6_copy 18 (19, 19)) 159 mX6_copy rfl h_pub_X6_copy_p20 (by decide +kernel) (by decide +kernel) (hn _ _ _ _)
def h_pub_X6_copy_p21 : List HD := []
set_option maxRecDepth 1000000 in
theorem k_pub_X6_copy_p21 : ctrOk (cset c_pub_X6_copy 18 (20, 20)) := ctr_by (al0) (cset c_pub_X6_copy 18 (20, 20)) 159 mX6_copy rfl h_pub_X6_copy_p21 (by decide +kernel) (by decide +kernel) (hn _ _ _ _)
def h_pub_X6_copy_p22 : List HD := []
set_option maxRecDepth 1000000 in
theorem k_pub_X6_copy_p22 : ctrOk (cset c_pub_X6_copy 18 (21, 21)) := ctr_by (al0) (cset c_pub_X6_copy 18 (21, 21)) 159 mX6_copy rfl h_pub_X6_copy_p22 (by decide +kernel) (by decide +kernel) (hn _ _ _ _)
def h_pub_X6_copy_p23 : List HD := []
set_option maxRecDepth 1000000 in
theorem k_pub_X6_copy_p23 : ctrOk (cset c_pub_X6_copy 18 (22, 22)) := ctr_by (al0) (cset c_pub_X6_copy 18 (22, 22)) 159 mX6_copy rfl h_pub_X6_copy_p23 (by decide +kernel) (by decide +kernel) (hn _ _ _ _)
def h_pub_X6_copy_p24 : List HD := []
set_option maxRecDepth 1000000 in
theorem k_pub_X6_copy_p24 : ctrOk (cset c_pub_X6_copy 18 (23, 23)) := ctr_by (al0) (cset c_pub_X6_copy 18 (23, 23)) 159 mX6_copy rfl h_pub_X6_copy_p24 (by decide +kernel) (by decide +kernel) (hn _ _ _ _)
def h_pub_X6_copy_p25 : List HD := []
set_option maxRecDepth 1000000 in
theorem k_pub_X6_copy_p25 : ctrOk (cset c_pub_X6_copy 18 (24, 24)) := ctr_by (al0) (cset c_pub_X6_copy 18 (24, 24)) 159 mX6_copy rfl h_pub_X6_copy_p25 (by decide +kernel) (by decide +kernel) (hn _ _ _ _)
def h_pub_X6_copy_p26 : List HD := []
set_option maxRecDepth 1000000 in
theorem k_pub_X6_copy_p26 : ctrOk (cset c_pub_X6_copy 18 (25, 25)) := ctr_by (al0) (cset c_pub_X6_copy 18 (25, 25)) 159 mX6_copy rfl h_pub_X6_copy_p26 (by decide +kernel) (by decide +kernel) (hn _ _ _ _)
def h_pub_X6_copy_p27 : List HD := []
set_option maxRecDepth 1000000 in
theorem k_pub_X6_copy_p27 : ctrOk (cset c_pub_X6_copy 18 (26, 26)) := ctr_by (al0) (cset c_pub_X6_copy 18 (26, 26)) 159 mX6_copy rfl h_pub_X6_copy_p27 (by decide +kernel) (by decide +kernel) (hn _ _ _ _)
def h_pub_X6_copy_p28 : List HD := []
set_option maxRecDepth 1000000 in
theorem k_pub_X6_copy_p28 : ctrOk (cset c_pub_X6_copy 18 (27, 27)) := ctr_by (al0) (cset c_pub_X6_copy 18 (27, 27)) 159 mX6_copy rfl h_pub_X6_copy_p28 (by decide +kernel) (by decide +kernel) (hn _ _ _ _)
def h_pub_X6_copy_p29 : List HD := []
set_option maxRecDepth 1000000 in
theorem k_pub_X6_copy_p29 : ctrOk (cset c_pub_X6_copy 18 (28, 28)) := ctr_by (al0) (cset c_pub_X6_copy 18 (28, 28)) 159 mX6_copy rfl h_pub_X6_copy_p29 (by decide +kernel) (by decide +kernel) (hn _ _ _ _)
def h_pub_X6_copy_p30 : List HD := []
set_option maxRecDepth 1000000 in
theorem k_pub_X6_copy_p30 : ctrOk (cset c_pub_X6_copy 18 (29, 29)) := ctr_by (al0) (cset c_pub_X6_copy 18 (29, 29)) 159 mX6_copy rfl h_pub_X6_copy_p30 (by decide +kernel) (by decide +kernel) (hn _ _ _ _)
def h_pub_X6_copy_p31 : List HD := []
set_option maxRecDepth 1000000 in
theorem k_pub_X6_copy_p31 : ctrOk (cset c_pub_X6_copy 18 (30, 30)) := ctr_by (al0) (cset c_pub_X6_copy 18 (30, 30)) 159 mX6_copy rfl h_pub_X6_copy_p31 (by decide +kernel) (by decide +kernel) (hn _ _ _ _)
def h_pub_X6_copy_p32 : List HD := []
set_option maxRecDepth 1000000 in
theorem k_pub_X6_copy_p32 : ctrOk (cset c_pub_X6_copy 18 (31, 31)) := ctr_by (al0) (cset c_pub_X6_copy 18 (31, 31)) 159 mX6_copy rfl h_pub_X6_copy_p32 (by decide +kernel) (by decide +kernel) (hn _ _ _ _)
def h_pub_X6_copy_p33 : List HD := []
set_option maxRecDepth 1000000 in
theorem k_pub_X6_copy_p33 : ctrOk (cset c_pub_X6_copy 18 (32, 32)) := ctr_by (al0) (cset c_pub_X6_copy 18 (32, 32)) 159 mX6_copy rfl h_pub_X6_copy_p33 (by decide +kernel) (by decide +kernel) (hn _ _ _ _)
def h_pub_X6_copy_p34 : List HD := []
set_option maxRecDepth 1000000 in
theorem k_pub_X6_copy_p34 : ctrOk (cset c_pub_X6_copy 18 (33, 33)) := ctr_by (al0) (cset c_pub_X6_copy 18 (33, 33)) 159 mX6_copy rfl h_pub_X6_copy_p34 (by decide +kernel) (by decide +kernel) (hn _ _ _ _)
def h_pub_X6_copy_p35 : List HD := []
set_option maxRecDepth 1000000 in
theorem k_pub_X6_copy_p35 : ctrOk (cset c_pub_X6_copy 18 (34, 34)) := ctr_by (al0) (cset c_pub_X6_copy 18 (34, 34)) 159 mX6_copy rfl h_pub_X6_copy_p35 (by decide +kernel) (by decide +kernel) (hn _ _ _ _)
def h_pub_X6_copy_p36 : List HD := []
set_option maxRecDepth 1000000 in
theorem k_pub_X6_copy_p36 : ctrOk (cset c_pub_X6_copy 18 (35, 35)) := ctr_by (al0) (cset c_pub_X6_copy 18 (35, 35)) 159 mX6_copy rfl h_pub_X6_copy_p36 (by decide +kernel) (by decide +kernel) (hn _ _ _ _)
def h_pub_X6_copy_p37 : List HD := []
set_option maxRecDepth 1000000 in
theorem k_pub_X6_copy_p37 : ctrOk (cset c_pub_X6_copy 18 (36, 36)) := ctr_by (al0) (cset c_pub_X6_copy 18 (36, 36)) 159 mX6_copy rfl h_pub_X6_copy_p37 (by decide +kernel) (by decide +kernel) (hn _ _ _ _)
def h_pub_X6_copy_p38 : List HD := []
set_option maxRecDepth 1000000 in
theorem k_pub_X6_copy_p38 : ctrOk (cset c_pub_X6_copy 18 (37, 37)) := ctr_by (al0) (cset c_pub_X6_copy 18 (37, 37)) 159 mX6_copy rfl h_pub_X6_copy_p38 (by decide +kernel) (by decide +kernel) (hn _ _ _ _)
def h_pub_X6_copy_p39 : List HD := []
set_option maxRecDepth 1000000 in
theorem k_pub_X6_copy_p39 : ctrOk (cset c_pub_X6_copy 18 (38, 38)) := ctr_by (al0) (cset c_pub_X6_copy 18 (38, 38)) 159 mX6_copy rfl h_pub_X6_copy_p39 (by decide +kernel) (by decide +kernel) (hn _ _ _ _)
def h_pub_X6_copy_p40 : List HD := []
set_option maxRecDepth 1000000 in
theorem k_pub_X6_copy_p40 : ctrOk (cset c_pub_X6_copy 18 (39, 39)) := ctr_by (al0) (cset c_pub_X6_copy 18 (39, 39)) 159 mX6_copy rfl h_pub_X6_copy_p40 (by decide +kernel) (by decide +kernel) (hn _ _ _ _)
def h_pub_X6_copy_p41 : List HD := []
set_option maxRecDepth 1000000 in
theorem k_pub_X6_copy_p41 : ctrOk (cset c_pub_X6_copy 18 (40, 40)) := ctr_by (al0) (cset c_pub_X6_copy 18 (40, 40)) 159 mX6_copy rfl h_pub_X6_copy_p41 (by decide +kernel) (by decide +kernel) (hn _ _ _ _)
def h_pub_X6_copy_p42 : List HD := []
set_option maxRecDepth 1000000 in
theorem k_pub_X6_copy_p42 : ctrOk (cset c_pub_X6_copy 18 (41, 41)) := ctr_by (al0) (cset c_pub_X6_copy 18 (41, 41)) 159 mX6_copy rfl h_pub_X6_copy_p42 (by decide +kernel) (by decide +kernel) (hn _ _ _ _)
def h_pub_X6_copy_p43 : List HD := []
set_option maxRecDepth 1000000 in
theorem k_pub_X6_copy_p43 : ctrOk (cset c_pub_X6_copy 18 (42, 42)) := ctr_by (al0) (cset c_pub_X6_copy 18 (42, 42)) 159 mX6_copy rfl h_pub_X6_copy_p43 (by decide +kernel) (by decide +kernel) (hn _ _ _ _)
def h_pub_X6_copy_p44 : List HD := []
set_option maxRecDepth 1000000 in
theorem k_pub_X6_copy_p44 : ctrOk (cset c_pub_X6_copy 18 (43, 43)) := ctr_by (al0) (cset c_pub_X6_copy 18 (43, 43)) 159 mX6_copy rfl h_pub_X6_copy_p44 (by decide +kernel) (by decide +kernel) (hn _ _ _ _)
def h_pub_X6_copy_p45 : List HD := []
set_option maxRecDepth 1000000 in
theorem k_pub_X6_copy_p45 : ctrOk (cset c_pub_X6_copy 18 (44, 44)) := ctr_by (al0) (cset c_pub_X6_copy 18 (44, 44)) 159 mX6_copy rfl h_pub_X6_copy_p45 (by decide +kernel) (by decide +kernel) (hn _ _ _ _)
def h_pub_X6_copy_p46 : List HD := []
set_option maxRecDepth 1000000 in
theorem k_pub_X6_copy_p46 : ctrOk (cset c_pub_X6_copy 18 (45, 45)) := ctr_by (al0) (cset c_pub_X6_copy 18 (45, 45)) 159 mX6_copy rfl h_pub_X6_copy_p46 (by decide +kernel) (by decide +kernel) (hn _ _ _ _)
def h_pub_X6_copy_p47 : List HD := []
set_option maxRecDepth 1000000 in
theorem k_pub_X6_copy_p47 : ctrOk (cset c_pub_X6_copy 18 (46, 46)) := ctr_by (al0) (cset c_pub_X6_copy 18 (46, 46)) 159 mX6_copy rfl h_pub_X6_copy_p47 (by decide +kernel) (by decide +kernel) (hn _ _ _ _)
def h_pub_X6_copy_p48 : List HD := []
set_option maxRecDepth 1000000 in
theorem k_pub_X6_copy_p48 : ctrOk (cset c_pub_X6_copy 18 (47, 47)) := ctr_by (al0) (cset c_pub_X6_copy 18 (47, 47)) 159 mX6_copy rfl h_pub_X6_copy_p48 (by decide +kernel) (by decide +kernel) (hn _ _ _ _)
def h_pub_X6_copy_p49 : List HD := []
set_option maxRecDepth 1000000 in
theorem k_pub_X6_copy_p49 : ctrOk (cset c_pub_X6_copy 18 (48, 48)) := ctr_by (al0) (cset c_pub_X6_copy 18 (48, 48)) 159 mX6_copy rfl h_pub_X6_copy_p49 (by decide +kernel) (by decide +kernel) (hn _ _ _ _)
def h_pub_X6_copy_p50 : List HD := []
set_option maxRecDepth 1000000 in
theorem k_pub_X6_copy_p50 : ctrOk (cset c_pub_X6_copy 18 (49, 49)) := ctr_by (al0) (cset c_pub_X6_copy 18 (49, 49)) 159 mX6_copy rfl h_pub_X6_copy_p50 (by decide +kernel) (by decide +kernel) (hn _ _ _ _)
def h_pub_X6_copy_p51 : List HD := []
set_option maxRecDepth 1000000 in
theorem k_pub_X6_copy_p51 : ctrOk (cset c_pub_X6_copy 18 (50, 50)) := ctr_by (al0) (cset c_pub_X6_copy 18 (50, 50)) 159 mX6_copy rfl h_pub_X6_copy_p51 (by decide +kernel) (by decide +kernel) (hn _ _ _ _)
def h_pub_X6_copy_p52 : List HD := []
set_option maxRecDepth 1000000 in
theorem k_pub_X6_copy_p52 : ctrOk (cset c_pub_X6_copy 18 (51, 51)) := ctr_by (al0) (cset c_pub_X6_copy 18 (51, 51)) 159 mX6_copy rfl h_pub_X6_copy_p52 (by decide +kernel) (by decide +kernel) (hn _ _ _ _)
def h_pub_X6_copy_p53 : List HD := []
set_option maxRecDepth 1000000 in
theorem k_pub_X6_copy_p53 : ctrOk (cset c_pub_X6_copy 18 (52, 52)) := ctr_by (al0) (cset c_pub_X6_copy 18 (52, 52)) 159 mX6_copy rfl h_pub_X6_copy_p53 (by decide +kernel) (by decide +kernel) (hn _ _ _ _)
def h_pub_X6_copy_p54 : List HD := []
set_option maxRecDepth 1000000 in
theorem k_pub_X6_copy_p54 : ctrOk (cset c_pub_X6_copy 18 (53, 53)) := ctr_by (al0) (cset c_pub_X6_copy 18 (53, 53)) 159 mX6_copy rfl h_pub_X6_copy_p54 (by decide +kernel) (by decide +kernel) (hn _ _ _ _)
def h_pub_X6_copy_p55 : List HD := []
set_option maxRecDepth 1000000 in
theorem k_pub_X6_copy_p55 : ctrOk (cset c_pub_X6_copy 18 (54, 54)) := ctr_by (al0) (cset c_pub_X6_copy 18 (54, 54)) 159 mX6_copy rfl h_pub_X6_copy_p55 (by decide +kernel) (by decide +kernel) (hn _ _ _ _)
def h_pub_X6_copy_p56 : List HD := []
set_option maxRecDepth 1000000 in
theorem k_pub_X6_copy_p56 : ctrOk (cset c_pub_X6_copy 18 (55, 55)) := ctr_by (al0) (cset c_pub_X6_copy 18 (55, 55)) 159 mX6_copy rfl h_pub_X6_copy_p56 (by decide +kernel) (by decide +kernel) (hn _ _ _ _)
def h_pub_X6_copy_p57 : List HD := []
set_option maxRecDepth 1000000 in
theorem k_pub_X6_copy_p57 : ctrOk (cset c_pub_X6_copy 18 (56, 56)) := ctr_by (al0) (cset c_pub_X6_copy 18 (56, 56)) 159 mX6_copy rfl h_pub_X6_copy_p57 (by decide +kernel) (by decide +kernel) (hn _ _ _ _)
def h_pub_X6_copy_p58 : List HD := []
set_option maxRecDepth 1000000 in
theorem k_pub_X6_copy_p58 : ctrOk (cset c_pub_X6_copy 18 (57, 57)) := ctr_by (al0) (cset c_pub_X6_copy 18 (57, 57)) 159 mX6_copy rfl h_pub_X6_copy_p58 (by decide +kernel) (by decide +kernel) (hn _ _ _ _)
def h_pub_X6_copy_p59 : List HD := []
set_option maxRecDepth 1000000 in
theorem k_pub_X6_copy_p59 : ctrOk (cset c_pub_X6_copy 18 (58, 58)) := ctr_by (al0) (cset c_pub_X6_copy 18 (58, 58)) 159 mX6_copy rfl h_pub_X6_copy_p59 (by decide +kernel) (by decide +kernel) (hn _ _ _ _)
def h_pub_X6_copy_p60 : List HD := []
set_option maxRecDepth 1000000 in
theorem k_pub_X6_copy_p60 : ctrOk (cset c_pub_X6_copy 18 (59, 59)) := ctr_by (al0) (cset c_pub_X6_copy 18 (59, 59)) 159 mX6_copy rfl h_pub_X6_copy_p60 (by decide +kernel) (by decide +kernel) (hn _ _ _ _)
def h_pub_X6_copy_p61 : List HD := []
set_option maxRecDepth 1000000 in
theorem k_pub_X6_copy_p61 : ctrOk (cset c_pub_X6_copy 18 (60, 60)) := ctr_by (al0) (cset c_pub_X6_copy 18 (60, 60)) 159 mX6_copy rfl h_pub_X6_copy_p61 (by decide +kernel) (by decide +kernel) (hn _ _ _ _)
def h_pub_X6_copy_p62 : List HD := []
set_option maxRecDepth 1000000 in
theorem k_pub_X6_copy_p62 : ctrOk (cset c_pub_X6_copy 18 (61, 2147483647)) := ctr_by (al0) (cset c_pub_X6_copy 18 (61, 2147483647)) 117 mX6_copy rfl h_pub_X6_copy_p62 (by decide +kernel) (by decide +kernel) (hn _ _ _ _)
theorem k_pub_X6_copy : ctrOk c_pub_X6_copy := ctr_split c_pub_X6_copy 18 rfl [((-2147483648), (-1)), (0, 0), (1, 1), (2, 2), (3, 3), (4, 4), (5, 5), (6, 6), (7, 7), (8, 8), (9, 9), (10, 10), (11, 11), (12, 12), (13, 13), (14, 14), (15, 15), (16, 16), (17, 17), (18, 18), (19, 19), (20, 20), (21, 21), (22, 22), (23, 23), (24, 24), (25, 25), (26, 26), (27, 27), (28, 28), (29, 29), (30, 30), (31, 31), (32, 32), (33, 33), (34, 34), (35, 35), (36, 36), (37, 37), (38, 38), (39, 39), (40, 40), (41, 41), (42, 42), (43, 43), (44, 44), (45, 45), (46, 46), (47, 47), (48, 48), (49, 49), (50, 50), (51, 51), (52, 52), (53, 53), (54, 54), (55, 55), (56, 56), (57, 57), (58, 58), (59, 59), (60, 60), (61, 2147483647)] (by decide +kernel) (fmc k_pub_X6_copy_p0 (fmc k_pub_X6_copy_p1 (fmc k_pub_X6_copy_p2 (fmc k_pub_X6_copy_p3 (fmc k_pub_X6_copy_p4 (fmc k_pub_X6_copy_p5 (fmc k_pub_X6_copy_p6 (fmc k_pub_X6_copy_p7 (fmc k_pub_X6_copy_p8 (fmc k_pub_X6_copy_p9 (fmc k_pub_X6_copy_p10 (fmc k_pub_X6_copy_p11 (fmc k_pub_X6_copy_p12 (fmc k_pub_X6_copy_p13 (fmc k_pub_X6_copy_p14 (fmc k_pub_X6_copy_p15 (fmc k_pub_X6_copy_p16 (fmc k_pub_X6_copy_p17 (fmc k_pub_X6_copy_p18 (fmc k_pub_X6_copy_p19 (fmc k_pub_X6_copy_p20 (fmc k_pub_X6_copy_p21 (fmc k_pub_X6_copy_p22 (fmc k_pub_X6_copy_p23 (fmc k_pub_X6_copy_p24 (fmc k_pub_X6_copy_p25 (fmc k_pub_X6_copy_p26 (fmc k_pub_X6_copy_p27 (fmc k_pub_X6_copy_p28 (fmc k_pub_X6_copy_p29 (fmc k_pub_X6_copy_p30 (fmc k_pub_X6_copy_p31 (fmc k_pub_X6_copy_p32 (fmc k_pub_X6_copy_p33 (fmc k_pub_X6_copy_p34 (fmc k_pub_X6_copy_p35 (fmc k_pub_X6_copy_p36 (fmc k_pub_X6_copy_p37 (fmc k_pub_X6_copy_p38 (fmc k_pub_X6_copy_p39 (fmc k_pub_X6_copy_p40 (fmc k_pub_X6_copy_p41 (fmc k_pub_X6_copy_p42 (fmc k_pub_X6_copy_p43 (fmc k_pub_X6_copy_p44 (fmc k_pub_X6_copy_p45 (fmc k_pub_X6_copy_p46 (fmc k_pub_X6_copy_p47 (fmc k_pub_X6_copy_p48 (fmc k_pub_X6_copy_p49 (fmc k_pub_X6_copy_p50 (fmc k_pub_X6_copy_p51 (fmc k_pub_X6_copy_p52 (fmc k_pub_X6_copy_p53 (fmc k_pub_X6_copy_p54 (fmc k_pub_X6_copy_p55 (fmc k_pub_X6_copy_p56 (fmc k_pub_X6_copy_p57 (fmc k_pub_X6_copy_p58 (fmc k_pub_X6_copy_p59 (fmc k_pub_X6_copy_p60 (fmc k_pub_X6_copy_p61 (fmc k_pub_X6_copy_p62 fmn)))))))))))))))))))))))))))))))))))))))))))))))))))))))))))))))
