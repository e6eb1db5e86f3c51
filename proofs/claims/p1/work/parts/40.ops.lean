def P_type : List (List (Int32 × Int32)) := [[((-2147483648), (-1)), (0, 0), (1, 1), (2, 2147483647)], [((-2147483648), (-1)), (0, 96), (97, 97), (98, 104), (105, 108), (109, 109), (110, 114), (115, 115), (116, 255), (256, 2147483647)]]
set_option maxRecDepth 1000000 in
theorem al_type : (combos P_type).all (alikeS false 43 111 mX6_type.ml mX7_type.ml) = true := by decide +kernel
def P_wipe : List (List (Int32 × Int32)) := [[((-2147483648), (-1)), (0, 0), (1, 1), (2, 2147483647)]]
set_option maxRecDepth 1000000 in
theorem al_wipe : (combos P_wipe).all (alikeS false 44 112 mX6_wipe.ml mX7_wipe.ml) = true := by decide +kernel
def P_undo : List (List (Int32 × Int32)) := [[((-2147483648), (-1)), (0, 0), (1, 1), (2, 2147483647)]]
set_option maxRecDepth 1000000 in
theorem al_undo : (combos P_undo).all (alikeS false 45 113 mX6_undo.ml mX7_undo.ml) = true := by decide +kernel
def P_fault : List (List (Int32 × Int32)) := [[((-2147483648), (-1)), (0, 0), (1, 1), (2, 2147483647)]]
set_option maxRecDepth 1000000 in
theorem al_fault : (combos P_fault).all (alikeS false 46 120 mX6_fault.ml mX7_fault.ml) = true := by decide +kernel
def P_person : List (List (Int32 × Int32)) := [[((-2147483648), (-1)), (0, 2147483647)], [((-2147483648), 2147483647)]]
set_option maxRecDepth 1000000 in
theorem al_person : (combos P_person).all (alikeS false 47 124 mX6_person.ml mX7_person.ml) = true := by decide +kernel
def P_promise : List (List (Int32 × Int32)) := [[((-2147483648), (-1)), (0, 2147483647)], [((-2147483648), 2147483647)]]
set_option maxRecDepth 1000000 in
theorem al_promise : (combos P_promise).all (alikeS false 48 126 mX6_promise.ml mX7_promise.ml) = true := by decide +kernel
def P_keeping : List (List (Int32 × Int32)) := [[((-2147483648), (-1)), (0, 23), (24, 2147483647)], [((-2147483648), (-1)), (0, 9), (10, 2147483647)]]
set_option maxRecDepth 1000000 in
theorem al_keeping : (combos P_keeping).all (alikeS false 49 127 mX6_keeping.ml mX7_keeping.ml) = true := by decide +kernel
def P_lie : List (List (Int32 × Int32)) := [[((-2147483648), (-1)), (0, 23), (24, 2147483647)], [((-2147483648), (-1)), (0, 7), (8, 2147483647)], [((-2147483648), 0), (1, 9), (10, 2147483647)]]
set_option maxRecDepth 1000000 in
theorem al_lie : (combos P_lie).all (alikeS false 50 128 mX6_lie.ml mX7_lie.ml) = true := by decide +kernel
def P_letting : List (List (Int32 × Int32)) := [[((-2147483648), (-1)), (0, 23), (24, 2147483647)], [((-2147483648), (-1)), (0, 7), (8, 2147483647)], [((-2147483648), 0), (1, 9), (10, 2147483647)]]
set_option maxRecDepth 1000000 in
theorem al_letting : (combos P_letting).all (alikeS false 51 129 mX6_letting.ml mX7_letting.ml) = true := by decide +kernel
def P_back : List (List (Int32 × Int32)) := [[((-2147483648), (-1)), (0, 0), (1, 1), (2, 2), (3, 2147483647)]]
set_option maxRecDepth 1000000 in
theorem al_back : (combos P_back).all (alikeS false 52 130 mX6_back.ml mX7_back.ml) = true := by decide +kernel
def P_read : List (List (Int32 × Int32)) := [[((-2147483648), (-1)), (0, 0), (1, 1), (2, 2), (3, 3), (4, 2147483647)]]
set_option maxRecDepth 1000000 in
theorem al_read : (combos P_read).all (alikeS false 53 131 mX6_read.ml mX7_read.ml) = true := by decide +kernel
def P_coat : List (List (Int32 × Int32)) := [[((-2147483648), (-1)), (0, 23), (24, 2147483647)], [((-2147483648), (-1)), (0, 2147483647)], [((-2147483648), 2147483647)]]
set_option maxRecDepth 1000000 in
theorem al_coat : (combos P_coat).all (alikeS false 54 145 mX6_coat.ml mX7_coat.ml) = true := by decide +kernel
def P_stands : List (List (Int32 × Int32)) := [[((-2147483648), (-1)), (0, 23), (24, 2147483647)], [((-2147483648), (-1)), (0, 2147483647)]]
set_option maxRecDepth 1000000 in
theorem al_stands : (combos P_stands).all (alikeS false 55 147 mX6_stands.ml mX7_stands.ml) = true := by decide +kernel
def P_neat : List (List (Int32 × Int32)) := [[((-2147483648), (-1)), (0, 23), (24, 2147483647)]]
set_option maxRecDepth 1000000 in
theorem al_neat : (combos P_neat).all (alikeS false 56 149 mX6_neat.ml mX7_neat.ml) = true := by decide +kernel
def P_naked : List (List (Int32 × Int32)) := [[((-2147483648), (-1)), (0, 23), (24, 2147483647)]]
set_option maxRecDepth 1000000 in
theorem al_naked : (combos P_naked).all (alikeS false 57 152 mX6_naked.ml mX7_naked.ml) = true := by decide +kernel
def P_longest : List (List (Int32 × Int32)) := [[((-2147483648), (-1)), (0, 23), (24, 2147483647)]]
set_option maxRecDepth 1000000 in
theorem al_longest : (combos P_longest).all (alikeS false 58 154 mX6_longest.ml mX7_longest.ml) = true := by decide +kernel
def P_splits : List (List (Int32 × Int32)) := []
set_option maxRecDepth 1000000 in
theorem al_splits : (combos P_splits).all (alikeS false 59 157 mX6_splits.ml mX7_splits.ml) = true := by decide +kernel
def P_best : List (List (Int32 × Int32)) := []
set_option maxRecDepth 1000000 in
theorem al_best : (combos P_best).all (alikeS false 60 159 mX6_best.ml mX7_best.ml) = true := by decide +kernel
def P_swear : List (List (Int32 × Int32)) := [[((-2147483648), (-1)), (0, 2147483647)], [((-2147483648), 2147483647)]]
set_option maxRecDepth 1000000 in
theorem al_swear : (combos P_swear).all (alikeS false 61 161 mX6_swear.ml mX7_swear.ml) = true := by decide +kernel
def P_keep : List (List (Int32 × Int32)) := [[((-2147483648), (-1)), (0, 23), (24, 2147483647)], [((-2147483648), (-1)), (0, 0), (1, 1), (2, 2147483647)]]
set_option maxRecDepth 1000000 in
theorem al_keep : (combos P_keep).all (alikeS false 62 163 mX6_keep.ml mX7_keep.ml) = true := by decide +kernel
def P_due : List (List (Int32 × Int32)) := [[((-2147483648), (-1)), (0, 2147483647)], [((-2147483648), 2147483647)]]
set_option maxRecDepth 1000000 in
theorem al_due : (combos P_due).all (alikeS false 63 165 mX6_due.ml mX7_due.ml) = true := by decide +kernel
def P_hush : List (List (Int32 × Int32)) := [[((-2147483648), (-2)), ((-1), (-1)), (0, 0), (1, 1), (2, 2147483647)]]
set_option maxRecDepth 1000000 in
theorem al_hush : (combos P_hush).all (alikeS false 64 169 mX6_hush.ml mX7_hush.ml) = true := by decide +kernel
def P_seen : List (List (Int32 × Int32)) := [[((-2147483648), (-1)), (0, 23), (24, 2147483647)], [((-2147483648), (-1)), (0, 7), (8, 2147483647)], [((-2147483648), (-1)), (0, 99), (100, 2147483647)]]
set_option maxRecDepth 1000000 in
theorem al_seen : (combos P_seen).all (alikeS false 65 170 mX6_seen.ml mX7_seen.ml) = true := by decide +kernel
def P_forget : List (List (Int32 × Int32)) := []
set_option maxRecDepth 1000000 in
theorem al_forget : (combos P_forget).all (alikeS false 66 171 mX6_forget.ml mX7_forget.ml) = true := by decide +kernel
def P_never : List (List (Int32 × Int32)) := []
set_option maxRecDepth 1000000 in
theorem al_never : (combos P_never).all (alikeS false 67 174 mX6_never.ml mX7_never.ml) = true := by decide +kernel
def P_was : List (List (Int32 × Int32)) := [[((-2147483648), (-1)), (0, 2147483647)], [((-2147483648), 2147483647)]]
set_option maxRecDepth 1000000 in
theorem al_was : (combos P_was).all (alikeS false 68 177 mX6_was.ml mX7_was.ml) = true := by decide +kernel
def P_ask : List (List (Int32 × Int32)) := [[((-2147483648), (-1)), (0, 2147483647)]]
set_option maxRecDepth 1000000 in
theorem al_ask : (combos P_ask).all (alikeS false 69 179 mX6_ask.ml mX7_ask.ml) = true := by decide +kernel
def P_word : List (List (Int32 × Int32)) := [[((-2147483648), (-1)), (0, 16), (17, 2147483647)], [((-2147483648), (-1)), (0, 2147483647)], [((-2147483648), 2147483647)], [((-2147483648), 2147483647)]]
set_option maxRecDepth 1000000 in
theorem al_word : (combos P_word).all (alikeS true 70 181 mX6_word.ml mX7_word.ml) = true := by decide +kernel
def P_year : List (List (Int32 × Int32)) := [[((-2147483648), 2147483647)], [((-2147483648), (-1)), (0, 8), (9, 2147483647)], [((-2147483648), (-1)), (0, 0), (1, 1), (2, 2147483647)]]
set_option maxRecDepth 1000000 in
theorem al_year : (combos P_year).all (alikeS false 71 183 mX6_year.ml mX7_year.ml) = true := by decide +kernel
def P_sheet : List (List (Int32 × Int32)) := [[((-2147483648), (-1)), (0, 0), (1, 1), (2, 2), (3, 3), (4, 2147483647)], [((-2147483648), (-1)), (0, 2), (3, 2147483647)], [((-2147483648), (-1)), (0, 60), (61, 2147483647)]]
set_option maxRecDepth 1000000 in
theorem al_sheet : (combos P_sheet).all (alikeS false 72 186 mX6_sheet.ml mX7_sheet.ml) = true := by decide +kernel
def P_lose : List (List (Int32 × Int32)) := [[((-2147483648), (-1)), (0, 0), (1, 1), (2, 2), (3, 3), (4, 2147483647)]]
set_option maxRecDepth 1000000 in
theorem al_lose : (combos P_lose).all (alikeS false 73 187 mX6_lose.ml mX7_lose.ml) = true := by decide +kernel
def P_put : List (List (Int32 × Int32)) := [[((-2147483648), (-1)), (0, 0), (1, 1), (2, 2), (3, 3), (4, 2147483647)], [((-2147483648), (-1)), (0, 2), (3, 2147483647)], [((-2147483648), 2147483647)], [((-2147483648), 2147483647)]]
set_option maxRecDepth 1000000 in
theorem al_put : (combos P_put).all (alikeS false 74 190 mX6_put.ml mX7_put.ml) = true := by decide +kernel
def P_get : List (List (Int32 × Int32)) := [[((-2147483648), (-1)), (0, 0), (1, 1), (2, 2), (3, 3), (4, 2147483647)], [((-2147483648), (-1)), (0, 2), (3, 2147483647)], [((-2147483648), 2147483647)]]
set_option maxRecDepth 1000000 in
theorem al_get : (combos P_get).all (alikeS false 75 191 mX6_get.ml mX7_get.ml) = true := by decide +kernel
def P_copy : List (List (Int32 × Int32)) := [[((-2147483648), (-1)), (0, 0), (1, 1), (2, 2), (3, 3), (4, 2147483647)], [((-2147483648), 2147483647)], [((-2147483648), (-1)), (0, 0), (1, 1), (2, 2), (3, 3), (4, 2147483647)], [((-2147483648), 2147483647)], [((-2147483648), 2147483647)]]
set_option maxRecDepth 1000000 in
theorem al_copy : (combos P_copy).all (alikeS false 76 192 mX6_copy.ml mX7_copy.ml) = true := by decide +kernel
def P_write : List (List (Int32 × Int32)) := [[((-2147483648), (-1)), (0, 2147483647)], [((-2147483648), 2147483647)]]
set_option maxRecDepth 1000000 in
theorem al_write : (combos P_write).all (alikeS false 77 193 mX6_write.ml mX7_write.ml) = true := by decide +kernel
def P_count : List (List (Int32 × Int32)) := [[((-2147483648), (-1)), (0, 0), (1, 1), (2, 2), (3, 3), (4, 4), (5, 5), (6, 6), (7, 7), (8, 8), (9, 2147483647)]]
set_option maxRecDepth 1000000 in
theorem al_count : (combos P_count).all (alikeS false 78 195 mX6_count.ml mX7_count.ml) = true := by decide +kernel
