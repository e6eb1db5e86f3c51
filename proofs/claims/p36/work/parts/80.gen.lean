/-! ===== general heaps of the class and of the reference; printed by wip/gen/emit.py ===== -/
def itn (p n : Nat) : List AN := (List.range n).map (fun i => (some (p + i), 0))
def hst : AHa → List (Nat × ACa) → AHa
  | h, [] => h
  | h, (i, c) :: r => hst (h.set i c) r
theorem al0 : ∀ c ∈ ([] : List CTR), ctrOk c := fun _ h => absurd h List.not_mem_nil
theorem al {c : CTR} {L : List CTR} (hc : ctrOk c) (h : ∀ x ∈ L, ctrOk x) : ∀ x ∈ c :: L, ctrOk x := fun x hx => by
  rcases List.mem_cons.mp hx with rfl | q
  · exact hc
  · exact h x q
theorem fmn {α : Type} {P : α → Prop} : ∀ x ∈ ([] : List α), P x := fun _ h => absurd h List.not_mem_nil
theorem fmc {α : Type} {P : α → Prop} {a : α} {l : List α} (h : P a) (t : ∀ x ∈ l, P x) : ∀ x ∈ a :: l, P x := fun x hx => by
  rcases List.mem_cons.mp hx with rfl | q
  · exact h
  · exact t x q
def bX : BD := [(0, 23), (0, 49), (0, 8), (0, 11), (0, 9), (0, 6), (0, 6), (0, 8), (0, 9), (0, 49), (0, 49), ((-2147483648), 2147483647), ((-2147483648), 2147483647), (0, 5)]
def bT : BD := [(0, 23), (0, 49), (0, 8), (0, 10), (0, 8), (0, 6), (0, 6), (0, 8), (0, 9), (0, 49), (0, 49), ((-2147483648), 2147483647), ((-2147483648), 2147483647), (0, 5)]
def bY : BD := [(0, 23), (0, 49), (0, 8), (0, 10), (0, 8), (0, 6), (0, 6), (0, 8), (0, 11), (0, 9), ((-2147483648), 2147483647), ((-2147483648), 2147483647), (0, 5)]
def gX (ch : Nat) : AHa := [
  .inr (.inr (.inr (6, [.inr (.inl 1), .inr (.inl 3), .inr (.inl 5), .inr (.inl 6), .inr (.inl 9), .inr (.inl 14), .inr (.inl 18), .inr (.inl 22), .inr (.inl 31), .inr (.inl 35), .inr (.inl 39), .inr (.inl 47), .inl (some 13, 0)]))),
  .inr (.inr (.inr (3, [.inr (.inl 2), .inl (none, 23), .inl (none, 0), .inl (some 0, 0)]))),
  .inl (.int, 49, 0, 255),
  .inr (.inr (.inr (3, [.inr (.inl 4), .inl (none, 49), .inl (none, 1), .inl (some 1, 0)]))),
  .inl (.int, 49, 0, 255),
  .inr (.inr (.inr (0, [.inr (.inl 6), .inr (.inl 9), .inr (.inl 14), .inr (.inl 18), .inr (.inl 22), .inr (.inl 26), .inr (.inl 27), .inr (.inl 28), .inr (.inl 29), .inr (.inl 30), .inl (some 9, 0), .inl (some 10, 0), .inl (some 11, 0), .inl (some 12, 0), .inr (.inl ch)]))),
  .inr (.inr (.inr (1, [.inr (.inl 7), .inr (.inl 8), .inl (some 2, 0)]))),
  .inl (.int, 8, 0, 2),
  .inl (.int, 8, 0, 9),
  .inr (.inr (.inr (5, [.inr (.inl 10), .inr (.inl 11), .inr (.inl 12), .inr (.inl 13), .inl (some 3, 0)]))),
  .inl (.int, 11, 0, 7),
  .inl (.int, 11, 0, 9),
  .inl (.int, 11, 0, 23),
  .inl (.int, 11, (-1), 23),
  .inr (.inr (.inr (4, [.inr (.inl 15), .inr (.inl 16), .inr (.inl 17), .inl (none, 8), .inl (some 4, 0)]))),
  .inl (.int, 9, 0, 23),
  .inl (.int, 9, 0, 9),
  .inl (.int, 9, 0, 0),
  .inr (.inr (.inr (4, [.inr (.inl 19), .inr (.inl 20), .inr (.inl 21), .inl (none, 6), .inl (some 5, 0)]))),
  .inl (.int, 9, 0, 23),
  .inl (.int, 9, 0, 7),
  .inl (.int, 9, 0, 9),
  .inr (.inr (.inr (4, [.inr (.inl 23), .inr (.inl 24), .inr (.inl 25), .inl (none, 6), .inl (some 6, 0)]))),
  .inl (.int, 9, 0, 23),
  .inl (.int, 9, 0, 7),
  .inl (.int, 9, 0, 9),
  .inl (.int, 49, 0, 119),
  .inl (.int, 49, 0, 10),
  .inl (.int, 8, 0, 99),
  .inl (.int, 8, (-2147483648), 2147483647),
  .inl (.int, 11, 0, 3),
  .inr (.inr (.inr (4, [.inr (.inl 32), .inr (.inl 33), .inr (.inl 34), .inl (none, 8), .inl (some 7, 0)]))),
  .inl (.int, 9, 0, 23),
  .inl (.int, 9, 0, 7),
  .inl (.int, 9, 0, 99),
  .inr (.inr (.inr (4, [.inr (.inl 36), .inr (.inl 37), .inr (.inl 38), .inl (none, 8), .inl (some 8, 0)]))),
  .inl (.int, 9, 0, 23),
  .inl (.int, 9, 0, 9),
  .inl (.int, 9, 0, 0),
  .inr (.inr (.inr (2, [.inr (.inl 40), .inr (.inl 45), .inr (.inl 46)]))),
  .inr (.inr (.inl [41, 42, 43, 44])),
  .inl (.int, 60, (-2147483648), 2147483647),
  .inl (.int, 60, (-2147483648), 2147483647),
  .inl (.int, 60, (-2147483648), 2147483647),
  .inl (.int, 60, (-2147483648), 2147483647),
  .inl (.int, 4, 0, 60),
  .inl (.int, 4, (-1), 2),
  .inr (.inr (.inl [48, 49, 50, 51, 52, 53, 54, 55, 56, 57])),
  .inl (.int, 24, 0, 99),
  .inl (.int, 24, 0, 99),
  .inl (.int, 24, 0, 99),
  .inl (.int, 24, 0, 99),
  .inl (.int, 24, 0, 99),
  .inl (.int, 24, 0, 99),
  .inl (.int, 24, 0, 99),
  .inl (.int, 24, 0, 99),
  .inl (.int, 24, 0, 99),
  .inl (.int, 24, 0, 99)]
def gY : AHa := [
  .inr (.inr (.inr (7, [.inr (.inl 1), .inr (.inl 2), .inl (some 2, 0), .inr (.inl 3), .inr (.inl 4), .inl (some 3, 0), .inr (.inl 5), .inr (.inl 6), .inr (.inl 7), .inr (.inl 8), .inl (some 4, 0), .inr (.inl 9), .inr (.inl 10), .inl (some 5, 0), .inr (.inl 11), .inr (.inl 12), .inr (.inl 13), .inl (some 6, 0), .inr (.inl 14), .inr (.inl 15), .inr (.inl 16), .inl (some 8, 0), .inl (some 9, 0), .inr (.inl 17), .inr (.inl 18), .inl (some 10, 0), .inl (some 11, 0), .inr (.inl 19), .inr (.inl 20), .inr (.inl 21), .inr (.inl 22), .inr (.inl 23), .inr (.inl 24), .inr (.inl 25), .inl (some 7, 0), .inr (.inl 26), .inr (.inl 27), .inr (.inl 28), .inr (.inl 29), .inr (.inl 30), .inr (.inl 31), .inr (.inl 32), .inr (.inl 33), .inr (.inl 34), .inl (some 12, 0)]))),
  .inr (.inl (.int, [(some 0, 0), (some 1, 0)])),
  .inl (.int, 98, 0, 255),
  .inl (.int, 9, 0, 2),
  .inl (.int, 9, 0, 9),
  .inl (.int, 12, 0, 7),
  .inl (.int, 12, 0, 9),
  .inl (.int, 12, 0, 23),
  .inl (.int, 12, (-1), 23),
  .inl (.int, 9, 0, 23),
  .inl (.int, 9, 0, 9),
  .inl (.int, 6, 0, 23),
  .inl (.int, 6, 0, 7),
  .inl (.int, 6, 0, 9),
  .inl (.int, 6, 0, 23),
  .inl (.int, 6, 0, 7),
  .inl (.int, 6, 0, 9),
  .inl (.int, 9, 0, 23),
  .inl (.int, 9, 0, 9),
  .inl (.int, 8, 0, 99),
  .inl (.int, 8, (-2147483648), 2147483647),
  .inl (.int, 12, 0, 3),
  .inl (.int, 192, 0, 99),
  .inl (.int, 192, (-2147483648), 2147483647),
  .inl (.int, 288, 0, 3),
  .inl (.int, 2, 0, 5),
  .inl (.int, 8, 0, 23),
  .inl (.int, 8, 0, 7),
  .inl (.int, 8, 0, 99),
  .inl (.int, 240, 0, 99),
  .inl (.boolean, 4, 0, 1),
  .inl (.int, 4, 0, 2),
  .inl (.int, 4, 0, 60),
  .inl (.int, 240, (-2147483648), 2147483647),
  .inl (.int, 60, (-2147483648), 2147483647)]
