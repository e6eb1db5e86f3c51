/-! ===== classes, words, rooms ===== -/
def clsL : List vw_C := [(RX0, TX0, 15), (RX1, TX1, 3), (RX2, TX2, 3), (RX3, TX3, 4), (RX4, TX4, 5), (RX5, TX5, 5), (RX6, TX6, 13), (RX7, TX7, 45)]
def cnmL : List String := [RX0, RX1, RX2, RX3, RX4, RX5, RX6, RX7, RJ6, RJ9, RJ7]
def cnm (k : Nat) : String := cnmL.getD k ""
def tb : List Cond := lw_tbl.filter goodWord
theorem tb_at {w : Cond} (i : Nat) (h : lw_tbl[i]? = some w) (hg : goodWord w = true) : w ∈ tb := List.mem_filter.mpr ⟨List.mem_of_getElem? h, hg⟩
abbrev MT : Type := Nat × MethodName × ByteArray × Nat × Option FieldType
def MT.cn (M : MT) : Nat := M.1
def MT.y (M : MT) : MethodName := M.2.1
def MT.by (M : MT) : ByteArray := M.2.2.1
def MT.ml (M : MT) : Nat := M.2.2.2.1
def MT.rt (M : MT) : Option FieldType := M.2.2.2.2
def mw (M : MT) : List Cond := .code M.y M.by M.ml M.rt :: tb
def np (N : MT) : Option Nat := (parseMethodDescriptor N.y.desc).map (fun d => d.parameters.length)
/-- field sl of class ci, as class cn's entry idx names it -/
def fW (cn idx ci sl : Nat) : Option Cond := match clsL[ci]? with
  | some (_, T, N) => if sl < N then some (.fieldLink (cnm cn) idx (T sl).1 (T sl).2.1 (T sl).2.2.1) else none
  | none => none
/-! ===== the tables hold ===== -/
def chkW (i : Nat) (w : Cond) : Bool := decide (lw_tbl[i]? = some w) && goodWord w
theorem chkW_in {i : Nat} {w : Cond} (h : chkW i w = true) : w ∈ tb := by
  unfold chkW at h
  rw [Bool.and_eq_true, decide_eq_true_eq] at h
  exact tb_at i h.1 h.2
def cdOk (b : ByteArray) : Nat → List (Option (Instr × Nat)) → Bool
  | _, [] => true
  | pc, none :: t => cdOk b (pc + 1) t
  | pc, some x :: t => decide (decode b pc = .ok x) && cdOk b (pc + 1) t
theorem cdOk_spec {b : ByteArray} : ∀ {t : List (Option (Instr × Nat))} {pc0 : Nat}, cdOk b pc0 t = true → ∀ (j : Nat) (x : Instr × Nat), t[j]? = some (some x) → decode b (pc0 + j) = .ok x
  | [], _, _, j, x, h => by simp at h
  | none :: t, pc0, hc, j, x, h => by
    cases j with
    | zero => simp at h
    | succ j =>
      rw [List.getElem?_cons_succ] at h
      have := cdOk_spec (pc0 := pc0 + 1) hc j x h
      rw [show pc0 + (j + 1) = pc0 + 1 + j by omega]; exact this
  | some y :: t, pc0, hc, j, x, h => by
    simp only [cdOk, Bool.and_eq_true, decide_eq_true_eq] at hc
    cases j with
    | zero => simp at h; rw [← h]; exact hc.1
    | succ j =>
      rw [List.getElem?_cons_succ] at h
      have := cdOk_spec (pc0 := pc0 + 1) hc.2 j x h
      rw [show pc0 + (j + 1) = pc0 + 1 + j by omega]; exact this
def rng (a n : Nat) : List Nat := (List.range n).map (fun i => a + i)
theorem rng_mem {a n k : Nat} (h1 : a ≤ k) (h2 : k < a + n) : k ∈ rng a n := List.mem_map.mpr ⟨k - a, List.mem_range.mpr (by omega), by omega⟩
def chkN (i : Nat) (w : Cond) : Bool := decide (lw_tbl[i]? = some w)
theorem chkN_in {i : Nat} {w : Cond} (h : chkN i w = true) : w ∈ lw_tbl := List.mem_of_getElem? (of_decide_eq_true h)
/-- classes as the tables have them -/
theorem in_tbX (C : String) (T : u_T) (N : Nat) (h : (u_ws C T N).all (fun w => decide (w ∈ lw_tbl) && goodWord w) = true) : ∀ w ∈ u_ws C T N, w ∈ tb := fun w hw => by
  have := List.all_eq_true.mp h w hw
  rw [Bool.and_eq_true, decide_eq_true_eq] at this
  exact List.mem_filter.mpr this
set_option maxRecDepth 20000 in
theorem inT0 : ∀ w ∈ u_ws RX0 TX0 15, w ∈ tb := in_tbX _ _ _ (by decide +kernel)
set_option maxRecDepth 20000 in
theorem inT1 : ∀ w ∈ u_ws RX1 TX1 3, w ∈ tb := in_tbX _ _ _ (by decide +kernel)
set_option maxRecDepth 20000 in
theorem inT2 : ∀ w ∈ u_ws RX2 TX2 3, w ∈ tb := in_tbX _ _ _ (by decide +kernel)
set_option maxRecDepth 20000 in
theorem inT3 : ∀ w ∈ u_ws RX3 TX3 4, w ∈ tb := in_tbX _ _ _ (by decide +kernel)
set_option maxRecDepth 20000 in
theorem inT4 : ∀ w ∈ u_ws RX4 TX4 5, w ∈ tb := in_tbX _ _ _ (by decide +kernel)
set_option maxRecDepth 20000 in
theorem inT5 : ∀ w ∈ u_ws RX5 TX5 5, w ∈ tb := in_tbX _ _ _ (by decide +kernel)
set_option maxRecDepth 20000 in
theorem inT6 : ∀ w ∈ u_ws RX6 TX6 13, w ∈ tb := in_tbX _ _ _ (by decide +kernel)
set_option maxRecDepth 20000 in
theorem inT7 : ∀ w ∈ u_ws RX7 TX7 45, w ∈ tb := in_tbX _ _ _ (by decide +kernel)
