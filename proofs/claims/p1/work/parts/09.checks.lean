/-! ===== the tables hold ===== -/
def chkW (i : Nat) (w : Cond) : Bool := decide (lw_tbl[i]? = some w) && goodWord w
theorem chkW_in {i : Nat} {w : Cond} (h : chkW i w = true) : w ∈ tb := by
  unfold chkW at h
  rw [Bool.and_eq_true, decide_eq_true_eq] at h
  exact tb_at i h.1 h.2
def mOkB (k : Nat) : Bool := match mtL[k]?, mwL[k]?, npL[k]? with
  | some M, some (a, b), some n => chkW a (.code M.y M.by M.ml M.rt) && (chkW b (.initialized M.y.cls) && (decide (M.y.cls ≠ "java/lang/invoke/MethodHandle") && (decide (M.y.cls ≠ "java/lang/invoke/VarHandle") && (decide (M.ml ≤ 20) && (plainName M.y.cls && (decide (M.y.cls = cnm M.cn) && decide (np M = some n)))))))
  | _, _, _ => false
theorem mOkB_spec {k : Nat} (h : mOkB k = true) : ∃ M n, mtL[k]? = some M ∧ npL[k]? = some n ∧ nOk M ∧ np M = some n := by
  unfold mOkB at h
  split at h
  · rename_i M a b n h1 h2 h3
    simp only [Bool.and_eq_true, decide_eq_true_eq] at h
    obtain ⟨c1, c2, c3, c4, c5, c6, c7, c8⟩ := h
    exact ⟨M, n, h1, h3, ⟨chkW_in c1, chkW_in c2, ⟨c3, c4⟩, c5, c6, c7⟩, c8⟩
  · cases h
def cdOk (b : ByteArray) : Nat → List (Option (Instr × Nat)) → Bool
  | _, [] => true
  | pc, none :: t => cdOk b (pc + 1) t
  | pc, some x :: t => decide (decode b pc = .ok x) && cdOk b (pc + 1) t
theorem cdOk_spec {b : ByteArray} : ∀ {t : List (Option (Instr × Nat))} {pc0 : Nat}, cdOk b pc0 t = true → ∀ (j : Nat) (x : Instr × Nat), t[j]? = some (some x) → decode b (pc0 + j) = .ok x
  | [], _, _, j, x, h => by simp at h
  | none :: t, pc0, hc, j, x, h => by
    cases j with
    | zero => simp at h
    | succ j =>
      rw [List.getElem?_cons_succ] at h
      have := cdOk_spec (pc0 := pc0 + 1) hc j x h
      rw [show pc0 + (j + 1) = pc0 + 1 + j by omega]; exact this
  | some y :: t, pc0, hc, j, x, h => by
    simp only [cdOk, Bool.and_eq_true, decide_eq_true_eq] at hc
    cases j with
    | zero => simp at h; rw [← h]; exact hc.1
    | succ j =>
      rw [List.getElem?_cons_succ] at h
      have := cdOk_spec (pc0 := pc0 + 1) hc.2 j x h
      rw [show pc0 + (j + 1) = pc0 + 1 + j by omega]; exact this
def cdB (k : Nat) : Bool := match mtL[k]?, cdL[k]? with
  | some M, some t => cdOk M.by 0 t
  | _, _ => false
def rng (a n : Nat) : List Nat := (List.range n).map (fun i => a + i)
theorem rng_mem {a n k : Nat} (h1 : a ≤ k) (h2 : k < a + n) : k ∈ rng a n := List.mem_map.mpr ⟨k - a, List.mem_range.mpr (by omega), by omega⟩
