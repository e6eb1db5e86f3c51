/-! what the checks say -/
theorem mOkB_spec {k : Nat} (h : mOkC k = true) : ∃ M n, mtL[k]? = some M ∧ npL[k]? = some n ∧ nOk M ∧ np M = some n := by
  unfold mOkC at h
  split at h
  · rename_i M a b n h1 h2 h3
    simp only [Bool.and_eq_true, decide_eq_true_eq] at h
    obtain ⟨c1, c2, c3, c4, c5, c6⟩ := h
    have hc := List.all_eq_true.mp clsB_ok M.cn (List.mem_range.mpr c2)
    unfold clsB at hc
    rw [Bool.or_eq_true, decide_eq_true_eq] at hc
    rcases hc with hc | hc
    · exact absurd hc c3
    · simp only [Bool.and_eq_true, decide_eq_true_eq] at hc
      obtain ⟨d1, d2, d3, d4⟩ := hc
      rw [← c5] at d1 d2 d3 d4
      exact ⟨M, n, h1, h3, ⟨chkCo_in c1, chkW_in d1, ⟨d2, d3⟩, c4, d4, c5⟩, c6⟩
  · cases h
