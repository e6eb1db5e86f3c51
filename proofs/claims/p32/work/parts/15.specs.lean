/-! what the checks say -/
theorem mOkB_spec {k : Nat} (h : mOkB k = true) : ∃ M n, mtL[k]? = some M ∧ npL[k]? = some n ∧ nOk M ∧ np M = some n := by
  unfold mOkB at h
  split at h
  · rename_i M a b n h1 h2 h3
    simp only [Bool.and_eq_true, decide_eq_true_eq] at h
    obtain ⟨c1, c2, c3, c4, c5, c6, c7, c8⟩ := h
    exact ⟨M, n, h1, h3, ⟨chkW_in c1, chkW_in c2, ⟨c3, c4⟩, c5, c6, c7⟩, c8⟩
  · cases h
