/-! on fresh heaps a year that is lived leaves them as they are -/
def sameH (r : Option (Option Value × AH × Nat × Nat)) (h0 : AH) : Bool := match r with
  | some (none, h, 0, 0) => decide (h = h0)
  | _ => false
theorem sameH_spec {r : Option (Option Value × AH × Nat × Nat)} {h0 : AH} (h : sameH r h0 = true) : r = some (none, h0, 0, 0) := by
  unfold sameH at h
  split at h
  · rw [of_decide_eq_true h]
  · cases h
set_option maxRecDepth 1000000 in
theorem liveX : (List.range 24).all (fun dd => sameH (ev noO 3000 10 89 0 (entL [.ref 0, .int (nI dd)] 2) [] hX0 0 0) hX0) = true := by decide +kernel
set_option maxRecDepth 1000000 in
theorem runY : sameH (ev noO 3000 10 141 0 (entL [.ref 0] 1) [] hY0 0 0) hY0 = true := by decide +kernel
def oX1 : OR := fun d N as hp => if d = 10 ∧ N = 89 then (match as with
  | [.ref 0, .int x] => if inB x 24 = true ∧ hp = hX0 then some (none, hX0) else none
  | _ => none) else none
def oY1 : OR := fun d N as hp => if d = 10 ∧ N = 141 ∧ as = [.ref 0] ∧ hp = hY0 then some (none, hY0) else none
theorem oX1_ok : oOk oX1 := by
  intro d N NM as hp v hp' h hN
  unfold oX1 at h
  split at h
  · rename_i hc
    obtain ⟨rfl, rfl⟩ := hc
    split at h
    · rename_i x
      split at h
      · rename_i hc
        obtain ⟨h1, rfl⟩ := hc
        cases h
        obtain ⟨j, hj, rfl⟩ := vp_in_of (inB_spec h1) (by decide)
        have hM : mtL[89]? = some mX6_liveUntil := rfl
        rw [hM] at hN
        cases hN
        have e := sameH_spec (List.all_eq_true.mp liveX j (List.mem_range.mpr hj))
        exact ⟨rfl, Ct_ev noO_ok hM (Nat.le_of_ble_eq_true rfl) e⟩
      · cases h
    · cases h
  · cases h
theorem oY1_ok : oOk oY1 := by
  intro d N NM as hp v hp' h hN
  unfold oY1 at h
  split at h
  · rename_i hc
    obtain ⟨rfl, rfl, rfl, rfl⟩ := hc
    cases h
    have hM : mtL[141]? = some mX7_runsTold := rfl
    rw [hM] at hN
    cases hN
    exact ⟨rfl, Ct_ev noO_ok hM (by decide) (sameH_spec runY)⟩
  · cases h
def vIs (r : Option (Option Value × AH × Nat × Nat)) (v : Value) (n : Nat) : Bool := match r with
  | some (some w, h, 0, 0) => decide (w = v) && decide (h.length = n)
  | _ => false
