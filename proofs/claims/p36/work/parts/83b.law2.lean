section LWN
variable {b L : Nat} {xs : Nat → Int32} {cs ss pc : Nat} {i : Int32} {st : List Value} {aX aY : Nat} {hx hy : AH}
theorem LW_next {t : Nat} {off : Int} (hd0 : decode code pc = .ok (.iinc 3 6, 3)) (hd1 : decode code (pc + 3) = .ok (.goto off, 3)) (ht : ((pc + 3 : Nat) : Int) + off = (t : Int)) (k : LW b L xs cs ss t (i + 6) st aX aY hx hy) : LW b L xs cs ss pc i st aX aY hx hy := by
  intro p l e s m below meth c D cA adX adY H locs ls C0 hK hN lX lY eX eY pX pY dX dY dd hS hl
  refine lv_iinc (k := 3) (v := i + 6) (lv' := [(3, .int (i + 6)), (0, .ref b), (1, .ref aX), (2, .ref aY)]) C0.1 C0.2.1 hd0 hl rfl rfl (by decide) rfl (fun ls1 hl1 => ?_)
  refine lv_goto C0.1 C0.2.1 hd1 ht ?_
  exact k p l e s m below meth c D cA adX adY H locs ls1 C0 hK hN lX lY eX eY pX pY dX dY dd hS (lv_sub hl1 [1, 2, 3, 0] rfl)
/-- the loop's head: on, or to the end -/
theorem LW_head {off : Int} {t : Nat} (hd0 : decode code pc = .ok (.iload_n 3, 1)) (hd1 : decode code (pc + 1) = .ok (.aload_n 0, 1)) (hd2 : decode code (pc + 2) = .ok (.arraylength, 1)) (hd3 : decode code (pc + 3) = .ok (.bipush 6, 2)) (hd4 : decode code (pc + 5) = .ok (.isub, 1)) (hd5 : decode code (pc + 6) = .ok (.if_icmp .gt off, 3)) (ht : ((pc + 6 : Nat) : Int) + off = (t : Int)) (kt : nI L - 6 < i → LW b L xs cs ss t i st aX aY hx hy) (kf : ¬ nI L - 6 < i → LW b L xs cs ss (pc + 9) i st aX aY hx hy) : LW b L xs cs ss pc i st aX aY hx hy := by
  intro p l e s m below meth c D cA adX adY H locs ls C0 hK hN lX lY eX eY pX pY dX dY dd hS hl
  have hbl := C0.2.2.2.2.2.2.2.1
  refine lv_iload_n C0.1 C0.2.1 hd0 rfl (lv_at hl 3 rfl) ?_
  refine lv_aload_n C0.1 C0.2.1 hd1 rfl (lv_at hl 0 rfl) ?_
  refine va_slen C0.1 C0.2.1 C0.2.2.2.2.2.2.1 hbl (A := lwA s) (Nat.not_le.mpr hbl) hS hd2 ?_
  refine lv_bipush (v := 6) C0.1 C0.2.1 hd3 (by decide) ?_
  refine lv_isub C0.1 C0.2.1 hd4 ?_
  exact lv_icmp_gt C0.1 C0.2.1 hd5 ht (fun h => kt h p l e s m below meth c D cA adX adY H locs ls C0 hK hN lX lY eX eY pX pY dX dY dd hS hl) (fun h => kf h p l e s m below meth c D cA adX adY H locs ls C0 hK hN lX lY eX eY pX pY dX dY dd hS hl)
theorem LW_exit (hd0 : decode code pc = .ok (.iconst 1, 1)) (hd1 : decode code (pc + 1) = .ok (.ireturn, 1)) (hr : cs ≤ 600000 ∧ ss ≤ 7302250) : LW b L xs cs ss pc i [] aX aY hx hy := by
  intro p l e s m below meth c D cA adX adY H locs ls C0 hK hN lX lY eX eY pX pY dX dY dd hS hl
  refine lv_iconst (v := 1) C0.1 C0.2.1 hd0 (by decide) ?_
  refine va_forget (fun q hq => hS.2.2 q hq) ?_
  refine W.widen hr.1 hr.2 ?_
  exact lw_ret C0.1 C0.2.1 C0.2.2.1 C0.2.2.2.2.2.2.2.2.1 hd1
/-- which call: script[i] & 63 -/
theorem LW_sw {len : Nat} {dflt lo hi : Int} {offs : Array Int} (hd0 : decode code pc = .ok (.aload_n 0, 1)) (hd1 : decode code (pc + 1) = .ok (.iload_n 3, 1)) (hd2 : decode code (pc + 2) = .ok (.iaload, 1)) (hd3 : decode code (pc + 3) = .ok (.bipush 63, 2)) (hd4 : decode code (pc + 5) = .ok (.iand, 1)) (hd5 : decode code (pc + 6) = .ok (.tableswitch dflt lo hi offs, len)) (hin : vp_in i L) (k : ∃ t, swT dflt lo hi offs (pc + 6) (xs i.toNatClampNeg &&& 63) = some t ∧ LW b L xs cs ss t i st aX aY hx hy) : LW b L xs cs ss pc i st aX aY hx hy := by
  intro p l e s m below meth c D cA adX adY H locs ls C0 hK hN lX lY eX eY pX pY dX dY dd hS hl
  have hbl := C0.2.2.2.2.2.2.2.1
  obtain ⟨t, hs, kk⟩ := k
  refine lv_aload_n C0.1 C0.2.1 hd0 rfl (lv_at hl 0 rfl) ?_
  refine lv_iload_n C0.1 C0.2.1 hd1 rfl (lv_at hl 3 rfl) ?_
  refine va_sld C0.1 C0.2.1 C0.2.2.2.2.2.2.1 hbl (A := lwA s) (Nat.not_le.mpr hbl) hS hin hd2 ?_
  refine lv_bipush (v := 63) C0.1 C0.2.1 hd3 (by decide) ?_
  refine lv_iand C0.1 C0.2.1 hd4 ?_
  have K := kk p l e s m below meth c D cA adX adY H locs ls C0 hK hN lX lY eX eY pX pY dX dY dd hS hl
  unfold swT at hs
  split at hs
  · rename_i h
    exact lv_tableOut C0.1 C0.2.1 hd5 h (tgt_spec hs) K
  · rename_i h
    split at hs
    · rename_i off ho
      exact lv_tableIn C0.1 C0.2.1 hd5 (fun q => h (Or.inl q)) (fun q => h (Or.inr q)) ho (tgt_spec hs) K
    · cases hs
end LWN
theorem and63 (x : Int32) : ∃ j : Nat, j < 64 ∧ x &&& 63 = nI j := by
  refine ⟨(x &&& 63).toBitVec.toNat, ?_, ?_⟩
  · have : (x &&& 63).toBitVec.toNat ≤ 63 := by
      rw [Int32.toBitVec_and, BitVec.toNat_and]
      exact Nat.and_le_right
    omega
  · apply Int32.toBitVec_inj.mp
    unfold nI
    rw [Int32.toBitVec_ofNat']
    simp
