/-! ===== an evaluator over the tables, and that it speaks true ===== -/
def inB (i : Int32) (n : Nat) : Bool := !(decide (i < 0) || decide (n ≤ i.toNatClampNeg))
theorem inB_spec {i : Int32} {n : Nat} (h : inB i n = true) : vp_in i n := by
  unfold inB at h
  rw [Bool.not_eq_true', Bool.or_eq_false_iff, decide_eq_false_iff_not, decide_eq_false_iff_not] at h
  exact fun q => q.elim h.1 h.2
def catB (st : List Value) : Bool := decide ((st.map (fun v => v.category)).sum ≤ 8)
def lnB (i : Instr) (len : Nat) : Bool := match i with
  | .tableswitch _ _ _ _ => true
  | .lookupswitch _ _ => true
  | .getfield _ => len == 3
  | .putfield _ => len == 3
  | .ldc_w _ => len == 3
  | .ldc2_w _ => len == 3
  | .invokestatic _ => len == 3
  | .invokevirtual _ => len == 3
  | .invokespecial _ => len == 3
  | .ifCond _ _ => len == 3
  | .if_icmp _ _ => len == 3
  | .new _ => len == 3
  | .ldc _ => len == 2
  | .newarray _ => len == 2
  | .multianewarray _ _ => len == 4
  | j => len == sN j
def hA (d : Nat) (M : MT) (i : Instr) (pc : Nat) (st : List Value) (hp : AH) : Option (Nat × List Value × AH) := match i with
  | .getfield idx => match st with
    | .ref r :: st' => match fRes M.cn idx, hp[r]? with
      | some (ci, sl, _), some (.inr (.inr (cj, fs))) => if ci = cj then (match fs[sl]? with
        | some v => some (pc + 3, v :: st', hp)
        | none => none) else none
      | _, _ => none
    | _ => none
  | .putfield idx => match st with
    | v :: .ref r :: st' => match fRes M.cn idx, hp[r]? with
      | some (ci, sl, _), some (.inr (.inr (cj, fs))) => if ci = cj ∧ sl < fs.length ∧ fHold (fTy ci sl) v = true ∧ (fFin ci sl = false ∨ (ci = M.cn ∧ M.y.name = "<init>")) then some (pc + 3, st', hp.set r (.inr (.inr (ci, fs.set sl v)))) else none
      | _, _ => none
    | _ => none
  | .iaload => match st with
    | .int ix :: .ref r :: st' => match hp[r]? with
      | some (.inl (.int, xs)) => if inB ix xs.length = true then some (pc + 1, .int (xs.getD ix.toNatClampNeg 0) :: st', hp) else none
      | _ => none
    | _ => none
  | .iastore => match st with
    | .int y :: .int ix :: .ref r :: st' => match hp[r]? with
      | some (.inl (.int, xs)) => if inB ix xs.length = true then some (pc + 1, st', hp.set r (.inl (.int, xs.set ix.toNatClampNeg y))) else none
      | _ => none
    | _ => none
  | .baload => match st with
    | .int ix :: .ref r :: st' => match hp[r]? with
      | some (.inl (.boolean, xs)) => if inB ix xs.length = true then some (pc + 1, .int (xs.getD ix.toNatClampNeg 0) :: st', hp) else none
      | _ => none
    | _ => none
  | .bastore => match st with
    | .int y :: .int ix :: .ref r :: st' => match hp[r]? with
      | some (.inl (.boolean, xs)) => if inB ix xs.length = true then some (pc + 1, st', hp.set r (.inl (.boolean, xs.set ix.toNatClampNeg (vp_nar .boolean y)))) else none
      | _ => none
    | _ => none
  | .aaload => match st with
    | .int ix :: .ref r :: st' => match hp[r]? with
      | some (.inr (.inl rs)) => if inB ix rs.length = true then (match rs[ix.toNatClampNeg]? with
        | some q => some (pc + 1, .ref q :: st', hp)
        | none => none) else none
      | _ => none
    | _ => none
  | .arraylength => match st with
    | .ref r :: st' => match hp[r]? with
      | some (.inl (.int, xs)) => some (pc + 1, .int (Int32.ofNat xs.length) :: st', hp)
      | _ => none
    | _ => none
  | .idiv => match st with
    | .int y :: .int x :: st' => if y = 0 then none else some (pc + 1, .int (x / y) :: st', hp)
    | _ => none
  | .irem => match st with
    | .int y :: .int x :: st' => if y = 0 then none else some (pc + 1, .int (x - x / y * y) :: st', hp)
    | _ => none
  | .ldiv => match st with
    | .long y :: .long x :: st' => if y = 0 then none else some (pc + 1, .long (x / y) :: st', hp)
    | _ => none
  | .lrem => match st with
    | .long y :: .long x :: st' => if y = 0 then none else some (pc + 1, .long (x - x / y * y) :: st', hp)
    | _ => none
  | .tableswitch dflt lo hi offs => match st with
    | .int x :: st' => match swT dflt lo hi offs pc x with
      | some t => some (t, st', hp)
      | none => none
    | _ => none
  | .lookupswitch dflt ps => match st with
    | .int x :: st' => if (ps.toList.zip (ps.toList.drop 1)).all (fun (a, next) => a.1 < next.1) = true then (match tgt pc (Op.lookupswitch.offset ps.toList dflt x.toInt) with
      | some t => some (t, st', hp)
      | none => none) else none
    | _ => none
  | .ldc idx => match ciRes M.cn idx with
    | some (v, _) => some (pc + 2, .int v :: st, hp)
    | none => none
  | .ldc_w idx => match ciRes M.cn idx with
    | some (v, _) => some (pc + 3, .int v :: st, hp)
    | none => none
  | .ldc2_w idx => match clRes M.cn idx with
    | some (v, _) => some (pc + 3, .long v :: st, hp)
    | none => none
  | .invokespecial idx => match mRes M.cn idx, st with
    | some (kd, _, _, _, _), .ref _ :: st' => if kd = 5 ∧ catB st' = true ∧ 0 < d then some (pc + 3, st', hp) else none
    | _, _ => none
  | .invokestatic idx => match mRes M.cn idx, st with
    | some (kd, _, _, _, _), .int n :: .int dp :: .ref k1 :: .int sp :: .ref k0 :: st' => match hp[k0]?, hp[k1]? with
      | some (.inl (.int, xs)), some (.inl (.int, ys)) => if kd = 6 ∧ catB st' = true ∧ 0 < d ∧ ¬ sp < 0 ∧ ¬ dp < 0 ∧ ¬ n < 0 ∧ sp.toNatClampNeg + n.toNatClampNeg ≤ xs.length ∧ dp.toNatClampNeg + n.toNatClampNeg ≤ ys.length then some (pc + 3, st', hp.set k1 (.inl (.int, cpyL xs ys sp.toNatClampNeg dp.toNatClampNeg n.toNatClampNeg))) else none
      | _, _ => none
    | _, _ => none
  | _ => none
section JHA
variable {M : MT} {d mc ms : Nat} {Q : Option Value → AH → Prop} {pc pc' len : Nat} {lv : List (Option Value)} {st st' : List Value} {hp hp' : AH} {cs ss : Nat} {i : Instr}
theorem mRes_row {cn idx : Nat} {e : Nat × Nat × Nat × Nat × Nat} (h : mRes cn idx = some e) : mRowB cn (idx, e) = true := mrB_ok h
theorem J_h (hd : decode M.by pc = .ok (i, len)) (hn : lnB i len = true) (hs : hA d M i pc st hp = some (pc', st', hp')) (k : J M d mc ms Q pc' lv st' hp' cs ss) : J M d mc ms Q pc lv st hp cs ss := by
  cases i with
  | getfield idx =>
    have hl : len = 3 := by simpa [lnB] using hn
    subst hl
    simp only [hA] at hs
    split at hs
    · split at hs
      · rename_i ci sl w cj fs h1 h2
        split at hs
        · rename_i hc; subst hc
          split at hs
          · rename_i v hv; cases hs; exact J_get hd (fRes_ok h1) h2 hv k
          · cases hs
        · cases hs
      · cases hs
    · cases hs
  | putfield idx =>
    have hl : len = 3 := by simpa [lnB] using hn
    subst hl
    simp only [hA] at hs
    split at hs
    · split at hs
      · rename_i ci sl w cj fs h1 h2
        split at hs
        · rename_i hc
          obtain ⟨c1, c2, c3, c4⟩ := hc
          subst c1
          cases hs
          rcases c4 with c4 | ⟨c4, c5⟩
          · exact J_put hd (fRes_ok h1) h2 c2 c4 c3 k
          · by_cases hf : fFin ci sl = false
            · exact J_put hd (fRes_ok h1) h2 c2 hf c3 k
            · obtain ⟨C9, T9, N9, g1, g2, g3⟩ := fOk_spec (fRes_ok h1)
              refine J_putF hd (fRes_ok h1) h2 c2 (by simpa using hf) c5 (fun C T N hc => ?_) c3 k
              rw [g1] at hc
              cases hc
              rw [← c4]
              exact decl_own g1 g2
        · cases hs
      · cases hs
    · cases hs
  | iaload =>
    have hl : len = 1 := by simpa [lnB, sN] using hn
    subst hl
    simp only [hA] at hs
    split at hs
    · split at hs
      · rename_i xs h1
        split at hs
        · rename_i hi; cases hs; exact J_ald hd h1 (inB_spec hi) k
        · cases hs
      · cases hs
    · cases hs
  | iastore =>
    have hl : len = 1 := by simpa [lnB, sN] using hn
    subst hl
    simp only [hA] at hs
    split at hs
    · split at hs
      · rename_i xs h1
        split at hs
        · rename_i hi; cases hs; exact J_ast hd h1 (inB_spec hi) k
        · cases hs
      · cases hs
    · cases hs
  | baload =>
    have hl : len = 1 := by simpa [lnB, sN] using hn
    subst hl
    simp only [hA] at hs
    split at hs
    · split at hs
      · rename_i xs h1
        split at hs
        · rename_i hi; cases hs; exact J_zald hd h1 (inB_spec hi) k
        · cases hs
      · cases hs
    · cases hs
  | bastore =>
    have hl : len = 1 := by simpa [lnB, sN] using hn
    subst hl
    simp only [hA] at hs
    split at hs
    · split at hs
      · rename_i xs h1
        split at hs
        · rename_i hi; cases hs; exact J_zast hd h1 (inB_spec hi) k
        · cases hs
      · cases hs
    · cases hs
  | aaload =>
    have hl : len = 1 := by simpa [lnB, sN] using hn
    subst hl
    simp only [hA] at hs
    split at hs
    · split at hs
      · rename_i rs h1
        split at hs
        · rename_i hi
          split at hs
          · rename_i q hq; cases hs; exact J_aald hd h1 (inB_spec hi) hq k
          · cases hs
        · cases hs
      · cases hs
    · cases hs
  | arraylength =>
    have hl : len = 1 := by simpa [lnB, sN] using hn
    subst hl
    simp only [hA] at hs
    split at hs
    · split at hs
      · rename_i xs h1; cases hs; exact J_alen hd h1 rfl k
      · cases hs
    · cases hs
  | idiv =>
    have hl : len = 1 := by simpa [lnB, sN] using hn
    subst hl
    simp only [hA] at hs
    split at hs
    · split at hs
      · cases hs
      · rename_i hy; cases hs; exact J_idiv hd hy k
    · cases hs
  | irem =>
    have hl : len = 1 := by simpa [lnB, sN] using hn
    subst hl
    simp only [hA] at hs
    split at hs
    · split at hs
      · cases hs
      · rename_i hy; cases hs; exact J_irem hd hy k
    · cases hs
  | ldiv =>
    have hl : len = 1 := by simpa [lnB, sN] using hn
    subst hl
    simp only [hA] at hs
    split at hs
    · split at hs
      · cases hs
      · rename_i hy; cases hs; exact J_ldiv hd hy k
    · cases hs
  | lrem =>
    have hl : len = 1 := by simpa [lnB, sN] using hn
    subst hl
    simp only [hA] at hs
    split at hs
    · split at hs
      · cases hs
      · rename_i hy; cases hs; exact J_lrem hd hy k
    · cases hs
  | tableswitch dflt lo hi offs =>
    simp only [hA] at hs
    split at hs
    · split at hs
      · rename_i t ht; cases hs; exact J_tsw hd ht k
      · cases hs
    · cases hs
  | lookupswitch dflt ps =>
    simp only [hA] at hs
    split at hs
    · split at hs
      · rename_i hp0
        split at hs
        · rename_i t ht; cases hs; exact J_lsw hd hp0 ht k
        · cases hs
      · cases hs
    · cases hs
  | ldc idx =>
    have hl : len = 2 := by simpa [lnB] using hn
    subst hl
    simp only [hA] at hs
    split at hs
    · rename_i v w h1; cases hs; exact J_ldc hd (ciRes_ok h1) k
    · cases hs
  | ldc_w idx =>
    have hl : len = 3 := by simpa [lnB] using hn
    subst hl
    simp only [hA] at hs
    split at hs
    · rename_i v w h1; cases hs; exact J_ldcw hd (ciRes_ok h1) k
    · cases hs
  | ldc2_w idx =>
    have hl : len = 3 := by simpa [lnB] using hn
    subst hl
    simp only [hA] at hs
    split at hs
    · rename_i v w h1; cases hs; exact J_ldc2 hd (clRes_ok h1) k
    · cases hs
  | invokespecial idx =>
    have hl : len = 3 := by simpa [lnB] using hn
    subst hl
    simp only [hA] at hs
    split at hs
    · rename_i kd a1 a2 a3 a4 r st1 h1
      split at hs
      · rename_i hc
        obtain ⟨c1, c2, c3⟩ := hc
        cases hs
        obtain ⟨d', rfl⟩ : ∃ d', d = d' + 1 := ⟨d - 1, by omega⟩
        have hr := mRes_row h1
        subst c1
        simp [mRowB] at hr
        exact J_objI hd (chkW_in hr.1) (chkW_in hr.2.1) (chkW_in hr.2.2) (by simpa [catB] using c2) k
      · cases hs
    · cases hs
  | invokestatic idx =>
    have hl : len = 3 := by simpa [lnB] using hn
    subst hl
    simp only [hA] at hs
    split at hs
    · rename_i kd a1 a2 a3 a4 n dp k1 sp k0 st1 h1
      split at hs
      · rename_i xs ys g0 g1
        split at hs
        · rename_i hc
          obtain ⟨c1, c2, c3, c4, c5, c6, c7, c8⟩ := hc
          cases hs
          obtain ⟨d', rfl⟩ : ∃ d', d = d' + 1 := ⟨d - 1, by omega⟩
          have hr := mRes_row h1
          subst c1
          simp [mRowB] at hr
          exact J_acopy hd (chkW_in hr.1) (chkW_in hr.2.1) (chkW_in hr.2.2) wSys_in g0 g1 c4 c5 c6 c7 c8 (by simpa [catB] using c2) k
        · cases hs
      · cases hs
    · cases hs
  | _ => cases hs
end JHA
