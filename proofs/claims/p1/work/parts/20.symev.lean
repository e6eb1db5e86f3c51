/-! the heap's steps with named ints -/
def is2 (x : SI) : SV := match x with
  | .inl w => .inl (.int w)
  | .inr j => .inr j
def s2i (v : SV) : Option SI := match v with
  | .inl (.int x) => some (.inl x)
  | .inr j => some (.inr j)
  | _ => none
theorem is2_eq (ρ : Nat → Int32) (x : SI) : sv ρ (is2 x) = .int (si ρ x) := by cases x <;> rfl
theorem s2i_eq {ρ : Nat → Int32} {v : SV} {x : SI} (h : s2i v = some x) : sv ρ v = .int (si ρ x) := by
  unfold s2i at h
  split at h
  · cases h; rfl
  · cases h; rfl
  · cases h
def fHoldS (ty : FieldType) (v : SV) : Bool := match v with
  | .inl w => fHold ty w
  | .inr _ => match ty with
    | .int => true
    | _ => false
theorem fHoldS_eq {ty : FieldType} {v : SV} (h : fHoldS ty v = true) (ρ : Nat → Int32) : fHold ty (sv ρ v) = true := by
  unfold fHoldS at h
  split at h
  · exact h
  · split at h
    · rfl
    · cases h
theorem getD_map {α β : Type} (f : α → β) (l : List α) (n : Nat) (x : α) : (l.map f).getD n (f x) = f (l.getD n x) := by
  rw [List.getD_eq_getElem?_getD, List.getD_eq_getElem?_getD, List.getElem?_map]
  cases l[n]? <;> rfl
def cpyS (xs ys : List SI) (sp dp n : Nat) : List SI := (List.range ys.length).map (fun k => if dp ≤ k ∧ k < dp + n then xs.getD (sp + (k - dp)) (.inl 0) else ys.getD k (.inl 0))
theorem cpyS_eq (ρ : Nat → Int32) (xs ys : List SI) (sp dp n : Nat) : (cpyS xs ys sp dp n).map (si ρ) = cpyL (xs.map (si ρ)) (ys.map (si ρ)) sp dp n := by
  unfold cpyS cpyL
  rw [List.map_map, List.length_map]
  apply List.map_congr_left
  intro k _
  simp only [Function.comp]
  split
  · exact (getD_map (si ρ) xs _ (.inl 0)).symm
  · exact (getD_map (si ρ) ys _ (.inl 0)).symm
theorem sc_get {ρ : Nat → Int32} {hp : List SC} {r : Nat} {x : SC} (h : hp[r]? = some x) : (hp.map (sc ρ))[r]? = some (sc ρ x) := by rw [List.getElem?_map, h]; rfl
def hAs (I : List (Int32 × Int32)) (d : Nat) (M : MT) (i : Instr) (pc : Nat) (st : List SV) (hp : List SC) : Option (Nat × List SV × List SC) := match i with
  | .getfield idx => match st with
    | .inl (.ref r) :: st' => match fRes M.cn idx, hp[r]? with
      | some (ci, sl, _), some (.inr (.inr (cj, fs))) => if ci = cj then (match fs[sl]? with
        | some v => some (pc + 3, v :: st', hp)
        | none => none) else none
      | _, _ => none
    | _ => none
  | .putfield idx => match st with
    | v :: .inl (.ref r) :: st' => match fRes M.cn idx, hp[r]? with
      | some (ci, sl, _), some (.inr (.inr (cj, fs))) => if ci = cj ∧ sl < fs.length ∧ fHoldS (fTy ci sl) v = true ∧ fFin ci sl = false then some (pc + 3, st', hp.set r (.inr (.inr (ci, fs.set sl v)))) else none
      | _, _ => none
    | _ => none
  | .iaload => match st with
    | .inl (.int ix) :: .inl (.ref r) :: st' => match hp[r]? with
      | some (.inl (.int, xs)) => if inB ix xs.length = true then some (pc + 1, is2 (xs.getD ix.toNatClampNeg (.inl 0)) :: st', hp) else none
      | _ => none
    | _ => none
  | .iastore => match st with
    | y :: .inl (.int ix) :: .inl (.ref r) :: st' => match hp[r]?, s2i y with
      | some (.inl (.int, xs)), some z => if inB ix xs.length = true then some (pc + 1, st', hp.set r (.inl (.int, xs.set ix.toNatClampNeg z))) else none
      | _, _ => none
    | _ => none
  | .baload => match st with
    | .inl (.int ix) :: .inl (.ref r) :: st' => match hp[r]? with
      | some (.inl (.boolean, xs)) => if inB ix xs.length = true then some (pc + 1, is2 (xs.getD ix.toNatClampNeg (.inl 0)) :: st', hp) else none
      | _ => none
    | _ => none
  | .bastore => match st with
    | .inl (.int y) :: .inl (.int ix) :: .inl (.ref r) :: st' => match hp[r]? with
      | some (.inl (.boolean, xs)) => if inB ix xs.length = true then some (pc + 1, st', hp.set r (.inl (.boolean, xs.set ix.toNatClampNeg (.inl (vp_nar .boolean y))))) else none
      | _ => none
    | _ => none
  | .aaload => match st with
    | .inl (.int ix) :: .inl (.ref r) :: st' => match hp[r]? with
      | some (.inr (.inl rs)) => if inB ix rs.length = true then (match rs[ix.toNatClampNeg]? with
        | some q => some (pc + 1, .inl (.ref q) :: st', hp)
        | none => none) else none
      | _ => none
    | _ => none
  | .arraylength => match st with
    | .inl (.ref r) :: st' => match hp[r]? with
      | some (.inl (.int, xs)) => some (pc + 1, .inl (.int (Int32.ofNat xs.length)) :: st', hp)
      | _ => none
    | _ => none
  | .idiv => match st with
    | .inl (.int y) :: .inl (.int x) :: st' => if y = 0 then none else some (pc + 1, .inl (.int (x / y)) :: st', hp)
    | _ => none
  | .irem => match st with
    | .inl (.int y) :: .inl (.int x) :: st' => if y = 0 then none else some (pc + 1, .inl (.int (x - x / y * y)) :: st', hp)
    | _ => none
  | .ldiv => match st with
    | .inl (.long y) :: .inl (.long x) :: st' => if y = 0 then none else some (pc + 1, .inl (.long (x / y)) :: st', hp)
    | _ => none
  | .lrem => match st with
    | .inl (.long y) :: .inl (.long x) :: st' => if y = 0 then none else some (pc + 1, .inl (.long (x - x / y * y)) :: st', hp)
    | _ => none
  | .tableswitch dflt lo hi offs => match st with
    | .inl (.int x) :: st' => match swT dflt lo hi offs pc x with
      | some t => some (t, st', hp)
      | none => none
    | .inr j :: st' => match I[j]? with
      | some (l, h) => if h.toInt < lo ∨ hi < l.toInt then (match tgt pc dflt with
        | some t => some (t, st', hp)
        | none => none) else none
      | none => none
    | _ => none
  | .lookupswitch dflt ps => match st with
    | .inl (.int x) :: st' => if (ps.toList.zip (ps.toList.drop 1)).all (fun (a, next) => a.1 < next.1) = true then (match tgt pc (Op.lookupswitch.offset ps.toList dflt x.toInt) with
      | some t => some (t, st', hp)
      | none => none) else none
    | _ => none
  | .ldc idx => match ciRes M.cn idx with
    | some (v, _) => some (pc + 2, .inl (.int v) :: st, hp)
    | none => none
  | .ldc_w idx => match ciRes M.cn idx with
    | some (v, _) => some (pc + 3, .inl (.int v) :: st, hp)
    | none => none
  | .ldc2_w idx => match clRes M.cn idx with
    | some (v, _) => some (pc + 3, .inl (.long v) :: st, hp)
    | none => none
  | .invokestatic idx => match mRes M.cn idx, st with
    | some (kd, _, _, _, _), .inl (.int n) :: .inl (.int dp) :: .inl (.ref k1) :: .inl (.int sp) :: .inl (.ref k0) :: st' => match hp[k0]?, hp[k1]? with
      | some (.inl (.int, xs)), some (.inl (.int, ys)) => if kd = 6 ∧ (st'.map catS).sum ≤ 8 ∧ 0 < d ∧ ¬ sp < 0 ∧ ¬ dp < 0 ∧ ¬ n < 0 ∧ sp.toNatClampNeg + n.toNatClampNeg ≤ xs.length ∧ dp.toNatClampNeg + n.toNatClampNeg ≤ ys.length then some (pc + 3, st', hp.set k1 (.inl (.int, cpyS xs ys sp.toNatClampNeg dp.toNatClampNeg n.toNatClampNeg))) else none
      | _, _ => none
    | _, _ => none
  | _ => none
theorem cat_map (ρ : Nat → Int32) (st : List SV) : (st.map (sv ρ)).map (fun v => v.category) = st.map catS := by
  rw [List.map_map]; exact List.map_congr_left (fun v _ => catS_eq ρ v)
theorem hAs_eq {I : List (Int32 × Int32)} {ρ : Nat → Int32} (hI : inI I ρ) {d : Nat} {M : MT} {i : Instr} {pc pc' : Nat} {st st' : List SV} {hp hp' : List SC} (h : hAs I d M i pc st hp = some (pc', st', hp')) : hA d M i pc (st.map (sv ρ)) (hp.map (sc ρ)) = some (pc', st'.map (sv ρ), hp'.map (sc ρ)) := by
  cases i with
  | getfield idx =>
    simp only [hAs] at h
    split at h
    · split at h
      · rename_i ci sl w cj fs h1 h2
        split at h
        · rename_i hc
          split at h
          · rename_i v hv
            cases h
            have e := sc_get (ρ := ρ) h2
            simp only [sc] at e
            have e2 : (fs.map (sv ρ))[sl]? = some (sv ρ v) := by rw [List.getElem?_map, hv]; rfl
            simp only [List.map_cons, sv, hA, h1, e, if_pos hc, e2]
          · cases h
        · cases h
      · cases h
    · cases h
  | putfield idx =>
    simp only [hAs] at h
    split at h
    · rename_i v r st1
      split at h
      · rename_i ci sl w cj fs h1 h2
        split at h
        · rename_i hc
          obtain ⟨c1, c2, c3, c4⟩ := hc
          cases h
          have e := sc_get (ρ := ρ) h2
          simp only [sc] at e
          have e3 : ci = cj ∧ sl < (fs.map (sv ρ)).length ∧ fHold (fTy ci sl) (sv ρ v) = true ∧ (fFin ci sl = false ∨ (ci = M.cn ∧ M.y.name = "<init>")) := ⟨c1, by rw [List.length_map]; exact c2, fHoldS_eq c3 ρ, Or.inl c4⟩
          have e4 : (hp.set r (.inr (.inr (ci, fs.set sl v)))).map (sc ρ) = (hp.map (sc ρ)).set r (.inr (.inr (ci, (fs.map (sv ρ)).set sl (sv ρ v)))) := by
            rw [List.map_set]; simp only [sc, List.map_set]
          rw [e4]
          simp only [List.map_cons, hA]
          show (match fRes M.cn idx, (hp.map (sc ρ))[r]? with
            | some (ci, sl, _), some (.inr (.inr (cj, fs))) => if ci = cj ∧ sl < fs.length ∧ fHold (fTy ci sl) (sv ρ v) = true ∧ (fFin ci sl = false ∨ (ci = M.cn ∧ M.y.name = "<init>")) then some (pc + 3, st'.map (sv ρ), (hp.map (sc ρ)).set r (.inr (.inr (ci, fs.set sl (sv ρ v))))) else none
            | _, _ => none) = _
          rw [h1, e]
          simp only
          rw [if_pos e3]
        · cases h
      · cases h
    · cases h
  | iaload =>
    simp only [hAs] at h
    split at h
    · rename_i ix r st1
      split at h
      · rename_i xs h1
        split at h
        · rename_i hi
          cases h
          have e := sc_get (ρ := ρ) h1
          simp only [sc] at e
          have hi2 : inB ix (xs.map (si ρ)).length = true := by rw [List.length_map]; exact hi
          have e6 : sv ρ (is2 (xs.getD ix.toNatClampNeg (.inl 0))) = .int ((xs.map (si ρ)).getD ix.toNatClampNeg 0) := by
            rw [is2_eq, ← getD_map (si ρ) xs _ (.inl 0)]; rfl
          have e7 : (is2 (xs.getD ix.toNatClampNeg (.inl 0)) :: st1).map (sv ρ) = .int ((xs.map (si ρ)).getD ix.toNatClampNeg 0) :: st1.map (sv ρ) := by rw [List.map_cons, e6]
          rw [e7]
          simp only [List.map_cons, sv, hA, e, if_pos hi2]
        · cases h
      · cases h
    · cases h
  | iastore =>
    simp only [hAs] at h
    split at h
    · rename_i y ix r st1
      split at h
      · rename_i xs z h1 h2
        split at h
        · rename_i hi
          cases h
          have e := sc_get (ρ := ρ) h1
          simp only [sc] at e
          have hi2 : inB ix (xs.map (si ρ)).length = true := by rw [List.length_map]; exact hi
          have e4 : (hp.set r (.inl (.int, xs.set ix.toNatClampNeg z))).map (sc ρ) = (hp.map (sc ρ)).set r (.inl (.int, (xs.map (si ρ)).set ix.toNatClampNeg (si ρ z))) := by
            rw [List.map_set]; simp only [sc, List.map_set]
          rw [e4]
          have e5 := s2i_eq (ρ := ρ) h2
          simp only [List.map_cons, e5]
          simp only [sv, hA, e, if_pos hi2]
        · cases h
      · cases h
    · cases h
  | baload =>
    simp only [hAs] at h
    split at h
    · rename_i ix r st1
      split at h
      · rename_i xs h1
        split at h
        · rename_i hi
          cases h
          have e := sc_get (ρ := ρ) h1
          simp only [sc] at e
          have hi2 : inB ix (xs.map (si ρ)).length = true := by rw [List.length_map]; exact hi
          have e6 : sv ρ (is2 (xs.getD ix.toNatClampNeg (.inl 0))) = .int ((xs.map (si ρ)).getD ix.toNatClampNeg 0) := by
            rw [is2_eq, ← getD_map (si ρ) xs _ (.inl 0)]; rfl
          have e7 : (is2 (xs.getD ix.toNatClampNeg (.inl 0)) :: st1).map (sv ρ) = .int ((xs.map (si ρ)).getD ix.toNatClampNeg 0) :: st1.map (sv ρ) := by rw [List.map_cons, e6]
          rw [e7]
          simp only [List.map_cons, sv, hA, e, if_pos hi2]
        · cases h
      · cases h
    · cases h
  | bastore =>
    simp only [hAs] at h
    split at h
    · rename_i y ix r st1
      split at h
      · rename_i xs h1
        split at h
        · rename_i hi
          cases h
          have e := sc_get (ρ := ρ) h1
          simp only [sc] at e
          have hi2 : inB ix (xs.map (si ρ)).length = true := by rw [List.length_map]; exact hi
          have e4 : (hp.set r (.inl (.boolean, xs.set ix.toNatClampNeg (.inl (vp_nar .boolean y))))).map (sc ρ) = (hp.map (sc ρ)).set r (.inl (.boolean, (xs.map (si ρ)).set ix.toNatClampNeg (vp_nar .boolean y))) := by
            rw [List.map_set]; simp only [sc, List.map_set, si]
          rw [e4]
          simp only [List.map_cons, sv, hA, e, if_pos hi2]
        · cases h
      · cases h
    · cases h
  | aaload =>
    simp only [hAs] at h
    split at h
    · split at h
      · rename_i rs h1
        split at h
        · rename_i hi
          split at h
          · rename_i q hq
            cases h
            have e := sc_get (ρ := ρ) h1
            simp only [sc] at e
            simp only [List.map_cons, sv, hA, e, if_pos hi, hq]
          · cases h
        · cases h
      · cases h
    · cases h
  | arraylength =>
    simp only [hAs] at h
    split at h
    · split at h
      · rename_i xs h1
        cases h
        have e := sc_get (ρ := ρ) h1
        simp only [sc] at e
        simp only [List.map_cons, sv, hA, e, List.length_map]
      · cases h
    · cases h
  | idiv =>
    simp only [hAs] at h
    split at h
    · split at h
      · cases h
      · rename_i hy; cases h; simp only [List.map_cons, sv, hA, if_neg hy]
    · cases h
  | irem =>
    simp only [hAs] at h
    split at h
    · split at h
      · cases h
      · rename_i hy; cases h; simp only [List.map_cons, sv, hA, if_neg hy]
    · cases h
  | ldiv =>
    simp only [hAs] at h
    split at h
    · split at h
      · cases h
      · rename_i hy; cases h; simp only [List.map_cons, sv, hA, if_neg hy]
    · cases h
  | lrem =>
    simp only [hAs] at h
    split at h
    · split at h
      · cases h
      · rename_i hy; cases h; simp only [List.map_cons, sv, hA, if_neg hy]
    · cases h
  | tableswitch dflt lo hi offs =>
    simp only [hAs] at h
    split at h
    · split at h
      · rename_i t ht; cases h; simp only [List.map_cons, sv, hA, ht]
      · cases h
    · rename_i j st1
      split at h
      · rename_i l9 h9 hj
        split at h
        · rename_i hc
          split at h
          · rename_i ht
            cases h
            have hb := hI _ _ _ hj
            rw [Int32.le_iff_toInt_le, Int32.le_iff_toInt_le] at hb
            have hc2 : (ρ j).toInt < lo ∨ hi < (ρ j).toInt := by omega
            have e : swT dflt lo hi offs pc (ρ j) = some pc' := by unfold swT; rw [if_pos hc2]; exact ht
            simp only [List.map_cons, sv, hA, e]
          · cases h
        · cases h
      · cases h
    · cases h
  | lookupswitch dflt ps =>
    simp only [hAs] at h
    split at h
    · split at h
      · rename_i hp0
        split at h
        · rename_i t ht; cases h; simp only [List.map_cons, sv, hA, if_pos hp0, ht]
        · cases h
      · cases h
    · cases h
  | ldc idx =>
    simp only [hAs] at h
    split at h
    · rename_i v w h1; cases h; simp only [List.map_cons, sv, hA, h1]
    · cases h
  | ldc_w idx =>
    simp only [hAs] at h
    split at h
    · rename_i v w h1; cases h; simp only [List.map_cons, sv, hA, h1]
    · cases h
  | ldc2_w idx =>
    simp only [hAs] at h
    split at h
    · rename_i v w h1; cases h; simp only [List.map_cons, sv, hA, h1]
    · cases h
  | invokestatic idx =>
    simp only [hAs] at h
    split at h
    · rename_i kd a1 a2 a3 a4 n dp k1 sp k0 st1 h1
      split at h
      · rename_i xs ys g0 g1
        split at h
        · rename_i hc
          obtain ⟨c1, c2, c3, c4, c5, c6, c7, c8⟩ := hc
          cases h
          have e0 := sc_get (ρ := ρ) g0
          have e1 := sc_get (ρ := ρ) g1
          simp only [sc] at e0 e1
          have hc9 : kd = 6 ∧ catB (st'.map (sv ρ)) = true ∧ 0 < d ∧ ¬ sp < 0 ∧ ¬ dp < 0 ∧ ¬ n < 0 ∧ sp.toNatClampNeg + n.toNatClampNeg ≤ (xs.map (si ρ)).length ∧ dp.toNatClampNeg + n.toNatClampNeg ≤ (ys.map (si ρ)).length := ⟨c1, by unfold catB; rw [cat_map]; exact decide_eq_true c2, c3, c4, c5, c6, by rw [List.length_map]; exact c7, by rw [List.length_map]; exact c8⟩
          have e4 : (hp.set k1 (.inl (.int, cpyS xs ys sp.toNatClampNeg dp.toNatClampNeg n.toNatClampNeg))).map (sc ρ) = (hp.map (sc ρ)).set k1 (.inl (.int, cpyL (xs.map (si ρ)) (ys.map (si ρ)) sp.toNatClampNeg dp.toNatClampNeg n.toNatClampNeg)) := by
            rw [List.map_set]; simp only [sc, cpyS_eq]
          rw [e4]
          simp only [List.map_cons, sv, hA, h1, e0, e1, if_pos hc9]
        · cases h
      · cases h
    · cases h
  | _ => cases h
