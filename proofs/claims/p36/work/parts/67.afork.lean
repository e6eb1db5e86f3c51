/-! ===== steps with more than one outcome; and arraycopy ===== -/
def eqTo (B : BD) (n : AN) (v : Int) : BD := narL (narH B n v) n v
theorem eqTo_ok {B : BD} {ρ : Nat → Int} (hB : okB B ρ) {n : AN} {x : Int32} (h : rN B ρ n x) {v : Int} (hv : x.toInt = v) : okB (eqTo B n v) ρ ∧ ext B ρ (eqTo B n v) ρ := by
  have e1 : okB (narH B n v) ρ := narH_ok hB h (by omega)
  exact ⟨narL_ok e1 (rN_ext narH_ext h) (by omega), ext_tr narH_ext narL_ext⟩
def inBd (B : BD) (n : AN) (v : Int) : Bool := decide ((bnd B n).1 ≤ v) && decide (v ≤ (bnd B n).2)
theorem inBd_ok {B : BD} {ρ : Nat → Int} (hB : okB B ρ) {n : AN} {x : Int32} (h : rN B ρ n x) {v : Int} (hv : x.toInt = v) : inBd B n v = true := by
  have := bnd_ok hB h
  unfold inBd
  rw [Bool.and_eq_true, decide_eq_true_eq, decide_eq_true_eq]
  omega
def aF (B : BD) (i : Instr) (pc : Nat) (sa : List AVa) (ha : AHa) : Option (List (Option OUT)) := match i with
  | .aaload => match sa with
    | .inl n :: .inr (.inl r) :: s => match ha[r]? with
      | some (.inr (.inr (.inl rs))) => if inA B n rs.length = true then some (((List.range rs.length).filter (fun (k : Nat) => inBd B n (k : Int))).map (fun (k : Nat) => some (eqTo B n (k : Int), pc + 1, .inr (.inl (rs.getD k 0)) :: s, ha))) else none
      | _ => none
    | _ => none
  | .tableswitch dflt lo hi offs => match sa with
    | .inl n :: s => some ((if (bnd B n).1 < lo ∨ hi < (bnd B n).2 then [(tgt pc dflt).map (fun t => (B, t, s, ha))] else []) ++ ((List.range (hi - lo + 1).toNat).filter (fun (k : Nat) => inBd B n (lo + (k : Int)))).map (fun (k : Nat) => (offs[k]?).bind (fun off => (tgt pc off).map (fun t => (eqTo B n (lo + (k : Int)), t, s, ha)))))
    | _ => none
  | .lookupswitch dflt ps => match sa with
    | .inl n :: s => if (ps.toList.zip (ps.toList.drop 1)).all (fun (a, next) => a.1 < next.1) = true then some ((if knwA B n = true ∧ ps.toList.any (fun q => decide (q.1 = (bnd B n).1)) = true then [] else [(tgt pc dflt).map (fun t => (B, t, s, ha))]) ++ (ps.toList.filter (fun q => inBd B n q.1)).map (fun q => (tgt pc q.2).map (fun t => (eqTo B n q.1, t, s, ha)))) else none
    | _ => none
  | _ => none
theorem off_mem (dflt k : Int) : ∀ l : List (Int × Int), (Op.lookupswitch.offset l dflt k = dflt ∧ l.any (fun q => decide (q.1 = k)) = false) ∨ ∃ q ∈ l, q.1 = k ∧ Op.lookupswitch.offset l dflt k = q.2
  | [] => Or.inl ⟨rfl, rfl⟩
  | (a, o) :: l => by
    rw [Op.lookupswitch.offset_cons]
    split
    · rename_i h
      exact Or.inr ⟨(a, o), List.mem_cons_self, by first | exact h | exact h.symm | (simpa using h) | (simpa using h.symm), rfl⟩
    · rename_i h
      rcases off_mem dflt k l with ⟨h1, h2⟩ | ⟨q, h1, h2, h3⟩
      · refine Or.inl ⟨h1, ?_⟩
        rw [List.any_cons, h2, Bool.or_false]
        exact decide_eq_false (fun e => h (by first | exact e | exact e.symm | (simpa using e)))
      · exact Or.inr ⟨q, List.mem_cons_of_mem _ h1, h2, h3⟩
section AFOK
variable {B : BD} {ρ : Nat → Int} {d : Nat} {M : MT} {i : Instr} {pc : Nat} {sa : List AVa} {ha : AHa} {st : List Value} {hp : AH}
theorem aF_ok (hB : okB B ρ) (hS : rS B ρ sa st) (hH : rH B ρ ha hp) {L : List (Option OUT)} (h : aF B i pc sa ha = some L) (hall : ∀ q ∈ L, ∃ o, q = some o) : ∃ o, some o ∈ L ∧ outOk B ρ d M i pc st hp o := by
  cases i with
  | aaload =>
    simp only [aF] at h
    split at h
    · rename_i n r s
      split at h
      · rename_i rs h2
        split at h
        · rename_i hi
          cases h
          obtain ⟨v, vs, rfl, hv, hr⟩ := rS_cons hS
          obtain ⟨u, us, rfl, hu, hr2⟩ := rS_cons hr
          obtain ⟨x, rfl, hx⟩ := rV_int hv
          cases rV_ref hu
          obtain ⟨y, g1, g2⟩ := hH.2.1 _ _ h2
          cases rC_rows g2
          obtain ⟨q1, q2⟩ := inA_ok hB hx hi
          have hxk : x.toInt = ((x.toNatClampNeg : Nat) : Int) := by
            have := vp_in_iff.mp q1
            show x.toInt = ((x.toInt.toNat : Nat) : Int)
            omega
          have hbd := inBd_ok hB hx hxk
          obtain ⟨e1, e2⟩ := eqTo_ok hB hx hxk
          refine ⟨(eqTo B n x.toNatClampNeg, pc + 1, .inr (.inl (rs.getD x.toNatClampNeg 0)) :: s, ha), ?_, ρ, .ref (rs.getD x.toNatClampNeg 0) :: us, hp, e1, e2, ?_, ⟨rfl, rS_ext e2 hr2⟩, rH_ext e2 hH⟩
          · exact List.mem_map.mpr ⟨x.toNatClampNeg, List.mem_filter.mpr ⟨List.mem_range.mpr q2, hbd⟩, rfl⟩
          · have e3 : rs[x.toNatClampNeg]? = some (rs.getD x.toNatClampNeg 0) := by
              rw [List.getD_eq_getElem?_getD, List.getElem?_eq_getElem q2]; rfl
            simp only [hA, g1, if_pos (inB_of q1), e3]
        · cases h
      · cases h
    · cases h
  | tableswitch dflt lo hi offs =>
    simp only [aF] at h
    split at h
    · rename_i n s
      cases h
      obtain ⟨v, vs, rfl, hv, hr⟩ := rS_cons hS
      obtain ⟨x, rfl, hx⟩ := rV_int hv
      have hb := bnd_ok hB hx
      by_cases hout : x.toInt < lo ∨ hi < x.toInt
      · have hc : (bnd B n).1 < lo ∨ hi < (bnd B n).2 := by omega
        obtain ⟨o, ho⟩ := hall ((tgt pc dflt).map (fun t => (B, t, s, ha))) (by rw [if_pos hc]; exact List.mem_append_left _ List.mem_cons_self)
        obtain ⟨t, ht, rfl⟩ := Option.map_eq_some_iff.mp ho
        refine ⟨(B, t, s, ha), by rw [if_pos hc]; exact List.mem_append_left _ (by rw [ho]; exact List.mem_cons_self), ρ, vs, hp, hB, ext_rf, ?_, hr, hH⟩
        have e : swT dflt lo hi offs pc x = some t := by unfold swT; rw [if_pos hout]; exact ht
        simp only [hA, e]
      · have hk : ((x.toInt - lo).toNat : Int) = x.toInt - lo := Int.toNat_of_nonneg (by omega)
        have hlt : (x.toInt - lo).toNat < (hi - lo + 1).toNat := by omega
        have hv2 : x.toInt = lo + ((x.toInt - lo).toNat : Int) := by omega
        have hmem : (offs[(x.toInt - lo).toNat]?).bind (fun off => (tgt pc off).map (fun t => (eqTo B n (lo + ((x.toInt - lo).toNat : Int)), t, s, ha))) ∈ ((if (bnd B n).1 < lo ∨ hi < (bnd B n).2 then [(tgt pc dflt).map (fun t => (B, t, s, ha))] else []) ++ ((List.range (hi - lo + 1).toNat).filter (fun (k : Nat) => inBd B n (lo + (k : Int)))).map (fun (k : Nat) => (offs[k]?).bind (fun off => (tgt pc off).map (fun t => (eqTo B n (lo + (k : Int)), t, s, ha))))) :=
          List.mem_append_right _ (List.mem_map.mpr ⟨(x.toInt - lo).toNat, List.mem_filter.mpr ⟨List.mem_range.mpr hlt, inBd_ok hB hx hv2⟩, rfl⟩)
        obtain ⟨o, ho⟩ := hall _ hmem
        obtain ⟨off, h1, h2⟩ := Option.bind_eq_some_iff.mp ho
        obtain ⟨t, ht, rfl⟩ := Option.map_eq_some_iff.mp h2
        obtain ⟨e1, e2⟩ := eqTo_ok hB hx hv2
        refine ⟨_, by rw [← ho]; exact hmem, ρ, vs, hp, e1, e2, ?_, rS_ext e2 hr, rH_ext e2 hH⟩
        have e : swT dflt lo hi offs pc x = some t := by unfold swT; rw [if_neg hout, h1]; exact ht
        simp only [hA, e]
    · cases h
  | lookupswitch dflt ps =>
    simp only [aF] at h
    split at h
    · rename_i n s
      split at h
      · rename_i hsrt
        cases h
        obtain ⟨v, vs, rfl, hv, hr⟩ := rS_cons hS
        obtain ⟨x, rfl, hx⟩ := rV_int hv
        have hb := bnd_ok hB hx
        rcases off_mem dflt x.toInt ps.toList with ⟨e1, e2⟩ | ⟨q, q1, q2, q3⟩
        · have hc : ¬ (knwA B n = true ∧ ps.toList.any (fun q => decide (q.1 = (bnd B n).1)) = true) := fun z => by
            have hk := of_decide_eq_true z.1
            have e3 : (bnd B n).1 = x.toInt := by omega
            have z2 := z.2
            rw [e3, e2] at z2
            cases z2
          obtain ⟨o, ho⟩ := hall ((tgt pc dflt).map (fun t => (B, t, s, ha))) (by rw [if_neg hc]; exact List.mem_append_left _ List.mem_cons_self)
          obtain ⟨t, ht, rfl⟩ := Option.map_eq_some_iff.mp ho
          refine ⟨(B, t, s, ha), by rw [if_neg hc, ho]; exact List.mem_append_left _ List.mem_cons_self, ρ, vs, hp, hB, ext_rf, ?_, hr, hH⟩
          simp only [hA, if_pos hsrt, e1, ht]
        · obtain ⟨e1, e2⟩ := eqTo_ok hB hx q2.symm
          have hmem : (tgt pc q.2).map (fun t => (eqTo B n q.1, t, s, ha)) ∈ ((if knwA B n = true ∧ ps.toList.any (fun q => decide (q.1 = (bnd B n).1)) = true then [] else [(tgt pc dflt).map (fun t => (B, t, s, ha))]) ++ (ps.toList.filter (fun q => inBd B n q.1)).map (fun q => (tgt pc q.2).map (fun t => (eqTo B n q.1, t, s, ha)))) := List.mem_append_right _ (List.mem_map.mpr ⟨q, List.mem_filter.mpr ⟨q1, inBd_ok hB hx q2.symm⟩, rfl⟩)
          obtain ⟨o, ho⟩ := hall _ hmem
          obtain ⟨t, ht, rfl⟩ := Option.map_eq_some_iff.mp ho
          refine ⟨_, by rw [← ho]; exact hmem, ρ, vs, hp, e1, e2, ?_, rS_ext e2 hr, rH_ext e2 hH⟩
          simp only [hA, if_pos hsrt, q3, ht]
      · cases h
    · cases h
  | _ => cases h
end AFOK
