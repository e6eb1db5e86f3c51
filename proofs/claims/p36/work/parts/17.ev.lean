/-! ===== the evaluator ===== -/
def rA (rt : Option FieldType) (i : Instr) (st : List Value) : Option (Option Value) := match i with
  | .ireturn => match st with
    | [.int x] => match rt with
      | some .int => some (some (.int x))
      | some .boolean => if x = 0 ∨ x = 1 then some (some (.int x)) else none
      | _ => none
    | _ => none
  | .lreturn => match st with
    | [.long x] => match rt with
      | some .long => some (some (.long x))
      | _ => none
    | _ => none
  | .areturn => match st with
    | [.ref x] => match rt with
      | some (.object _) => some (some (.ref x))
      | some (.array _) => some (some (.ref x))
      | _ => none
    | _ => none
  | .return_ => match st with
    | [] => match rt with
      | none => some none
      | _ => none
    | _ => none
  | _ => none
/-- a call: the callee's number, its arguments, what is left -/
def kA (cn : Nat) (i : Instr) (st : List Value) (hp : AH) : Option (Nat × List Value × List Value) := match i with
  | .invokestatic idx => match mRes cn idx with
    | some (kd, N, _) => if (kd = 0 ∨ kd = 1) ∧ npL.getD N 0 ≤ st.length then some (N, (st.take (npL.getD N 0)).reverse, st.drop (npL.getD N 0)) else none
    | none => none
  | .invokevirtual idx => match mRes cn idx with
    | some (kd, N, _) => match st.drop (npL.getD N 0) with
      | .ref r :: st' => match hp[r]?, mtL[N]? with
        | some (.inr (.inr (ci, _))), some M => if kd = 2 ∧ ci = M.cn ∧ ci < 8 then some (N, .ref r :: (st.take (npL.getD N 0)).reverse, st') else none
        | _, _ => none
      | _ => none
    | none => none
  | .invokespecial idx => match mRes cn idx with
    | some (kd, N, _) => match st.drop (npL.getD N 0) with
      | .ref r :: st' => if kd = 3 ∨ kd = 4 then some (N, .ref r :: (st.take (npL.getD N 0)).reverse, st') else none
      | _ => none
    | none => none
  | _ => none
/-- Math's two -/
def xA (cn : Nat) (i : Instr) (st : List Value) : Option Value × List Value := match i with
  | .invokestatic idx => match mRes cn idx, st with
    | some (kd, _), .int y :: .int x :: st' => if kd = 7 then (some (.int (if y < x then y else x)), st') else if kd = 8 then (some (.int (if x < y then y else x)), st') else (none, [])
    | _, _ => (none, [])
  | _ => (none, [])
def aA (cn : Nat) (i : Instr) (st : List Value) (hp : AH) : Option (Nat × List Value × List AC × Nat × Nat) := match i with
  | .new idx => match nwRes cn idx with
    | some (ci, _) => match clsL[ci]? with
      | some (_, _, N) => some (3, st, [.inr (.inr (ci, dfs ci))], 1, N)
      | none => none
    | none => none
  | .newarray .int => match st with
    | .int n :: st' => if ¬ n < 0 ∧ n.toNatClampNeg ≤ 100000 then some (2, st', [.inl (.int, List.replicate n.toNatClampNeg 0)], 1, n.toNatClampNeg) else none
    | _ => none
  | .newarray .boolean => match st with
    | .int n :: st' => if ¬ n < 0 ∧ n.toNatClampNeg ≤ 100000 then some (2, st', [.inl (.boolean, List.replicate n.toNatClampNeg 0)], 1, n.toNatClampNeg) else none
    | _ => none
  | .multianewarray idx 2 => match mnRes cn idx, st with
    | some _, .int k :: .int n :: st' => if ¬ n < 0 ∧ ¬ k < 0 ∧ n.toNatClampNeg ≤ 1000 ∧ k.toNatClampNeg ≤ 1000 then some (4, st', .inr (.inl ((List.range n.toNatClampNeg).map (fun i => hp.length + 1 + i))) :: List.replicate n.toNatClampNeg (.inl (.int, List.replicate k.toNatClampNeg 0)), 1 + n.toNatClampNeg, n.toNatClampNeg + n.toNatClampNeg * k.toNatClampNeg) else none
    | _, _ => none
  | _ => none
abbrev OR : Type := Nat → Nat → List Value → AH → Option (Option Value × AH)
def noO : OR := fun _ _ _ _ => none
def ev (O : OR) : Nat → Nat → Nat → Nat → List (Option Value) → List Value → AH → Nat → Nat → Option (Option Value × AH × Nat × Nat)
  | 0, _, _, _, _, _, _, _, _ => none
  | f + 1, d, k, pc, lv, st, hp, cs, ss => match mtL[k]?, (cdL.getD k [])[pc]? with
    | some M, some (some (i, _)) => match sA i pc lv st with
      | some (pc', lv', st') => ev O f d k pc' lv' st' hp cs ss
      | none => match bA i pc st with
        | some (b, t, st') => if b = true then ev O f d k t lv st' hp cs ss else ev O f d k (pc + 3) lv st' hp cs ss
        | none => match hA d M i pc st hp with
          | some (pc', st', hp') => ev O f d k pc' lv st' hp' cs ss
          | none => match rA M.rt i st with
            | some v => some (v, hp, cs, ss)
            | none => match kA M.cn i st hp with
              | some (N, as, st') => match d, mtL[N]? with
                | d' + 1, some NM => match O d' N as hp with
                  | some (v, hp') => if catB st' = true then ev O f (d' + 1) k (pc + 3) lv (v.toList ++ st') hp' cs ss else none
                  | none => if catB st' = true ∧ (as.map (fun v => v.category)).sum ≤ NM.ml then (match ev O f d' N 0 (entL as NM.ml) [] hp 0 0 with
                  | some (v, hp', c', s') => if hp'.length = hp.length ∨ (okL hp.length lv = true ∧ st'.all (okV hp.length) = true) then ev O f (d' + 1) k (pc + 3) lv (v.toList ++ st') hp' (cs + c') (ss + s') else none
                  | none => none) else none
                | _, _ => none
              | none => match xA M.cn i st with
                | (some v, st') => if catB st' = true ∧ 0 < d then ev O f d k (pc + 3) lv (v :: st') hp cs ss else none
                | (none, _) => match aA M.cn i st hp with
                  | some (n, st', cl, c', s') => if okH hp = true ∧ okL hp.length lv = true ∧ st'.all (okV hp.length) = true then ev O f d k (pc + n) lv (.ref hp.length :: st') (hp ++ cl) (cs + c') (ss + s') else none
                  | none => none
    | _, _ => none
theorem lg_len (ad : List Nat) : ∀ as : List Value, (lg_sl (as.map (cv ad))).length = (as.map (fun v => v.category)).sum
  | [] => rfl
  | v :: as => by
    have ih := lg_len ad as
    unfold lg_sl at ih ⊢
    rw [List.map_cons, List.flatMap_cons, List.length_append, ih, List.map_cons, List.sum_cons, cv_cat]
    congr 1
    rcases lv_cat v with h | h <;> rw [h] <;> simp
def lnAll (k : Nat) : Bool := (cdL.getD k []).all (fun o => match o with
  | some (i, l) => lnB i l
  | none => true)
set_option maxRecDepth 100000 in
theorem lnAll_ok : (List.range 203).all lnAll = true := by decide +kernel
theorem mt_lt {k : Nat} {M : MT} (h : mtL[k]? = some M) : k < 203 := by
  have h1 := (List.getElem?_eq_some_iff.mp h).1
  have h2 : mtL.length = 203 := by decide +kernel
  omega
theorem mt_ok {k : Nat} {M : MT} (h : mtL[k]? = some M) : nOk M ∧ np M = some (npL.getD k 0) := by
  obtain ⟨M', n, h1, h2, h3, h4⟩ := mOkB_spec (mk_all (mt_lt h))
  rw [h] at h1
  cases h1
  refine ⟨h3, ?_⟩
  rw [List.getD_eq_getElem?_getD, h2]
  exact h4
theorem cd_at {k pc len : Nat} {M : MT} {i : Instr} (h : mtL[k]? = some M) (hc : (cdL.getD k [])[pc]? = some (some (i, len))) : decode M.by pc = .ok (i, len) ∧ lnB i len = true := by
  have hk := mt_lt h
  have h1 := ck_all hk
  unfold cdB at h1
  rw [h] at h1
  cases ht : cdL[k]? with
  | none => rw [ht] at h1; cases h1
  | some t =>
    rw [ht] at h1
    have hg : cdL.getD k [] = t := by rw [List.getD_eq_getElem?_getD, ht]; rfl
    rw [hg] at hc
    refine ⟨by have := cdOk_spec h1 pc (i, len) hc; rwa [Nat.zero_add] at this, ?_⟩
    have h2 := List.all_eq_true.mp lnAll_ok k (List.mem_range.mpr hk)
    unfold lnAll at h2
    rw [hg] at h2
    exact List.all_eq_true.mp h2 _ (List.mem_of_getElem? hc)
theorem cls_nm {ci : Nat} (h : ci < 8) : (clsL[ci]?).map (fun q => q.1) = some (cnm ci) := by
  match ci, h with
  | 0, _ => rfl
  | 1, _ => rfl
  | 2, _ => rfl
  | 3, _ => rfl
  | 4, _ => rfl
  | 5, _ => rfl
  | 6, _ => rfl
  | 7, _ => rfl
/-- rows that need no callee: lengths out of lnB -/
theorem sA_len {i : Instr} {pc len : Nat} {lv : List (Option Value)} {st : List Value} {r : Nat × List (Option Value) × List Value} (hs : sA i pc lv st = some r) (hn : lnB i len = true) : len = sN i := by
  cases i <;> first | (exact (by simpa [lnB] using hn)) | (cases hs)
theorem bA_len {i : Instr} {pc len : Nat} {st : List Value} {r : Bool × Nat × List Value} (hs : bA i pc st = some r) (hn : lnB i len = true) : len = 3 := by
  cases i <;> first | (exact (by simpa [lnB] using hn)) | (cases hs)
theorem J_r {M : MT} {d mc ms pc len cs ss : Nat} {lv : List (Option Value)} {st : List Value} {hp : AH} {i : Instr} {v : Option Value} {Q : Option Value → AH → Prop} (hd : decode M.by pc = .ok (i, len)) (hn : lnB i len = true) (hr : rA M.rt i st = some v) (h1 : cs ≤ mc) (h2 : ss ≤ ms) (hQ : Q v hp) : J M d mc ms Q pc lv st hp cs ss := by
  cases i with
  | ireturn =>
    have hl : len = 1 := by simpa [lnB, sN] using hn
    subst hl
    simp only [rA] at hr
    split at hr
    · split at hr
      · rename_i hrt; cases hr; exact J_iret hd hrt rfl h1 h2 hQ
      · rename_i hrt
        split at hr
        · rename_i hx; cases hr
          refine J_iret hd hrt ?_ h1 h2 hQ
          rcases hx with hx | hx <;> subst hx <;> rfl
        · cases hr
      · cases hr
    · cases hr
  | lreturn =>
    have hl : len = 1 := by simpa [lnB, sN] using hn
    subst hl
    simp only [rA] at hr
    split at hr
    · split at hr
      · rename_i hrt; cases hr; exact J_lret hd hrt h1 h2 hQ
      · cases hr
    · cases hr
  | areturn =>
    have hl : len = 1 := by simpa [lnB, sN] using hn
    subst hl
    simp only [rA] at hr
    split at hr
    · split at hr
      · rename_i hrt; cases hr; exact J_aret hd hrt (Or.inl ⟨_, rfl⟩) h1 h2 hQ
      · rename_i hrt; cases hr; exact J_aret hd hrt (Or.inr ⟨_, rfl⟩) h1 h2 hQ
      · cases hr
    · cases hr
  | return_ =>
    have hl : len = 1 := by simpa [lnB, sN] using hn
    subst hl
    simp only [rA] at hr
    split at hr
    · split at hr
      · rename_i hrt; cases hr; exact J_vret hd hrt h1 h2 hQ
      · cases hr
    · cases hr
  | _ => cases hr
theorem J_k {M NM : MT} {d mc ms pc len cs ss c' s' N : Nat} {lv : List (Option Value)} {st as st' : List Value} {hp : AH} {i : Instr} {Q Q' : Option Value → AH → Prop} (hd : decode M.by pc = .ok (i, len)) (hn : lnB i len = true) (hk : kA M.cn i st hp = some (N, as, st')) (hN : mtL[N]? = some NM) (hcat : catB st' = true) (h1 : cs + c' ≤ mc) (h2 : ss + s' ≤ ms) (hok : cOk hp lv st' Q') (C : Ct NM d c' s' as hp Q')
    (kk : ∀ v hp', Q' v hp' → J M (d + 1) mc ms Q (pc + 3) lv (v.toList ++ st') hp' (cs + c') (ss + s')) : J M (d + 1) mc ms Q pc lv st hp cs ss := by
  obtain ⟨hNk, hnp⟩ := mt_ok hN
  have hcat' : (st'.map (fun v => v.category)).sum ≤ 8 := by simpa [catB] using hcat
  cases i with
  | invokestatic idx =>
    have hl : len = 3 := by simpa [lnB] using hn
    subst hl
    simp only [kA] at hk
    split at hk
    · rename_i kd N0 a1 h0
      split at hk
      · rename_i hc
        obtain ⟨hkd, hlen⟩ := hc
        cases hk
        have hr := mRes_row h0
        have e : st = ((st.take (npL.getD N 0)).reverse).reverse ++ st.drop (npL.getD N 0) := by rw [List.reverse_reverse, List.take_append_drop]
        have hl2 : np NM = some ((st.take (npL.getD N 0)).reverse).length := by rw [hnp, List.length_reverse, List.length_take, Nat.min_eq_left hlen]
        rw [e]
        rcases hkd with hkd | hkd
        · subst hkd
          simp [mRowB, hN] at hr
          exact J_callS hd hNk (chkW_in hr.1) (chkW_in hr.2) hl2 hcat' h1 h2 hok C kk
        · subst hkd
          simp [mRowB, hN] at hr
          exact J_callSN hd hNk (chkN_in hr.1) (chkW_in hr.2) hl2 hcat' h1 h2 hok C kk
      · cases hk
    · cases hk
  | invokevirtual idx =>
    have hl : len = 3 := by simpa [lnB] using hn
    subst hl
    simp only [kA] at hk
    split at hk
    · rename_i kd N0 a1 h0
      split at hk
      · rename_i r st1 hdrop
        split at hk
        · rename_i ci fs M0 g0 g1
          split at hk
          · rename_i hc
            obtain ⟨hkd, hci, hci8⟩ := hc
            cases hk
            rw [hN] at g1
            cases g1
            have hr := mRes_row h0
            have hlen : npL.getD N 0 ≤ st.length := by
              have : (st.drop (npL.getD N 0)).length = st'.length + 1 := by rw [hdrop]; rfl
              rw [List.length_drop] at this
              omega
            have e : st = ((st.take (npL.getD N 0)).reverse).reverse ++ .ref r :: st' := by rw [List.reverse_reverse, ← hdrop, List.take_append_drop]
            have hl2 : np NM = some ((st.take (npL.getD N 0)).reverse).length := by rw [hnp, List.length_reverse, List.length_take, Nat.min_eq_left hlen]
            rw [e]
            subst hkd
            simp [mRowB, hN] at hr
            exact J_callV hd hNk (chkW_in hr.1) (chkW_in hr.2.1) (chkW_in hr.2.2) hl2 g0 (by rw [cls_nm hci8, hci, hNk.2.2.2.2.2]) hcat' h1 h2 hok C kk
          · cases hk
        · cases hk
      · cases hk
    · cases hk
  | invokespecial idx =>
    have hl : len = 3 := by simpa [lnB] using hn
    subst hl
    simp only [kA] at hk
    split at hk
    · rename_i kd N0 a1 h0
      split at hk
      · rename_i r st1 hdrop
        split at hk
        · rename_i hkd
          cases hk
          have hr := mRes_row h0
          have hlen : npL.getD N 0 ≤ st.length := by
            have : (st.drop (npL.getD N 0)).length = st'.length + 1 := by rw [hdrop]; rfl
            rw [List.length_drop] at this
            omega
          have e : st = ((st.take (npL.getD N 0)).reverse).reverse ++ .ref r :: st' := by rw [List.reverse_reverse, ← hdrop, List.take_append_drop]
          have hl2 : np NM = some ((st.take (npL.getD N 0)).reverse).length := by rw [hnp, List.length_reverse, List.length_take, Nat.min_eq_left hlen]
          rw [e]
          rcases hkd with hkd | hkd
          · subst hkd
            simp [mRowB, hN] at hr
            exact J_callI hd hNk hr.2.2.1 (chkW_in hr.1) (chkW_in hr.2.1) hr.2.2.2 hl2 hcat' h1 h2 hok C kk
          · subst hkd
            simp [mRowB, hN] at hr
            exact J_callIN hd hNk hr.2.2.1 (chkN_in hr.1) (chkW_in hr.2.1) hr.2.2.2 hl2 hcat' h1 h2 hok C kk
        · cases hk
      · cases hk
    · cases hk
  | _ => cases hk
