/-! ===== what is made ===== -/
def dfs (ci : Nat) : List Value := match clsL[ci]?, tyL[ci]? with
  | some (_, _, N), some ty => (List.range N).map (fun j => defaultValue (ty j))
  | _, _ => []
theorem cv_dflt (ad : List Nat) (t : FieldType) : cv ad (defaultValue t) = defaultValue t := by cases t <;> rfl
theorem cA_int {D : va_G} {cA : FieldType → ClassId} {s : State} {c' : ClassId} (hK : va_K D clsL (tysL cA) s) (hK' : va_K D clsL (tysL cA ++ [(c', .int)]) s) : c' = cA .int := by
  have h1 := (hK.2 0 _ rfl).2
  have h2 := (hK'.2 3 _ rfl).2
  exact Option.some.inj (h2.symm.trans h1)
theorem cA_bool {D : va_G} {cA : FieldType → ClassId} {s : State} {c' : ClassId} (hK : va_K D clsL (tysL cA) s) (hK' : va_K D clsL (tysL cA ++ [(c', .boolean)]) s) : c' = cA .boolean := by
  have h1 := (hK.2 1 _ rfl).2
  have h2 := (hK'.2 3 _ rfl).2
  exact Option.some.inj (h2.symm.trans h1)
theorem cA_rows {D : va_G} {cA : FieldType → ClassId} {s : State} {c' : ClassId} (hK : va_K D clsL (tysL cA) s) (hK' : va_K D clsL (tysL cA ++ [(c', .array .int)]) s) : c' = cA (.array .int) := by
  have h1 := (hK.2 2 _ rfl).2
  have h2 := (hK'.2 3 _ rfl).2
  exact Option.some.inj (h2.symm.trans h1)
theorem rep_getD (n j : Nat) : (List.replicate n (0 : Int32)).getD j 0 = 0 := by
  rw [List.getD_eq_getElem?_getD, List.getElem?_replicate]
  split <;> rfl
section JM
variable {M : MT} {d mc ms : Nat} {Q : Option Value → AH → Prop} {pc : Nat} {lv : List (Option Value)} {st : List Value} {hp : AH} {cs ss : Nat} {idx : Nat}
theorem J_new {ci N : Nat} {C : String} {T : u_T} (hd : decode M.by pc = .ok (.new idx, 3)) (hcl : Cond.classLink (cnm M.cn) idx C ∈ tb) (hinst : Cond.instantiable C N ∈ tb) (hini : Cond.initialized C ∈ tb) (hc : clsL[ci]? = some (C, T, N)) (hr1 : cs + 1 ≤ mc) (hr2 : ss + N ≤ ms) (hk1 : okH hp = true) (hk2 : okL hp.length lv = true) (hk3 : st.all (okV hp.length) = true)
    (kk : J M d mc ms Q (pc + 3) lv (.ref hp.length :: st) (hp ++ [.inr (.inr (ci, dfs ci))]) (cs + 1) (ss + N)) : J M d mc ms Q pc lv st hp cs ss := by
  intro p l e s m args below meth c D cA A ad0 x H locs ls hE hl hP hD hS hL
  have hE0 := hE
  obtain ⟨hx, hb, hml, hr, hlo, hown, hts, hK, hA, hnm⟩ := hE
  obtain ⟨hin, hne, ty, ht1, hty⟩ := clsL_ok hc
  have hdf : dfs ci = (List.range N).map (fun j => defaultValue (ty j)) := by unfold dfs; rw [hc, ht1]
  refine va_new (fs := dfs ci) hx hb hts hin ty hty hown (hts _ hcl) (hts _ hinst) (hts _ hini) hK hP hD hS hA hc (fun j hj => ?_) hr1 hr2 hd (fun q H1 hP1 hD1 hS1 => ?_)
  · rw [hdf]; unfold vp_V
    rw [List.getD_eq_getElem?_getD, List.getElem?_map, List.getElem?_range hj]; rfl
  · have hq : (ad0 ++ (x ++ [q])) = (ad0 ++ x) ++ [q] := (List.append_assoc _ _ _).symm
    have hfs : ∀ ad, (dfs ci).map (cv ad) = dfs ci := fun ad => by
      rw [hdf, List.map_map]; exact List.map_congr_left (fun j _ => cv_dflt ad _)
    have e9 : conc cA (ad0 ++ (x ++ [q])) (hp ++ [.inr (.inr (ci, dfs ci))]) = conc cA (ad0 ++ x) hp ++ [(q, .inr (ci, dfs ci))] := by
      rw [hq, conc_app hl hk1]
      simp only [List.zipWith_cons_cons, List.zipWith_nil_left, jC, hfs]
    rw [← e9] at hP1 hD1
    have hg : (ad0 ++ (x ++ [q])).getD hp.length 0 = q := by
      rw [hq, ← hl, List.getD_eq_getElem?_getD, List.getElem?_append_right (Nat.le_refl _), Nat.sub_self]; rfl
    have K := kk p l e s m args below meth c D cA A ad0 (x ++ [q]) H1 locs ls hE0 (by rw [hq, List.length_append, hl, List.length_append]; rfl) hP1 hD1 hS1 (by rw [hq]; exact jL_app hL (by rw [hl]; exact hk2))
    rw [List.map_cons] at K
    have e8 : st.map (cv (ad0 ++ (x ++ [q]))) = st.map (cv (ad0 ++ x)) := by rw [hq]; exact map_cv_app (by rw [hl]; exact hk3)
    rw [e8] at K
    have e7 : cv (ad0 ++ (x ++ [q])) (.ref hp.length) = .ref q := by show Value.ref _ = _; rw [hg]
    rw [e7] at K
    exact K
theorem J_newa {at_ : ArrayType} {ty : FieldType} {n : Int32} {k : Nat} (hd : decode M.by pc = .ok (.newarray at_, 2)) (hat : newarray.typeOf at_ = ty) (hty : ty = .int ∨ ty = .boolean) (hw : Cond.arrayClass ty ∈ tb) (hn : ¬ n < 0) (hk : n.toNatClampNeg = k) (hbig : k ≤ 100000) (hr1 : cs + 1 ≤ mc) (hr2 : ss + k ≤ ms) (hk1 : okH hp = true) (hk2 : okL hp.length lv = true) (hk3 : st.all (okV hp.length) = true)
    (kk : J M d mc ms Q (pc + 2) lv (.ref hp.length :: st) (hp ++ [.inl (ty, List.replicate k 0)]) (cs + 1) (ss + k)) : J M d mc ms Q pc lv (.int n :: st) hp cs ss := by
  intro p l e s m args below meth c D cA A ad0 x H locs ls hE hl hP hD hS hL
  have hE0 := hE
  obtain ⟨hx, hb, hml, hr, hlo, hown, hts, hK, hA, hnm⟩ := hE
  have hd0 : defaultValue ty = .int 0 := by rcases hty with h | h <;> rw [h] <;> rfl
  have hcb : componentBytes ty ≤ 4 := by rcases hty with h | h <;> rw [h] <;> decide
  refine va_newa (ty := ty) (a0 := (k, .inl (fun j => (List.replicate k 0).getD j 0))) hx hb (by rw [hat]; exact hts _ hw) hat hK hP hD hS hA (fun c9 => ?_) hn hk (Nat.le_trans (Nat.mul_le_mul_left k hcb) (by omega)) hr1 hr2 hd (fun q c9 H1 hK1 hP1 hD1 hS1 => ?_)
  · rw [vp_cell_i, hd0]
    congr 1
    funext j
    rw [rep_getD]
  · have hc9 : c9 = cA ty := by
      rcases hty with h | h
      · subst h; exact cA_int hK hK1
      · subst h; exact cA_bool hK hK1
    subst hc9
    have hq : (ad0 ++ (x ++ [q])) = (ad0 ++ x) ++ [q] := (List.append_assoc _ _ _).symm
    have e9 : conc cA (ad0 ++ (x ++ [q])) (hp ++ [.inl (ty, List.replicate k 0)]) = conc cA (ad0 ++ x) hp ++ [(q, .inl (cA ty, (k, .inl (fun j => (List.replicate k 0).getD j 0))))] := by
      rw [hq, conc_app hl hk1]
      simp only [List.zipWith_cons_cons, List.zipWith_nil_left, jC, List.length_replicate]
    rw [← e9] at hP1 hD1
    have hg : (ad0 ++ (x ++ [q])).getD hp.length 0 = q := by
      rw [hq, ← hl, List.getD_eq_getElem?_getD, List.getElem?_append_right (Nat.le_refl _), Nat.sub_self]; rfl
    have K := kk p l e s m args below meth c D cA A ad0 (x ++ [q]) H1 locs ls hE0 (by rw [hq, List.length_append, hl, List.length_append]; rfl) hP1 hD1 hS1 (by rw [hq]; exact jL_app hL (by rw [hl]; exact hk2))
    rw [List.map_cons] at K
    have e8 : st.map (cv (ad0 ++ (x ++ [q]))) = st.map (cv (ad0 ++ x)) := by rw [hq]; exact map_cv_app (by rw [hl]; exact hk3)
    rw [e8] at K
    have e7 : cv (ad0 ++ (x ++ [q])) (.ref hp.length) = .ref q := by show Value.ref _ = _; rw [hg]
    rw [e7] at K
    exact K
theorem J_mna {n k : Int32} {n' k' : Nat} (hd : decode M.by pc = .ok (.multianewarray idx 2, 4)) (hcl : Cond.classLink (cnm M.cn) idx "[[I" ∈ tb) (hw : Cond.arrayClass .int ∈ tb) (hn : ¬ n < 0) (hk : ¬ k < 0) (hN : n.toNatClampNeg = n') (hK' : k.toNatClampNeg = k') (hb1 : n' ≤ 1000) (hb2 : k' ≤ 1000) (hr1 : cs + (1 + n') ≤ mc) (hr2 : ss + (n' + n' * k') ≤ ms) (hk1 : okH hp = true) (hk2 : okL hp.length lv = true) (hk3 : st.all (okV hp.length) = true)
    (kk : J M d mc ms Q (pc + 4) lv (.ref hp.length :: st) (hp ++ (.inr (.inl ((List.range n').map (fun i => hp.length + 1 + i))) :: List.replicate n' (.inl (.int, List.replicate k' 0)))) (cs + 1 + n') (ss + n' + n' * k')) : J M d mc ms Q pc lv (.int k :: .int n :: st) hp cs ss := by
  intro p l e s m args below meth c D cA A ad0 x H locs ls hE hl hP hD hS hL
  have hE0 := hE
  obtain ⟨hx, hb, hml, hr, hlo, hown, hts, hK, hA, hnm⟩ := hE
  refine va_mna (X := conc cA (ad0 ++ x) hp) (L := []) (f := fun _ => .inr (0, [])) (ty := .int) (cy := cA .int) (z := (k', .inl (fun j => (List.replicate k' 0).getD j 0))) hx hb hown (hts _ hcl) hnm.2.2 (hts _ hw) (hK.2 0 _ rfl).2 hK (by simpa [va_pl] using hP) (by simpa [va_pl] using hD) hS hA hn hk hN hK' (by omega) (by show k' * 4 ≤ _; omega) (by omega) rfl rfl hr1 hr2 (fun c9 => ?_) hd (fun q r c9 H1 hinj hnot hK1 hP1 hD1 hS1 => ?_)
  · rw [vp_cell_i]
    have : (fun j => Value.int ((List.replicate k' (0 : Int32)).getD j 0)) = (fun _ => Value.int 0) := by funext j; rw [rep_getD]
    rw [this, ← arrV_new]; rfl
  · have hc9 : c9 = cA (.array .int) := cA_rows hK hK1
    subst hc9
    have hq : (ad0 ++ (x ++ (q :: (List.range n').map r))) = (ad0 ++ x) ++ (q :: (List.range n').map r) := (List.append_assoc _ _ _).symm
    have hrow : ∀ i, i < n' → ((ad0 ++ x) ++ (q :: (List.range n').map r)).getD (hp.length + 1 + i) 0 = r i := fun i hi => by
      rw [List.getD_eq_getElem?_getD, List.getElem?_append_right (by omega), ← hl]
      have : (ad0 ++ x).length + 1 + i - (ad0 ++ x).length = i + 1 := by omega
      rw [this, List.getElem?_cons_succ, List.getElem?_map, List.getElem?_range hi]; rfl
    have e9 : conc cA (ad0 ++ (x ++ (q :: (List.range n').map r))) (hp ++ (.inr (.inl ((List.range n').map (fun i => hp.length + 1 + i))) :: List.replicate n' (.inl (.int, List.replicate k' 0)))) = (conc cA (ad0 ++ x) hp ++ [(q, .inl (cA (.array .int), n', .inr (.inr (.inr (.inr (fun i => if i < n' then some (r i) else none))))))]) ++ va_pl ([] ++ (List.range n').map r) (vr_up (fun _ => .inr (0, [])) ((List.range n').map r) (.inl (cA .int, (k', .inl (fun j => (List.replicate k' 0).getD j 0))))) := by
      rw [hq, conc_app hl hk1, List.append_assoc (conc cA (ad0 ++ x) hp) [_]]
      congr 1
      rw [List.zipWith_cons_cons]
      show _ :: _ = _ :: _
      congr 1
      · simp only [jC, List.length_map, List.length_range]
        have : (fun j : Nat => (((List.range n').map (fun i => hp.length + 1 + i))[j]?).map (fun r' => ((ad0 ++ x) ++ (q :: (List.range n').map r)).getD r' 0)) = (fun i => if i < n' then some (r i) else none) := by
          funext j
          by_cases hj : j < n'
          · rw [List.getElem?_map, List.getElem?_range hj, if_pos hj]
            simp only [Option.map_some]
            rw [hrow j hj]
          · rw [List.getElem?_eq_none (by simp; omega), if_neg hj]; rfl
        rw [this]
      · show List.zipWith _ ((List.range n').map r) _ = List.map (fun a : Nat => ((a, vr_up (fun _ => (.inr (0, []) : va_E)) ((List.range n').map r) (.inl (cA .int, (k', .inl (fun j => (List.replicate k' 0).getD j 0))) : va_E) a) : Nat × va_E)) ((List.range n').map r)
        apply List.ext_getElem?
        intro j
        rw [List.getElem?_zipWith]
        generalize hF : (fun a : Nat => ((a, vr_up (fun _ => (.inr (0, []) : va_E)) ((List.range n').map r) (.inl (cA .int, (k', .inl (fun j => (List.replicate k' 0).getD j 0))) : va_E) a) : Nat × va_E)) = F
        have h2 : (List.map F ((List.range n').map r))[j]? = (((List.range n').map r)[j]?).map F := List.getElem?_map
        rw [h2]
        by_cases hj : j < n'
        · have h1 : ((List.range n').map r)[j]? = some (r j) := by rw [List.getElem?_map, List.getElem?_range hj]; rfl
          rw [h1, List.getElem?_replicate, if_pos hj]
          simp only [jC, List.length_replicate, Option.map_some]
          rw [← hF]
          simp only
          rw [vr_up_in (List.mem_of_getElem? h1)]
        · have h1 : ((List.range n').map r)[j]? = none := List.getElem?_eq_none (by simp; omega)
          rw [h1]; rfl
    rw [← e9] at hP1 hD1
    have hg : (ad0 ++ (x ++ (q :: (List.range n').map r))).getD hp.length 0 = q := by
      rw [hq, ← hl, List.getD_eq_getElem?_getD, List.getElem?_append_right (Nat.le_refl _), Nat.sub_self]; rfl
    have K := kk p l e s m args below meth c D cA A ad0 (x ++ (q :: (List.range n').map r)) H1 locs ls hE0 (by rw [hq, List.length_append, hl, List.length_append]; simp) hP1 hD1 hS1 (by rw [hq]; exact jL_app hL (by rw [hl]; exact hk2))
    rw [List.map_cons] at K
    have e8 : st.map (cv (ad0 ++ (x ++ (q :: (List.range n').map r)))) = st.map (cv (ad0 ++ x)) := by rw [hq]; exact map_cv_app (by rw [hl]; exact hk3)
    rw [e8] at K
    have e7 : cv (ad0 ++ (x ++ (q :: (List.range n').map r))) (.ref hp.length) = .ref q := by show Value.ref _ = _; rw [hg]
    rw [e7] at K
    exact K
end JM
