/-! ===== steps over the heap ===== -/
def tyL : List (Nat → FieldType) := [tyX0, tyX1, tyX2, tyX3, tyX4, tyX5, tyX6, tyX7]
theorem clsL_ok {ci : Nat} {C : String} {T : u_T} {N : Nat} (h : clsL[ci]? = some (C, T, N)) : (∀ w ∈ u_ws C T N, w ∈ tb) ∧ (∀ a, a < N → ∀ b, b < N → a ≠ b → (T a).2.1 ≠ (T b).2.1) ∧ ∃ ty : Nat → FieldType, tyL[ci]? = some ty ∧ ∀ k, k < N → parseFieldDescriptor (T k).2.2.1 = some (ty k) := by
  match ci, h with
  | 0, h => cases h; exact ⟨inT0, nmX0, _, rfl, tyX0_ok⟩
  | 1, h => cases h; exact ⟨inT1, nmX1, _, rfl, tyX1_ok⟩
  | 2, h => cases h; exact ⟨inT2, nmX2, _, rfl, tyX2_ok⟩
  | 3, h => cases h; exact ⟨inT3, nmX3, _, rfl, tyX3_ok⟩
  | 4, h => cases h; exact ⟨inT4, nmX4, _, rfl, tyX4_ok⟩
  | 5, h => cases h; exact ⟨inT5, nmX5, _, rfl, tyX5_ok⟩
  | 6, h => cases h; exact ⟨inT6, nmX6, _, rfl, tyX6_ok⟩
  | 7, h => cases h; exact ⟨inT7, nmX7, _, rfl, tyX7_ok⟩
  | n + 8, h => simp [clsL] at h
def fOk (cn idx ci sl : Nat) : Prop := ∃ w, fW cn idx ci sl = some w ∧ w ∈ tb
theorem fOk_spec {cn idx ci sl : Nat} (h : fOk cn idx ci sl) : ∃ C T N, clsL[ci]? = some (C, T, N) ∧ sl < N ∧ Cond.fieldLink (cnm cn) idx (T sl).1 (T sl).2.1 (T sl).2.2.1 ∈ tb := by
  obtain ⟨w, h1, h2⟩ := h
  unfold fW at h1
  split at h1
  · rename_i C T N hc
    split at h1
    · cases h1; rename_i hs; exact ⟨C, T, N, hc, hs, h2⟩
    · cases h1
  · cases h1
def fTy (ci sl : Nat) : FieldType := match tyL[ci]? with
  | some t => t sl
  | none => .int
def fFin (ci sl : Nat) : Bool := match clsL[ci]? with
  | some (_, T, _) => (T sl).2.2.2
  | none => false
/-- what a field may hold: an int as it is, a boolean 0 or 1, a reference -/
def fHold (ty : FieldType) (v : Value) : Bool := match ty, v with
  | .int, .int _ => true
  | .boolean, .int x => decide (vp_nar .boolean x = x) && fits .boolean (.int x)
  | .object _, .ref _ => true
  | .array _, .ref _ => true
  | _, _ => false
theorem fHold_cv {ty : FieldType} {v : Value} (h : fHold ty v = true) (ad : List Nat) : narrow ty (cv ad v) = cv ad v ∧ fits ty (cv ad v) = true := by
  match ty, v, h with
  | .int, .int x, _ => exact ⟨rfl, rfl⟩
  | .boolean, .int x, h =>
    simp only [fHold, Bool.and_eq_true, decide_eq_true_eq] at h
    refine ⟨?_, h.2⟩
    have h1 := h.1
    simp only [vp_nar] at h1
    show narrow .boolean (.int x) = .int x
    cases hn : narrow .boolean (.int x) with
    | int y => rw [hn] at h1; simp only at h1; rw [h1]
    | _ => simp [narrow] at hn
  | .object _, .ref _, _ => exact ⟨rfl, rfl⟩
  | .array _, .ref _, _ => exact ⟨rfl, rfl⟩
section JH
variable {M : MT} {d mc ms : Nat} {Q : Option Value → AH → Prop} {pc : Nat} {lv : List (Option Value)} {st : List Value} {hp : AH} {cs ss : Nat}
theorem J_get {idx ci sl k : Nat} {fs : List Value} {v : Value} (hd : decode M.by pc = .ok (.getfield idx, 3)) (hf : fOk M.cn idx ci sl) (hc : hp[k]? = some (.inr (.inr (ci, fs)))) (hv : fs[sl]? = some v) (kk : J M d mc ms Q (pc + 3) lv (v :: st) hp cs ss) : J M d mc ms Q pc lv (.ref k :: st) hp cs ss := by
  intro p l e s m args below meth c D cA A ad0 x H locs ls hE hl hP hD hS hL
  have K := kk p l e s m args below meth c D cA A ad0 x H locs ls hE hl hP hD hS hL
  obtain ⟨hx, hb, hml, hr, hlk, hown, hts, hK, hA, hnm⟩ := hE
  obtain ⟨C, T, N, h1, h2, h3⟩ := fOk_spec hf
  obtain ⟨hin, -, -⟩ := clsL_ok h1
  exact va_get hx hb hts hin hown hK hP k (conc_get hl hc) h1 sl h2 (hts _ h3) (fun _ h9 => h9) (by rw [List.getElem?_map, hv]; rfl) hd K
theorem J_put {idx ci sl k : Nat} {fs : List Value} {v : Value} (hd : decode M.by pc = .ok (.putfield idx, 3)) (hf : fOk M.cn idx ci sl) (hc : hp[k]? = some (.inr (.inr (ci, fs)))) (hsl : sl < fs.length) (hfin : fFin ci sl = false) (hh : fHold (fTy ci sl) v = true) (kk : J M d mc ms Q (pc + 3) lv st (hp.set k (.inr (.inr (ci, fs.set sl v)))) cs ss) : J M d mc ms Q pc lv (v :: .ref k :: st) hp cs ss := by
  intro p l e s m args below meth c D cA A ad0 x H locs ls hE hl hP hD hS hL
  have hE0 := hE
  obtain ⟨hx, hb, hml, hr, hlk, hown, hts, hK, hA, hnm⟩ := hE
  obtain ⟨C, T, N, h1, h2, h3⟩ := fOk_spec hf
  obtain ⟨hin, hne, ty, ht1, hty⟩ := clsL_ok h1
  have hT : fTy ci sl = ty sl := by unfold fTy; rw [ht1]
  have hF : (T sl).2.2.2 = false := by unfold fFin at hfin; rw [h1] at hfin; exact hfin
  rw [hT] at hh
  obtain ⟨hn, hfit⟩ := fHold_cv hh (ad0 ++ x)
  refine va_put hx hb hts hin ty hty hne hown hK hP hD hS k (conc_get hl hc) h1 sl h2 (hts _ h3) (fun _ h9 => h9) hF (hty sl h2) hn hfit (by rw [List.length_map]; exact hsl) hd (fun H1 locs1 hP1 hD1 hS1 => ?_)
  have e : (conc cA (ad0 ++ x) hp).set k ((ad0 ++ x).getD k 0, .inr (ci, (fs.map (cv (ad0 ++ x))).set sl (cv (ad0 ++ x) v))) = conc cA (ad0 ++ x) (hp.set k (.inr (.inr (ci, fs.set sl v)))) := by
    rw [← conc_set hl hc]
    simp only [jC, List.map_set]
  rw [e] at hP1 hD1
  exact kk p l _ s m args below meth c D cA A ad0 x H1 locs1 ls hE0 (by rw [List.length_set]; exact hl) hP1 hD1 hS1 hL
theorem J_putF {idx ci sl k : Nat} {fs : List Value} {v : Value} (hd : decode M.by pc = .ok (.putfield idx, 3)) (hf : fOk M.cn idx ci sl) (hc : hp[k]? = some (.inr (.inr (ci, fs)))) (hsl : sl < fs.length) (hfin : fFin ci sl = true) (hin2 : M.y.name = "<init>") (hdecl : ∀ C T N, clsL[ci]? = some (C, T, N) → (T sl).1 = cnm M.cn) (hh : fHold (fTy ci sl) v = true) (kk : J M d mc ms Q (pc + 3) lv st (hp.set k (.inr (.inr (ci, fs.set sl v)))) cs ss) : J M d mc ms Q pc lv (v :: .ref k :: st) hp cs ss := by
  intro p l e s m args below meth c D cA A ad0 x H locs ls hE hl hP hD hS hL
  have hE0 := hE
  obtain ⟨hx, hb, hml, hr, hlk, hown, hts, hK, hA, hnm⟩ := hE
  obtain ⟨C, T, N, h1, h2, h3⟩ := fOk_spec hf
  obtain ⟨hin, hne, ty, ht1, hty⟩ := clsL_ok h1
  have hT : fTy ci sl = ty sl := by unfold fTy; rw [ht1]
  have hF : (T sl).2.2.2 = true := by unfold fFin at hfin; rw [h1] at hfin; exact hfin
  rw [hT] at hh
  obtain ⟨hn, hfit⟩ := fHold_cv hh (ad0 ++ x)
  refine va_putF hx hb hts hin ty hty hne hown hK hP hD hS k (conc_get hl hc) h1 sl h2 (hts _ h3) (fun _ h9 => h9) hF (hnm.1.trans hin2) (hdecl C T N h1) (hty sl h2) hn hfit (by rw [List.length_map]; exact hsl) hd (fun H1 locs1 hP1 hD1 hS1 => ?_)
  have e : (conc cA (ad0 ++ x) hp).set k ((ad0 ++ x).getD k 0, .inr (ci, (fs.map (cv (ad0 ++ x))).set sl (cv (ad0 ++ x) v))) = conc cA (ad0 ++ x) (hp.set k (.inr (.inr (ci, fs.set sl v)))) := by
    rw [← conc_set hl hc]
    simp only [jC, List.map_set]
  rw [e] at hP1 hD1
  exact kk p l _ s m args below meth c D cA A ad0 x H1 locs1 ls hE0 (by rw [List.length_set]; exact hl) hP1 hD1 hS1 hL
theorem upd_getD {xs : List Int32} {n : Nat} {y : Int32} (h : n < xs.length) : (upd (fun j => xs.getD j 0) n y) = (fun j => (xs.set n y).getD j 0) := by
  funext j
  rw [List.getD_eq_getElem?_getD]
  by_cases hj : j = n
  · subst hj
    rw [List.getElem?_set_self h]
    simp [upd]
  · rw [List.getElem?_set_ne (Ne.symm hj), ← List.getD_eq_getElem?_getD]
    simp [upd, hj]
theorem J_ald {k : Nat} {xs : List Int32} {i : Int32} (hd : decode M.by pc = .ok (.iaload, 1)) (hc : hp[k]? = some (.inl (.int, xs))) (hi : vp_in i xs.length) (kk : J M d mc ms Q (pc + 1) lv (.int (xs.getD i.toNatClampNeg 0) :: st) hp cs ss) : J M d mc ms Q pc lv (.int i :: .ref k :: st) hp cs ss := by
  intro p l e s m args below meth c D cA A ad0 x H locs ls hE hl hP hD hS hL
  have K := kk p l e s m args below meth c D cA A ad0 x H locs ls hE hl hP hD hS hL
  obtain ⟨hx, hb, hml, hr, hlk, hown, hts, hK, hA, hnm⟩ := hE
  exact va_iald hx hb hK hP k 0 (conc_get hl hc) rfl hi hd K
theorem J_ast {k : Nat} {xs : List Int32} {i y : Int32} (hd : decode M.by pc = .ok (.iastore, 1)) (hc : hp[k]? = some (.inl (.int, xs))) (hi : vp_in i xs.length) (kk : J M d mc ms Q (pc + 1) lv st (hp.set k (.inl (.int, xs.set i.toNatClampNeg y))) cs ss) : J M d mc ms Q pc lv (.int y :: .int i :: .ref k :: st) hp cs ss := by
  intro p l e s m args below meth c D cA A ad0 x H locs ls hE hl hP hD hS hL
  have hE0 := hE
  obtain ⟨hx, hb, hml, hr, hlk, hown, hts, hK, hA, hnm⟩ := hE
  have hlt : i.toNatClampNeg < xs.length := Nat.not_le.mp fun q => hi (Or.inr q)
  refine va_iast hx hb hK hP hD hS k 0 (conc_get hl hc) rfl hi hd (fun H1 locs1 hP1 hD1 hS1 => ?_)
  have e : (conc cA (ad0 ++ x) hp).set k ((ad0 ++ x).getD k 0, .inl (cA .int, xs.length, .inl (upd (fun j => xs.getD j 0) i.toNatClampNeg y))) = conc cA (ad0 ++ x) (hp.set k (.inl (.int, xs.set i.toNatClampNeg y))) := by
    rw [← conc_set hl hc]
    simp only [jC, List.length_set]
    rw [upd_getD hlt]
  rw [e] at hP1 hD1
  exact kk p l _ s m args below meth c D cA A ad0 x H1 locs1 ls hE0 (by rw [List.length_set]; exact hl) hP1 hD1 hS1 hL
theorem J_zald {k : Nat} {xs : List Int32} {i : Int32} (hd : decode M.by pc = .ok (.baload, 1)) (hc : hp[k]? = some (.inl (.boolean, xs))) (hi : vp_in i xs.length) (kk : J M d mc ms Q (pc + 1) lv (.int (xs.getD i.toNatClampNeg 0) :: st) hp cs ss) : J M d mc ms Q pc lv (.int i :: .ref k :: st) hp cs ss := by
  intro p l e s m args below meth c D cA A ad0 x H locs ls hE hl hP hD hS hL
  have K := kk p l e s m args below meth c D cA A ad0 x H locs ls hE hl hP hD hS hL
  obtain ⟨hx, hb, hml, hr, hlk, hown, hts, hK, hA, hnm⟩ := hE
  exact va_zald hx hb hK hP k 1 (conc_get hl hc) rfl hi hd K
theorem J_zast {k : Nat} {xs : List Int32} {i y : Int32} (hd : decode M.by pc = .ok (.bastore, 1)) (hc : hp[k]? = some (.inl (.boolean, xs))) (hi : vp_in i xs.length) (kk : J M d mc ms Q (pc + 1) lv st (hp.set k (.inl (.boolean, xs.set i.toNatClampNeg (vp_nar .boolean y)))) cs ss) : J M d mc ms Q pc lv (.int y :: .int i :: .ref k :: st) hp cs ss := by
  intro p l e s m args below meth c D cA A ad0 x H locs ls hE hl hP hD hS hL
  have hE0 := hE
  obtain ⟨hx, hb, hml, hr, hlk, hown, hts, hK, hA, hnm⟩ := hE
  have hlt : i.toNatClampNeg < xs.length := Nat.not_le.mp fun q => hi (Or.inr q)
  refine va_zast hx hb hK hP hD hS k 1 (conc_get hl hc) rfl hi hd (fun H1 locs1 hP1 hD1 hS1 => ?_)
  have e : (conc cA (ad0 ++ x) hp).set k ((ad0 ++ x).getD k 0, .inl (cA .boolean, xs.length, .inl (upd (fun j => xs.getD j 0) i.toNatClampNeg (vp_nar .boolean y)))) = conc cA (ad0 ++ x) (hp.set k (.inl (.boolean, xs.set i.toNatClampNeg (vp_nar .boolean y)))) := by
    rw [← conc_set hl hc]
    simp only [jC, List.length_set]
    rw [upd_getD hlt]
  rw [e] at hP1 hD1
  exact kk p l _ s m args below meth c D cA A ad0 x H1 locs1 ls hE0 (by rw [List.length_set]; exact hl) hP1 hD1 hS1 hL
theorem J_aald {k r : Nat} {rs : List Nat} {i : Int32} (hd : decode M.by pc = .ok (.aaload, 1)) (hc : hp[k]? = some (.inr (.inl rs))) (hi : vp_in i rs.length) (hr : rs[i.toNatClampNeg]? = some r) (kk : J M d mc ms Q (pc + 1) lv (.ref r :: st) hp cs ss) : J M d mc ms Q pc lv (.int i :: .ref k :: st) hp cs ss := by
  intro p l e s m args below meth c D cA A ad0 x H locs ls hE hl hP hD hS hL
  have K := kk p l e s m args below meth c D cA A ad0 x H locs ls hE hl hP hD hS hL
  obtain ⟨hx, hb, hml, hret, hlk, hown, hts, hK, hA, hnm⟩ := hE
  have hlt : i.toNatClampNeg < rs.length := Nat.not_le.mp fun q => hi (Or.inr q)
  have ha := conc_get (cA := cA) (ad := ad0 ++ x) hl hc
  refine W.aald (v := va_rf ((rs[i.toNatClampNeg]?).map (fun r => (ad0 ++ x).getD r 0))) (ty := .array .int) hx hb (hP k _ ha) ((hK.2 2 _ rfl).1 rs.length (fun j => va_rf ((rs[j]?).map (fun r => (ad0 ++ x).getD r 0)))) rfl (fun q => by cases q) (by show ¬ (i < 0 ∨ (arrV _ _ _).slots.size ≤ _); rw [arrV_size]; exact hi) (by show (arrV _ _ _).slots[_]? = _; rw [arrV_read _ _ hlt]) rfl rfl hd ?_
  rw [hr]
  exact K
theorem J_alen {k : Nat} {xs : List Int32} {v : Int32} (hd : decode M.by pc = .ok (.arraylength, 1)) (hc : hp[k]? = some (.inl (.int, xs))) (hv : Int32.ofNat xs.length = v) (kk : J M d mc ms Q (pc + 1) lv (.int v :: st) hp cs ss) : J M d mc ms Q pc lv (.ref k :: st) hp cs ss := by
  intro p l e s m args below meth c D cA A ad0 x H locs ls hE hl hP hD hS hL
  have K := kk p l e s m args below meth c D cA A ad0 x H locs ls hE hl hP hD hS hL
  obtain ⟨hx, hb, hml, hr, hlk, hown, hts, hK, hA, hnm⟩ := hE
  exact va_alen (x := (xs.length, .inl (fun j => xs.getD j 0))) (ty := .int) hx hb hK hP k 0 (conc_get hl hc) rfl hv hd K
/-! division -/
theorem J_idiv {y z : Int32} (hd : decode M.by pc = .ok (.idiv, 1)) (hy : ¬ y = 0) (kk : J M d mc ms Q (pc + 1) lv (.int (z / y) :: st) hp cs ss) : J M d mc ms Q pc lv (.int y :: .int z :: st) hp cs ss := by
  intro p l e s m args below meth c D cA A ad0 x H locs ls hE hl hP hD hS hL
  exact lv_idiv hE.1 hE.2.1 hd hy (kk p l e s m args below meth c D cA A ad0 x H locs ls hE hl hP hD hS hL)
theorem J_irem {y z : Int32} (hd : decode M.by pc = .ok (.irem, 1)) (hy : ¬ y = 0) (kk : J M d mc ms Q (pc + 1) lv (.int (z - z / y * y) :: st) hp cs ss) : J M d mc ms Q pc lv (.int y :: .int z :: st) hp cs ss := by
  intro p l e s m args below meth c D cA A ad0 x H locs ls hE hl hP hD hS hL
  exact lv_irem hE.1 hE.2.1 hd hy (kk p l e s m args below meth c D cA A ad0 x H locs ls hE hl hP hD hS hL)
theorem J_ldiv {y z : Int64} (hd : decode M.by pc = .ok (.ldiv, 1)) (hy : ¬ y = 0) (kk : J M d mc ms Q (pc + 1) lv (.long (z / y) :: st) hp cs ss) : J M d mc ms Q pc lv (.long y :: .long z :: st) hp cs ss := by
  intro p l e s m args below meth c D cA A ad0 x H locs ls hE hl hP hD hS hL
  exact lv_ldiv hE.1 hE.2.1 hd hy (kk p l e s m args below meth c D cA A ad0 x H locs ls hE hl hP hD hS hL)
theorem J_lrem {y z : Int64} (hd : decode M.by pc = .ok (.lrem, 1)) (hy : ¬ y = 0) (kk : J M d mc ms Q (pc + 1) lv (.long (z - z / y * y) :: st) hp cs ss) : J M d mc ms Q pc lv (.long y :: .long z :: st) hp cs ss := by
  intro p l e s m args below meth c D cA A ad0 x H locs ls hE hl hP hD hS hL
  exact lv_lrem hE.1 hE.2.1 hd hy (kk p l e s m args below meth c D cA A ad0 x H locs ls hE hl hP hD hS hL)
/-! switches -/
def swT (dflt lo hi : Int) (offs : Array Int) (pc : Nat) (x : Int32) : Option Nat := if x.toInt < lo ∨ hi < x.toInt then tgt pc dflt else match offs[(x.toInt - lo).toNat]? with
  | some off => tgt pc off
  | none => none
theorem J_tsw {dflt lo hi : Int} {offs : Array Int} {len t : Nat} {z : Int32} (hd : decode M.by pc = .ok (.tableswitch dflt lo hi offs, len)) (hs : swT dflt lo hi offs pc z = some t) (kk : J M d mc ms Q t lv st hp cs ss) : J M d mc ms Q pc lv (.int z :: st) hp cs ss := by
  intro p l e s m args below meth c D cA A ad0 x H locs ls hE hl hP hD hS hL
  have K := kk p l e s m args below meth c D cA A ad0 x H locs ls hE hl hP hD hS hL
  unfold swT at hs
  split at hs
  · rename_i h
    exact lv_tableOut hE.1 hE.2.1 hd h (tgt_spec hs) K
  · rename_i h
    split at hs
    · rename_i off ho
      exact lv_tableIn hE.1 hE.2.1 hd (fun q => h (Or.inl q)) (fun q => h (Or.inr q)) ho (tgt_spec hs) K
    · cases hs
theorem J_lsw {dflt : Int} {ps : Array (Int × Int)} {len t : Nat} {z : Int32} (hd : decode M.by pc = .ok (.lookupswitch dflt ps, len)) (hp0 : (ps.toList.zip (ps.toList.drop 1)).all (fun (a, next) => a.1 < next.1) = true) (hs : tgt pc (Op.lookupswitch.offset ps.toList dflt z.toInt) = some t) (kk : J M d mc ms Q t lv st hp cs ss) : J M d mc ms Q pc lv (.int z :: st) hp cs ss := by
  intro p l e s m args below meth c D cA A ad0 x H locs ls hE hl hP hD hS hL
  exact lv_lookup hE.1 hE.2.1 hd hp0 rfl (tgt_spec hs) (kk p l e s m args below meth c D cA A ad0 x H locs ls hE hl hP hD hS hL)
/-! constants -/
theorem J_ldc {idx : Nat} {v : Int32} (hd : decode M.by pc = .ok (.ldc idx, 2)) (hw : Jvm.Cond.constant (cnm M.cn) idx v ∈ tb) (kk : J M d mc ms Q (pc + 2) lv (.int v :: st) hp cs ss) : J M d mc ms Q pc lv st hp cs ss := by
  intro p l e s m args below meth c D cA A ad0 x H locs ls hE hl hP hD hS hL
  exact lv_ldc hE.1 hE.2.1 hE.2.2.2.2.2.1 (hE.2.2.2.2.2.2.1 _ hw) hd (kk p l e s m args below meth c D cA A ad0 x H locs ls hE hl hP hD hS hL)
theorem J_ldcw {idx : Nat} {v : Int32} (hd : decode M.by pc = .ok (.ldc_w idx, 3)) (hw : Jvm.Cond.constant (cnm M.cn) idx v ∈ tb) (kk : J M d mc ms Q (pc + 3) lv (.int v :: st) hp cs ss) : J M d mc ms Q pc lv st hp cs ss := by
  intro p l e s m args below meth c D cA A ad0 x H locs ls hE hl hP hD hS hL
  exact lv_ldcw hE.1 hE.2.1 hE.2.2.2.2.2.1 (hE.2.2.2.2.2.2.1 _ hw) hd (kk p l e s m args below meth c D cA A ad0 x H locs ls hE hl hP hD hS hL)
theorem J_ldc2 {idx : Nat} {v : Int64} (hd : decode M.by pc = .ok (.ldc2_w idx, 3)) (hw : Jvm.Cond.constantLong (cnm M.cn) idx v ∈ tb) (kk : J M d mc ms Q (pc + 3) lv (.long v :: st) hp cs ss) : J M d mc ms Q pc lv st hp cs ss := by
  intro p l e s m args below meth c D cA A ad0 x H locs ls hE hl hP hD hS hL
  exact lv_ldc2 hE.1 hE.2.1 hE.2.2.2.2.2.1 (hE.2.2.2.2.2.2.1 _ hw) hd (kk p l e s m args below meth c D cA A ad0 x H locs ls hE hl hP hD hS hL)
/-! the end of a method -/
theorem J_iret {z : Int32} {ty : FieldType} (hd : decode M.by pc = .ok (.ireturn, 1)) (hrt : M.rt = some ty) (hn : narrow ty (.int z) = .int z) (h1 : cs ≤ mc) (h2 : ss ≤ ms) (hQ : Q (some (.int z)) hp) : J M d mc ms Q pc lv [.int z] hp cs ss := by
  intro p l e s m args below meth c D cA A ad0 x H locs ls hE hl hP hD hS hL
  obtain ⟨hx, hb, hml, hr, hlk, hown, hts, hK, hA, hnm⟩ := hE
  refine W.widen h1 h2 ?_
  exact W.zret (ty := ty) hx hb (hr.trans hrt) hn (fun t ht hW => ⟨⟨some (.int z), hp, x, rfl, hQ, hl, by rw [ht]; exact hP, hD, va_K.moved hW.alike hK⟩, hS.F ht⟩) hS.2.2 hd hlk
theorem J_lret {z : Int64} (hd : decode M.by pc = .ok (.lreturn, 1)) (hrt : M.rt = some .long) (h1 : cs ≤ mc) (h2 : ss ≤ ms) (hQ : Q (some (.long z)) hp) : J M d mc ms Q pc lv [.long z] hp cs ss := by
  intro p l e s m args below meth c D cA A ad0 x H locs ls hE hl hP hD hS hL
  obtain ⟨hx, hb, hml, hr, hlk, hown, hts, hK, hA, hnm⟩ := hE
  refine W.widen h1 h2 ?_
  exact W.lret hx hb (hr.trans hrt) (fun t ht hW => ⟨⟨some (.long z), hp, x, rfl, hQ, hl, by rw [ht]; exact hP, hD, va_K.moved hW.alike hK⟩, hS.F ht⟩) hS.2.2 hd hlk
theorem J_aret {k : Nat} {rt : FieldType} (hd : decode M.by pc = .ok (.areturn, 1)) (hrt : M.rt = some rt) (hty : (∃ n, rt = .object n) ∨ ∃ t, rt = .array t) (h1 : cs ≤ mc) (h2 : ss ≤ ms) (hQ : Q (some (.ref k)) hp) : J M d mc ms Q pc lv [.ref k] hp cs ss := by
  intro p l e s m args below meth c D cA A ad0 x H locs ls hE hl hP hD hS hL
  obtain ⟨hx, hb, hml, hr, hlk, hown, hts, hK, hA, hnm⟩ := hE
  refine W.widen h1 h2 ?_
  exact W.aret (rt := rt) hx hb (hr.trans hrt) hty (Or.inr ⟨_, rfl⟩) (fun t ht hW => ⟨⟨some (.ref k), hp, x, rfl, hQ, hl, by rw [ht]; exact hP, hD, va_K.moved hW.alike hK⟩, hS.F ht⟩) hS.2.2 hd hlk
theorem J_vret (hd : decode M.by pc = .ok (.return_, 1)) (hrt : M.rt = none) (h1 : cs ≤ mc) (h2 : ss ≤ ms) (hQ : Q none hp) : J M d mc ms Q pc lv [] hp cs ss := by
  intro p l e s m args below meth c D cA A ad0 x H locs ls hE hl hP hD hS hL
  obtain ⟨hx, hb, hml, hr, hlk, hown, hts, hK, hA, hnm⟩ := hE
  refine W.widen h1 h2 ?_
  exact W.vret hx hb (hr.trans hrt) (fun t ht hW => ⟨⟨none, hp, x, rfl, hQ, hl, by rw [ht]; exact hP, hD, va_K.moved hW.alike hK⟩, hS.F ht⟩) hS.2.2 hd hlk
end JH
theorem fRes_ok {cn idx ci sl w : Nat} (h : fRes cn idx = some (ci, sl, w)) : fOk cn idx ci sl := by
  have h1 := tab_row frB_ok (by decide) h
  unfold fRowB at h1
  split at h1
  · rename_i w9 hw; exact ⟨w9, hw, chkW_in h1⟩
  · cases h1
