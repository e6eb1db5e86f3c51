/-! ===== calls ===== -/
theorem tb_good : ∀ w ∈ tb, (w.onTables && w.keeps) = true ∨ ∃ ty, w = .arrayClass ty := fun _ h => good_of_word (List.mem_filter.mp h).2
def nOk (N : MT) : Prop := Cond.code N.y N.by N.ml N.rt ∈ tb ∧ Cond.initialized N.y.cls ∈ tb ∧ (N.y.cls ≠ "java/lang/invoke/MethodHandle" ∧ N.y.cls ≠ "java/lang/invoke/VarHandle") ∧ N.ml ≤ 20 ∧ plainName N.y.cls = true ∧ N.y.cls = cnm N.cn
theorem mw_good {N : MT} (h : nOk N) : GoodIn tb (mw N) := by
  intro w hw
  have : w ∈ tb := by
    rcases List.mem_cons.mp hw with q | q
    · rw [q]; exact h.1
    · exact q
  exact ⟨this, tb_good w this⟩
section VAJ
variable {p : Program} {l : Launch} {e : Env} {R : Room} {s : State} {m : MethodId} {args : Array Value} {below : List Frame} {meth : Method} {c : Code} {H : Heap} {locs : List Loc} {cells slots : Nat} {Q : State → Prop}
variable {pc : Nat} {ls : Array Slot} {rest st0 : List Value} {a : Array Value} {A0 A1 : Nat → Prop} {H0 : Heap} {mc ms : Nat} {free : Addr → Prop}
theorem va_callJ {D : va_G} {cA : FieldType → ClassId} {ad : List Nat} {Q' : Option Value → AH → Prop} (hr : va_Run p l e R s m args below meth c H locs cells slots mc ms (F0 m pc ls st0) rest (jQ D cA A1 ad Q' a) free) (hS : va_S A0 H0 H locs) (hA : ∀ q, q < H.size → A1 q → A0 q) (hf : ∀ q, free q → A0 q)
    (kk : ∀ (v : Option Value) (hp' : AH) (x' : List Nat) (H1 : Heap) (locs1 : List Loc), Q' v hp' → (ad ++ x').length = hp'.length → va_P D clsL (conc cA (ad ++ x') hp') H1 → va_D A1 (conc cA (ad ++ x') hp') → va_S A0 H0 H1 locs1 → W p l e R s m args below meth c H1 locs1 (cells + mc) (slots + ms) Q (F0 m (pc + 3) ls ((v.map (cv (ad ++ x'))).toList ++ rest))) : W p l e R s m args below meth c H locs cells slots Q (F0 m pc ls st0) := by
  intro T hT X
  obtain ⟨v, st₀, t, T', L, h0, X', hL, e1, e2, ⟨⟨w, hp', x', hv, hq, hl, hP, hD, hK⟩, hz, hk⟩, st⟩ := hr T hT X
  rw [Outcome.returned.injEq] at hv
  subst hv
  rw [h0] at hz hk
  obtain ⟨t2, a1, b1⟩ := kk w hp' x' T'.heap (locs ++ L) hq hl (by rw [e1]; exact hP) hD
    ⟨Nat.le_trans hS.1 (by rw [e1]; exact hz), fun q h1 h2 => by rw [e1, hk q (Nat.lt_of_lt_of_le h1 hS.1) (fun z => h2 (hA q (Nat.lt_of_lt_of_le h1 hS.1) z))]; exact hS.2.1 q h1 h2, fun q hq => by
      rcases List.mem_append.mp hq with h | h
      · exact hS.2.2 q h
      · exact hf _ (hL q h)⟩ T' rfl X'
  exact ⟨t2, st t2 a1, b1⟩
end VAJ
theorem jL_app {nL : Nat} {ad x : List Nat} {lv : List (Option Value)} {ls : Array Slot} (h : jL nL ad lv ls) (hok : okL ad.length lv = true) : jL nL (ad ++ x) lv ls := by
  refine ⟨h.1, h.2.1, h.2.2.1, fun i v hi => ?_⟩
  have := List.all_eq_true.mp hok (some v) (List.mem_of_getElem? hi)
  rw [cv_app this]
  exact h.2.2.2 i v hi
theorem ct_room {N : MT} {d mc ms mc' ms' : Nat} (hN : nOk N) : (rmm d mc' ms').frames + 1 ≤ (rmm (d + 1) mc ms).frames ∧ 8 + (N.ml + 11) + (rmm d mc' ms').locals ≤ (rmm (d + 1) mc ms).locals := by
  refine ⟨Nat.le_refl _, ?_⟩
  have := hN.2.2.2.1
  show 8 + (N.ml + 11) + 39 * d ≤ 39 * (d + 1)
  omega
def cOk (hp : AH) (lv : List (Option Value)) (st : List Value) (Q' : Option Value → AH → Prop) : Prop := (∀ v hp', Q' v hp' → hp'.length = hp.length) ∨ (okL hp.length lv = true ∧ st.all (okV hp.length) = true)
theorem ct_free {cA : FieldType → ClassId} {ad : List Nat} {hp : AH} {A : Nat → Prop} {H0 H : Heap} {locs : List Loc} (hD : va_D A (conc cA ad hp)) (hS : va_S A H0 H locs) (hA : ∀ q, H0.size ≤ q → A q) : ∀ q, va_A (conc cA ad hp) H.size q → A q := by
  intro q h
  rcases h with ⟨k, e, h⟩ | h
  · exact hD.2 k _ h
  · exact hA q (Nat.le_trans hS.1 h)
section JC
variable {M : MT} {d mc ms : Nat} {Q Q' : Option Value → AH → Prop} {pc : Nat} {lv : List (Option Value)} {st : List Value} {hp : AH} {cs ss : Nat} {idx mc' ms' : Nat} {N : MT} {as : List Value}
/-- what is common to the calls: behind the callee the caller goes on -/
theorem J_after {p : Program} {l : Launch} {e : Env} {s : State} {m : MethodId} {args : Array Value} {below : List Frame} {meth : Method} {c : Code} {D : va_G} {cA : FieldType → ClassId} {A : Nat → Prop} {ad0 x : List Nat} {H : Heap} {locs : List Loc} {ls : Array Slot} {a : Array Value} {st0 : List Value}
    (hE : jE M p s m args meth c D cA A) (hl : (ad0 ++ x).length = hp.length) (hD : va_D A (conc cA (ad0 ++ x) hp)) (hS : va_S A s.heap H locs) (hL : jL M.ml (ad0 ++ x) lv ls) (hok : cOk hp lv st Q')
    (hr : va_Run p l e (rmm (d + 1) mc ms) s m args below meth c H locs cs ss mc' ms' (F0 m pc ls st0) (st.map (cv (ad0 ++ x))) (jQ D cA (va_A (conc cA (ad0 ++ x) hp) H.size) (ad0 ++ x) Q' a) (va_A (conc cA (ad0 ++ x) hp) H.size))
    (kk : ∀ v hp', Q' v hp' → J M (d + 1) mc ms Q (pc + 3) lv (v.toList ++ st) hp' (cs + mc') (ss + ms')) : W p l e (rmm (d + 1) mc ms) s m args below meth c H locs cs ss (MQ below (jQ D cA A ad0 Q) args s mc ms A) (F0 m pc ls st0) := by
  have hF := ct_free hD hS hE.2.2.2.2.2.2.2.2.1
  refine va_callJ hr hS (fun q _ h => hF q h) hF (fun v hp' x' H1 locs1 hq hl' hP1 hD1 hS1 => ?_)
  have hlv : jL M.ml ((ad0 ++ x) ++ x') lv ls ∧ (st.map (cv ((ad0 ++ x) ++ x'))) = st.map (cv (ad0 ++ x)) := by
    rcases hok with h | ⟨h1, h2⟩
    · have h3 := h v hp' hq
      have : x' = [] := by
        rw [List.length_append, hl, h3] at hl'
        exact List.eq_nil_of_length_eq_zero (by omega)
      subst this
      rw [List.append_nil]
      exact ⟨hL, rfl⟩
    · rw [← hl] at h1 h2
      exact ⟨jL_app hL h1, map_cv_app h2⟩
  have K := kk v hp' hq p l e s m args below meth c D cA A ad0 (x ++ x') H1 locs1 ls hE (by rw [← List.append_assoc]; exact hl') (by rw [← List.append_assoc]; exact hP1) (by rw [← List.append_assoc]; exact hD1.weaken (fun _ q _ h => hF _ h)) hS1 (by rw [← List.append_assoc]; exact hlv.1)
  rw [← List.append_assoc, List.map_append, hlv.2] at K
  have e2 : (v.map (cv ((ad0 ++ x) ++ x'))).toList = v.toList.map (cv ((ad0 ++ x) ++ x')) := by cases v <;> rfl
  rw [e2]
  exact K
theorem ct_pre {s : State} {H : Heap} {D : va_G} {cA : FieldType → ClassId} {ad : List Nat} {A : Nat → Prop} (hP : va_P D clsL (conc cA ad hp) H) (hD : va_D A (conc cA ad hp)) (hK : va_K D clsL (tysL cA) s) (hX : xN s) : PreS s H (va_Pc (as.map (cv ad)) (fun U => U.heap.size = H.size ∧ va_P D clsL (conc cA ad hp) U.heap ∧ va_K D clsL (tysL cA) U ∧ va_D (fun _ => True) (conc cA ad hp) ∧ xN U)) (as.map (cv ad)) := by
  refine ⟨fun a U g mk q => ?_, fun U hU hW => ⟨rfl, by rw [hU], by rw [hU]; exact hP, va_K.moved hW.alike hK, hD.weaken (fun _ _ _ _ => trivial), xN_warm hW hX⟩⟩
  obtain ⟨q0, q1, qP, qK, qD, qX⟩ := q
  exact ⟨q0, q1, qP, va_K.moved (u := U) (U := U.calling g mk a) (Vm.Alike.refl U.vm) qK, qD, xN_same (u := U) (U := U.calling g mk a) rfl qX⟩
theorem st_room {ls : Array Slot} {m : MethodId} {ad : List Nat} {st0 : List Value} (h : (st.map (fun v => v.category)).sum ≤ 8) : 2 * (F0 m pc ls st0).monitorRoom + ((st.map (cv ad)).map fun v => v.category).sum ≤ 8 := by
  refine lv_room ?_
  have e : (st.map (cv ad)).map (fun v => v.category) = st.map (fun v => v.category) := by
    rw [List.map_map]; exact List.map_congr_left (fun v _ => cv_cat ad v)
  rw [e]; exact h
theorem J_callS (hd : decode M.by pc = .ok (.invokestatic idx, 3)) (hN : nOk N) (hlk : Cond.methodLink (cnm M.cn) idx N.y ∈ tb) (hst : Cond.static N.y ∈ tb) (hnp : np N = some as.length) (hcat : (st.map (fun v => v.category)).sum ≤ 8) (hr1 : cs + mc' ≤ mc) (hr2 : ss + ms' ≤ ms) (hok : cOk hp lv st Q') (C : Ct N d mc' ms' as hp Q')
    (kk : ∀ v hp', Q' v hp' → J M (d + 1) mc ms Q (pc + 3) lv (v.toList ++ st) hp' (cs + mc') (ss + ms')) : J M (d + 1) mc ms Q pc lv (as.reverse ++ st) hp cs ss := by
  intro p l e s m args below meth c D cA A ad0 x H locs ls hE hl hP hD hS hL
  refine J_after (a := (as.map (cv (ad0 ++ x))).toArray) hE hl hD hS hL hok ?_ kk
  obtain ⟨hx, hb, hml, hr, hlo, hown, hts, hK, hA, hnm⟩ := hE
  exact va_runS (Ts := tb) (n := as.length) ⟨hx, hb, hml, hown, hts⟩ (C l D cA (ad0 ++ x) H.size hl) ⟨callB_of as.length hts (mw_good hN) rfl rfl rfl (hts _ hN.2.1) (hts _ hlk) ⟨hN.2.2.1.1, hN.2.2.1.2, hnp⟩ (ct_room hN), hts _ hst⟩ (ct_pre hP hD hK hnm.2) rfl (by simp) hL.2.1 (by simp) (st_room hcat) hd ⟨hr1, hr2⟩
theorem J_callSN {host : String} (hd : decode M.by pc = .ok (.invokestatic idx, 3)) (hN : nOk N) (hlk : Cond.methodLinkNest (cnm M.cn) idx N.y host ∈ lw_tbl) (hst : Cond.static N.y ∈ tb) (hnp : np N = some as.length) (hcat : (st.map (fun v => v.category)).sum ≤ 8) (hr1 : cs + mc' ≤ mc) (hr2 : ss + ms' ≤ ms) (hok : cOk hp lv st Q') (C : Ct N d mc' ms' as hp Q')
    (kk : ∀ v hp', Q' v hp' → J M (d + 1) mc ms Q (pc + 3) lv (v.toList ++ st) hp' (cs + mc') (ss + ms')) : J M (d + 1) mc ms Q pc lv (as.reverse ++ st) hp cs ss := by
  intro p l e s m args below meth c D cA A ad0 x H locs ls hE hl hP hD hS hL
  refine J_after (a := (as.map (cv (ad0 ++ x))).toArray) hE hl hD hS hL hok ?_ kk
  obtain ⟨hx, hb, hml, hr, hlo, hown, hts, hK, hA, hnm⟩ := hE
  have hc : Cond.code N.y N.by N.ml N.rt ∈ mw N := List.mem_cons_self
  refine va_runSN (Ts := tb) (n := as.length) (host := host) ⟨hx, hb, hml, hown, hts⟩ (C l D cA (ad0 ++ x) H.size hl) ⟨⟨⟨rfl, rfl, (ct_room (mc := mc) (ms := ms) (mc' := mc') (ms' := ms') hN).1, (ct_room (mc := mc) (ms := ms) (mc' := mc') (ms' := ms') hN).2, pay_in hts (mw_good hN), hc⟩, hts _ (mw_good hN _ hc).1, hts _ hN.2.1, ⟨hN.2.2.1.1, hN.2.2.1.2⟩, fun sig h => ?_, va_Nw.use rfl (hnm.2.1 _ _ _ _ hlk)⟩, hts _ hst, trivial⟩ (ct_pre hP hD hK hnm.2) rfl (by simp) hL.2.1 (by simp) (st_room hcat) hd ⟨hr1, hr2⟩
  unfold np at hnp
  rw [h] at hnp
  exact (Option.some.inj hnp).symm
theorem J_callV {k ci : Nat} {fs : List Value} (hd : decode M.by pc = .ok (.invokevirtual idx, 3)) (hN : nOk N) (hlk : Cond.methodLink (cnm M.cn) idx N.y ∈ tb) (hin : Cond.instanceMethod N.y ∈ tb) (hse : Cond.selects N.y.cls N.y N.y ∈ tb) (hnp : np N = some as.length) (hc : hp[k]? = some (.inr (.inr (ci, fs)))) (hci : (clsL[ci]?).map (fun q => q.1) = some N.y.cls) (hcat : (st.map (fun v => v.category)).sum ≤ 8) (hr1 : cs + mc' ≤ mc) (hr2 : ss + ms' ≤ ms) (hok : cOk hp lv st Q') (C : Ct N d mc' ms' (.ref k :: as) hp Q')
    (kk : ∀ v hp', Q' v hp' → J M (d + 1) mc ms Q (pc + 3) lv (v.toList ++ st) hp' (cs + mc') (ss + ms')) : J M (d + 1) mc ms Q pc lv (as.reverse ++ .ref k :: st) hp cs ss := by
  intro p l e s m args below meth c D cA A ad0 x H locs ls hE hl hP hD hS hL
  refine J_after (a := (Value.ref ((ad0 ++ x).getD k 0) :: as.map (cv (ad0 ++ x))).toArray) hE hl hD hS hL hok ?_ kk
  obtain ⟨hx, hb, hml, hr, hlo, hown, hts, hK, hA, hnm⟩ := hE
  obtain ⟨q, hq, hq1⟩ := Option.map_eq_some_iff.mp hci
  have hrecv := va_recv hK hP hq (conc_get hl hc)
  rw [hq1] at hrecv
  have hpre := ct_pre (as := .ref k :: as) hP hD hK hnm.2
  exact va_runV (Ts := tb) (n := as.length) (C := N.y.cls) (b := (ad0 ++ x).getD k 0) (As := as.map (cv (ad0 ++ x))) ⟨hx, hb, hml, hown, hts⟩ (C l D cA (ad0 ++ x) H.size hl) ⟨callB_of as.length hts (mw_good hN) rfl rfl rfl (hts _ hN.2.1) (hts _ hlk) ⟨hN.2.2.1.1, hN.2.2.1.2, hnp⟩ (ct_room hN), hts _ hin, hts _ hse⟩ ⟨hpre.1, hrecv, hpre.2⟩ rfl (by simp) hL.2.1 (by simp [cv]) (st_room hcat) hd ⟨hr1, hr2⟩
theorem J_callI {k : Nat} (hd : decode M.by pc = .ok (.invokespecial idx, 3)) (hN : nOk N) (hrt : N.rt = none) (hlk : Cond.methodLink (cnm M.cn) idx N.y ∈ tb) (hin : Cond.instanceMethod N.y ∈ tb) (hy1 : N.y.name = "<init>") (hnp : np N = some as.length) (hcat : (st.map (fun v => v.category)).sum ≤ 8) (hr1 : cs + mc' ≤ mc) (hr2 : ss + ms' ≤ ms) (hok : cOk hp lv st Q') (C : Ct N d mc' ms' (.ref k :: as) hp Q')
    (kk : ∀ v hp', Q' v hp' → J M (d + 1) mc ms Q (pc + 3) lv (v.toList ++ st) hp' (cs + mc') (ss + ms')) : J M (d + 1) mc ms Q pc lv (as.reverse ++ .ref k :: st) hp cs ss := by
  intro p l e s m args below meth c D cA A ad0 x H locs ls hE hl hP hD hS hL
  refine J_after (a := (Value.ref ((ad0 ++ x).getD k 0) :: as.map (cv (ad0 ++ x))).toArray) hE hl hD hS hL hok ?_ kk
  obtain ⟨hx, hb, hml, hr, hlo, hown, hts, hK, hA, hnm⟩ := hE
  have hpre := ct_pre (as := .ref k :: as) hP hD hK hnm.2
  have hB := callB_of (R := rmm (d + 1) mc ms) (rm := rmm d mc' ms') (own := cnm M.cn) (index := idx) as.length hts (mw_good hN) rfl rfl rfl (hts _ hN.2.1) (hts _ hlk) ⟨hN.2.2.1.1, hN.2.2.1.2, hnp⟩ (ct_room hN)
  rw [hrt] at hB
  exact va_runI (Ts := tb) (n := as.length) (b := (ad0 ++ x).getD k 0) (As := as.map (cv (ad0 ++ x))) ⟨hx, hb, hml, hown, hts⟩ (C l D cA (ad0 ++ x) H.size hl) ⟨hB, hy1, hts _ hin⟩ hpre rfl (by simp) hL.2.1 (by simp [cv]) (st_room hcat) hd ⟨hr1, hr2⟩
theorem J_callIN {k : Nat} {host : String} (hd : decode M.by pc = .ok (.invokespecial idx, 3)) (hN : nOk N) (hrt : N.rt = none) (hlk : Cond.methodLinkNest (cnm M.cn) idx N.y host ∈ lw_tbl) (hin : Cond.instanceMethod N.y ∈ tb) (hy1 : N.y.name = "<init>") (hnp : np N = some as.length) (hcat : (st.map (fun v => v.category)).sum ≤ 8) (hr1 : cs + mc' ≤ mc) (hr2 : ss + ms' ≤ ms) (hok : cOk hp lv st Q') (C : Ct N d mc' ms' (.ref k :: as) hp Q')
    (kk : ∀ v hp', Q' v hp' → J M (d + 1) mc ms Q (pc + 3) lv (v.toList ++ st) hp' (cs + mc') (ss + ms')) : J M (d + 1) mc ms Q pc lv (as.reverse ++ .ref k :: st) hp cs ss := by
  intro p l e s m args below meth c D cA A ad0 x H locs ls hE hl hP hD hS hL
  refine J_after (a := (Value.ref ((ad0 ++ x).getD k 0) :: as.map (cv (ad0 ++ x))).toArray) hE hl hD hS hL hok ?_ kk
  obtain ⟨hx, hb, hml, hr, hlo, hown, hts, hK, hA, hnm⟩ := hE
  have hpre := ct_pre (as := .ref k :: as) hP hD hK hnm.2
  have hc : Cond.code N.y N.by N.ml none ∈ mw N := by rw [← hrt]; exact List.mem_cons_self
  refine va_runIN (Ts := tb) (n := as.length) (host := host) (b := (ad0 ++ x).getD k 0) (As := as.map (cv (ad0 ++ x))) ⟨hx, hb, hml, hown, hts⟩ (C l D cA (ad0 ++ x) H.size hl) ⟨⟨⟨rfl, rfl, (ct_room (mc := mc) (ms := ms) (mc' := mc') (ms' := ms') hN).1, (ct_room (mc := mc) (ms := ms) (mc' := mc') (ms' := ms') hN).2, pay_in hts (mw_good hN), hc⟩, hts _ (mw_good hN _ hc).1, hts _ hN.2.1, ⟨hN.2.2.1.1, hN.2.2.1.2⟩, fun sig h => ?_, va_Nw.use rfl (hnm.2.1 _ _ _ _ hlk)⟩, hy1, hts _ hin⟩ hpre rfl (by simp) hL.2.1 (by simp [cv]) (st_room hcat) hd ⟨hr1, hr2⟩
  unfold np at hnp
  rw [h] at hnp
  exact (Option.some.inj hnp).symm
theorem J_objI {k : Nat} (hd : decode M.by pc = .ok (.invokespecial idx, 3)) (hlk : Cond.methodLink (cnm M.cn) idx Lib.objectInit ∈ tb) (hin : Cond.instanceMethod Lib.objectInit ∈ tb) (hco : Cond.code Lib.objectInit ⟨#[0xb1]⟩ 1 none ∈ tb) (hcat : (st.map (fun v => v.category)).sum ≤ 8) (kk : J M (d + 1) mc ms Q (pc + 3) lv st hp cs ss) : J M (d + 1) mc ms Q pc lv (.ref k :: st) hp cs ss := by
  intro p l e s m args below meth c D cA A ad0 x H locs ls hE hl hP hD hS hL
  have K := kk p l e s m args below meth c D cA A ad0 x H locs ls hE hl hP hD hS hL
  obtain ⟨hx, hb, hml, hr, hlo, hown, hts, hK, hA, hnm⟩ := hE
  refine W.objInit hx hb hown (hts _ hlk) (hts _ hin) (hts _ hco) rfl (by rw [hml]; exact hL.2.1) (a := (ad0 ++ x).getD k 0) (rest := st.map (cv (ad0 ++ x))) rfl hd (show 1 ≤ d + 1 by omega) ?_ K
  have := st_room (m := m) (ls := ls) (pc := pc) (ad := ad0 ++ x) (st0 := (Value.ref k :: st).map (cv (ad0 ++ x))) hcat
  show _ ≤ 39 * (d + 1)
  omega
/-! arraycopy of ints -/
def cpyL (xs ys : List Int32) (sp dp n : Nat) : List Int32 := (List.range ys.length).map (fun k => if dp ≤ k ∧ k < dp + n then xs.getD (sp + (k - dp)) 0 else ys.getD k 0)
theorem cpyL_length (xs ys : List Int32) (sp dp n : Nat) : (cpyL xs ys sp dp n).length = ys.length := by unfold cpyL; simp
theorem cpyL_fun {xs ys : List Int32} {sp dp n : Nat} (h : dp + n ≤ ys.length) : va_cpy (fun j => xs.getD j 0) (fun j => ys.getD j 0) sp dp n = (fun j => (cpyL xs ys sp dp n).getD j 0) := by
  funext j
  unfold va_cpy cpyL
  rw [List.getD_eq_getElem?_getD (l := List.map _ _), List.getElem?_map]
  by_cases hj : j < ys.length
  · rw [List.getElem?_range hj]; rfl
  · rw [List.getElem?_eq_none (by simp; omega)]
    have h1 : ¬ (dp ≤ j ∧ j < dp + n) := by omega
    rw [if_neg h1]
    show ys.getD j 0 = _
    rw [List.getD_eq_getElem?_getD, List.getElem?_eq_none (by omega)]
    rfl
theorem J_acopy {k0 k1 : Nat} {xs ys : List Int32} {sp dp n : Int32} (hd : decode M.by pc = .ok (.invokestatic idx, 3)) (hlk : Cond.methodLink (cnm M.cn) idx arraycopyName ∈ tb) (hnat : Cond.native arraycopyName ∈ tb) (hst : Cond.static arraycopyName ∈ tb) (hini : Cond.initialized "java/lang/System" ∈ tb) (hc0 : hp[k0]? = some (.inl (.int, xs))) (hc1 : hp[k1]? = some (.inl (.int, ys))) (h1 : ¬ sp < 0) (h2 : ¬ dp < 0) (h3 : ¬ n < 0) (h4 : sp.toNatClampNeg + n.toNatClampNeg ≤ xs.length) (h5 : dp.toNatClampNeg + n.toNatClampNeg ≤ ys.length) (hcat : (st.map (fun v => v.category)).sum ≤ 8)
    (kk : J M (d + 1) mc ms Q (pc + 3) lv st (hp.set k1 (.inl (.int, cpyL xs ys sp.toNatClampNeg dp.toNatClampNeg n.toNatClampNeg))) cs ss) : J M (d + 1) mc ms Q pc lv (.int n :: .int dp :: .ref k1 :: .int sp :: .ref k0 :: st) hp cs ss := by
  intro p l e s m args below meth c D cA A ad0 x H locs ls hE hl hP hD hS hL
  have hE0 := hE
  obtain ⟨hx, hb, hml, hr, hlo, hown, hts, hK, hA, hnm⟩ := hE
  have hcat2 : ((st.map (cv (ad0 ++ x))).map fun v => v.category).sum ≤ 8 := by
    have e : (st.map (cv (ad0 ++ x))).map (fun v => v.category) = st.map (fun v => v.category) := by
      rw [List.map_map]; exact List.map_congr_left (fun v _ => cv_cat _ v)
    rw [e]; exact hcat
  refine va_copyi (ty := .int) hx hb (by rw [hml]; exact hL.2.1.symm) hown (hts _ hlk) (hts _ hnat) (hts _ hst) (hts _ hini) hK hP hD hS k0 k1 0 0 (conc_get hl hc0) (conc_get hl hc1) rfl rfl rfl h1 h2 h3 h4 h5 (fun _ _ => rfl) (show 1 ≤ d + 1 by omega) ?_ hd (fun H1 locs1 hP1 hD1 hS1 => ?_)
  · have hw : nativeFrameWords "java/lang/System" "arraycopy" 5 = 7 := by decide
    rw [hw]
    show _ ≤ 39 * (d + 1)
    omega
  · have e : (conc cA (ad0 ++ x) hp).set k1 ((ad0 ++ x).getD k1 0, .inl (cA .int, ys.length, .inl (va_cpy (fun j => xs.getD j 0) (fun j => ys.getD j 0) sp.toNatClampNeg dp.toNatClampNeg n.toNatClampNeg))) = conc cA (ad0 ++ x) (hp.set k1 (.inl (.int, cpyL xs ys sp.toNatClampNeg dp.toNatClampNeg n.toNatClampNeg))) := by
      rw [← conc_set hl hc1]
      simp only [jC, cpyL_length]
      rw [cpyL_fun h5]
    rw [e] at hP1 hD1
    exact kk p l _ s m args below meth c D cA A ad0 x H1 locs1 ls hE0 (by rw [List.length_set]; exact hl) hP1 hD1 hS1 hL
/-! a contract out of a walk -/
theorem Ct_of_J (hN : nOk N) (hsl : ∀ ad, (lg_sl (as.map (cv ad))).length ≤ N.ml) (h : J N d mc ms Q 0 (entL as N.ml) [] hp 0 0) : Ct N d mc ms as hp Q := by
  intro l D cA ad sz hl
  refine Met.ofW (cc := N.by) (maxL := N.ml) (ret := N.rt) hN.2.2.2.2.1 rfl ?_
  intro p e s m args below meth c s₁ B hml hv
  obtain ⟨rfl, hsz, hP, hK, hD0, hX⟩ := hv
  have hts := atoms_spec (ws := mw N) B.pre
  have hown : s.vm.findClass N.y.cls = some m.cls := findClass_of_methodNamed B.named
  have hnm : meth.name = N.y.name := (name_of_methodNamed B.named B.method).1
  subst hsz
  have hD := hD0.self (sz := s.heap.size)
  rw [lg_entry_eq]
  have K := h p l e s m ((as.map (cv ad)).toArray) below meth c D cA (va_A (conc cA ad hp) s.heap.size) ad [] s.heap [] ((lg_sl (as.map (cv ad)) ++ List.replicate (N.ml - (lg_sl (as.map (cv ad))).length) Slot.unset).toArray)
    ⟨B.exec, B.bytes, hml, B.returns, B.notSynchronized, by rw [← hN.2.2.2.2.2]; exact hown, fun w hw => hts w (List.mem_cons_of_mem _ hw), hK, fun q h => Or.inr h, hnm, hX⟩ (by rw [List.append_nil]; exact hl) (by rw [List.append_nil]; exact hP) (by rw [List.append_nil]; exact hD) va_S.rf (by rw [List.append_nil]; exact jL_ent (hsl ad))
  exact K
end JC
section JMath
variable {M : MT} {d mc ms : Nat} {Q : Option Value → AH → Prop} {pc : Nat} {lv : List (Option Value)} {st : List Value} {hp : AH} {cs ss : Nat} {idx : Nat}
theorem J_min {y z : Int32} (hd : decode M.by pc = .ok (.invokestatic idx, 3)) (hlk : Cond.methodLink (cnm M.cn) idx Lib.Math.min.name ∈ tb) (hst : Cond.static Lib.Math.min.name ∈ tb) (hco : Cond.code Lib.Math.min.name Lib.Math.min.code 2 (some .int) ∈ tb) (hcat : (st.map (fun v => v.category)).sum ≤ 8) (hr1 : cs ≤ mc) (hr2 : ss ≤ ms) (kk : J M (d + 1) mc ms Q (pc + 3) lv (.int (if y < z then y else z) :: st) hp cs ss) : J M (d + 1) mc ms Q pc lv (.int y :: .int z :: st) hp cs ss := by
  intro p l e s m args below meth c D cA A ad0 x H locs ls hE hl hP hD hS hL
  have K := kk p l e s m args below meth c D cA A ad0 x H locs ls hE hl hP hD hS hL
  obtain ⟨hx, hb, hml, hr, hlo, hown, hts, hK, hA, hnm⟩ := hE
  have hcat2 : ((st.map (cv (ad0 ++ x))).map fun v => v.category).sum ≤ 8 := by
    have e : (st.map (cv (ad0 ++ x))).map (fun v => v.category) = st.map (fun v => v.category) := by
      rw [List.map_map]; exact List.map_congr_left (fun v _ => cv_cat _ v)
    rw [e]; exact hcat
  exact va_mmin hx hb (by rw [hml]; exact hL.2.1.symm) hown (hts _ hlk) (hts _ hst) (hts _ wMath_in) (hts _ hco) (show 1 ≤ d + 1 by omega) (show _ ≤ 39 * (d + 1) by omega) hr1 hr2 hd K
theorem J_max {y z : Int32} (hd : decode M.by pc = .ok (.invokestatic idx, 3)) (hlk : Cond.methodLink (cnm M.cn) idx Lib.Math.max.name ∈ tb) (hst : Cond.static Lib.Math.max.name ∈ tb) (hco : Cond.code Lib.Math.max.name Lib.Math.max.code 2 (some .int) ∈ tb) (hcat : (st.map (fun v => v.category)).sum ≤ 8) (hr1 : cs ≤ mc) (hr2 : ss ≤ ms) (kk : J M (d + 1) mc ms Q (pc + 3) lv (.int (if z < y then y else z) :: st) hp cs ss) : J M (d + 1) mc ms Q pc lv (.int y :: .int z :: st) hp cs ss := by
  intro p l e s m args below meth c D cA A ad0 x H locs ls hE hl hP hD hS hL
  have K := kk p l e s m args below meth c D cA A ad0 x H locs ls hE hl hP hD hS hL
  obtain ⟨hx, hb, hml, hr, hlo, hown, hts, hK, hA, hnm⟩ := hE
  have hcat2 : ((st.map (cv (ad0 ++ x))).map fun v => v.category).sum ≤ 8 := by
    have e : (st.map (cv (ad0 ++ x))).map (fun v => v.category) = st.map (fun v => v.category) := by
      rw [List.map_map]; exact List.map_congr_left (fun v _ => cv_cat _ v)
    rw [e]; exact hcat
  exact va_mmax hx hb (by rw [hml]; exact hL.2.1.symm) hown (hts _ hlk) (hts _ hst) (hts _ wMath_in) (hts _ hco) (show 1 ≤ d + 1 by omega) (show _ ≤ 39 * (d + 1) by omega) hr1 hr2 hd K
end JMath
