/-! ===== the abstract heap: cells by number, their addresses in a list ===== -/
abbrev AC : Type := (FieldType × List Int32) ⊕ (List Nat ⊕ (Nat × List Value))
abbrev AH : Type := List AC
def cv (ad : List Nat) (v : Value) : Value := match v with
  | .ref k => .ref (ad.getD k 0)
  | w => w
def jC (cA : FieldType → ClassId) (ad : List Nat) (x : AC) : va_E := match x with
  | .inl (ty, xs) => .inl (cA ty, xs.length, .inl (fun j => xs.getD j 0))
  | .inr (.inl rs) => .inl (cA (.array .int), rs.length, .inr (.inr (.inr (.inr (fun j => (rs[j]?).map (fun r => ad.getD r 0))))))
  | .inr (.inr (ci, fs)) => .inr (ci, fs.map (cv ad))
def conc (cA : FieldType → ClassId) (ad : List Nat) (hp : AH) : va_W := List.zipWith (fun a x => (a, jC cA ad x)) ad hp
theorem conc_get {cA : FieldType → ClassId} {ad : List Nat} {hp : AH} (hl : ad.length = hp.length) {k : Nat} {x : AC} (h : hp[k]? = some x) : (conc cA ad hp)[k]? = some (ad.getD k 0, jC cA ad x) := by
  have hk : k < hp.length := (List.getElem?_eq_some_iff.mp h).1
  have ha : ad[k]? = some (ad.getD k 0) := by
    rw [List.getD_eq_getElem?_getD, List.getElem?_eq_getElem (by omega)]; rfl
  unfold conc
  rw [List.getElem?_zipWith, ha, h]
theorem conc_set {cA : FieldType → ClassId} {ad : List Nat} {hp : AH} (hl : ad.length = hp.length) {k : Nat} {x : AC} (h : hp[k]? = some x) (y : AC) : (conc cA ad hp).set k (ad.getD k 0, jC cA ad y) = conc cA ad (hp.set k y) := by
  have hk : k < hp.length := (List.getElem?_eq_some_iff.mp h).1
  apply List.ext_getElem?
  intro j
  by_cases hj : j = k
  · subst hj
    rw [List.getElem?_set_self (by unfold conc; rw [List.length_zipWith]; omega)]
    rw [conc_get (by rw [List.length_set]; exact hl) (List.getElem?_set_self hk)]
  · rw [List.getElem?_set_ne (Ne.symm hj)]
    unfold conc
    rw [List.getElem?_zipWith, List.getElem?_zipWith, List.getElem?_set_ne (Ne.symm hj)]
theorem conc_length {cA : FieldType → ClassId} {ad : List Nat} {hp : AH} (hl : ad.length = hp.length) : (conc cA ad hp).length = hp.length := by
  unfold conc; rw [List.length_zipWith]; omega
theorem conc_addr {cA : FieldType → ClassId} {ad : List Nat} {hp : AH} (hl : ad.length = hp.length) {k : Nat} {q : Nat × va_E} (h : (conc cA ad hp)[k]? = some q) : ∃ x, hp[k]? = some x ∧ q = (ad.getD k 0, jC cA ad x) := by
  have hk : k < (conc cA ad hp).length := (List.getElem?_eq_some_iff.mp h).1
  rw [conc_length hl] at hk
  have hx : hp[k]? = some hp[k] := List.getElem?_eq_getElem hk
  rw [conc_get hl hx] at h
  exact ⟨_, hx, (Option.some.inj h).symm⟩
/-! references that are there -/
def okV (n : Nat) (v : Value) : Bool := match v with
  | .ref k => decide (k < n)
  | _ => true
def okC (n : Nat) (x : AC) : Bool := match x with
  | .inl _ => true
  | .inr (.inl rs) => rs.all (fun r => decide (r < n))
  | .inr (.inr (_, fs)) => fs.all (okV n)
def okH (hp : AH) : Bool := hp.all (okC hp.length)
def okL (n : Nat) (lv : List (Option Value)) : Bool := lv.all (fun o => match o with
  | some v => okV n v
  | none => true)
theorem getD_app {ad x : List Nat} {k : Nat} (h : k < ad.length) : (ad ++ x).getD k 0 = ad.getD k 0 := by
  rw [List.getD_eq_getElem?_getD, List.getD_eq_getElem?_getD, List.getElem?_append_left h]
theorem cv_app {ad x : List Nat} {v : Value} (h : okV ad.length v = true) : cv (ad ++ x) v = cv ad v := by
  cases v with
  | ref k => simp only [okV, decide_eq_true_eq] at h; simp only [cv]; rw [getD_app h]
  | _ => rfl
theorem map_cv_app {ad x : List Nat} {st : List Value} (h : st.all (okV ad.length) = true) : st.map (cv (ad ++ x)) = st.map (cv ad) := by
  apply List.map_congr_left
  intro v hv
  exact cv_app (List.all_eq_true.mp h v hv)
theorem jC_app {cA : FieldType → ClassId} {ad x : List Nat} {c : AC} (h : okC ad.length c = true) : jC cA (ad ++ x) c = jC cA ad c := by
  match c, h with
  | .inl _, _ => rfl
  | .inr (.inl rs), h =>
    simp only [okC] at h
    simp only [jC]
    have : (fun j : Nat => (rs[j]?).map (fun r => (ad ++ x).getD r 0)) = (fun j : Nat => (rs[j]?).map (fun r => ad.getD r 0)) := by
      funext j
      cases hj : rs[j]? with
      | none => rfl
      | some r =>
        have h1 := List.all_eq_true.mp h r (List.mem_of_getElem? hj)
        simp only [decide_eq_true_eq] at h1
        simp only [Option.map_some]
        rw [getD_app h1]
    rw [this]
  | .inr (.inr (ci, fs)), h =>
    simp only [okC] at h
    simp only [jC]
    rw [map_cv_app h]
theorem conc_app {cA : FieldType → ClassId} {ad x : List Nat} {hp y : AH} (hl : ad.length = hp.length) (h : okH hp = true) : conc cA (ad ++ x) (hp ++ y) = conc cA ad hp ++ List.zipWith (fun a c => (a, jC cA (ad ++ x) c)) x y := by
  unfold conc
  rw [List.zipWith_append hl]
  congr 1
  apply List.ext_getElem?
  intro j
  rw [List.getElem?_zipWith, List.getElem?_zipWith]
  cases h1 : ad[j]? with
  | none => rfl
  | some a =>
    cases h2 : hp[j]? with
    | none => rfl
    | some c =>
      have h3 := List.all_eq_true.mp h c (List.mem_of_getElem? h2)
      rw [← hl] at h3
      show some (a, jC cA (ad ++ x) c) = some (a, jC cA ad c)
      rw [jC_app h3]
/-! ===== rooms ===== -/
def rmm (d mc ms : Nat) : Room := { frames := d, cells := mc, slots := ms, locals := 39 * d }
def tysL (cA : FieldType → ClassId) : List (ClassId × FieldType) := [(cA .int, .int), (cA .boolean, .boolean), (cA (.array .int), .array .int)]
/-- links to a nest mate's private members, and arrays over int arrays: these move with the state -/
def xN (U : State) : Prop := (∀ a i y h, Cond.methodLinkNest a i y h ∈ lw_tbl → va_Nw (.methodLinkNest a i y h) U) ∧ (Cond.arrayOver (.array .int)).before #[] U = true
theorem xO_spec {s : State} (h : (Cond.arrayOver (.array .int)).before #[] s = true) :
    ∃ comp c k, s.vm.findClass (FieldType.array .int).toString = some comp ∧ (s.vm.classes.findIdx? fun (x : Class) => match x.kind with | .array component _ => component == comp | _ => false) = some c ∧ s.vm.classes[c]? = some k ∧ k.kind = .array comp (.array .int) ∧ s.vm.findClass ("[" ++ (FieldType.array .int).toString) = some c := by
  simp only [Cond.before, Cond.holds, Cond.value, beq_iff_eq] at h
  cases hc : s.vm.findClass (FieldType.array .int).toString with
  | none => simp [hc] at h
  | some comp =>
    simp only [hc, Option.bind_some, Option.bind_eq_some_iff, Option.map_eq_some_iff] at h
    obtain ⟨c, hi, k, hk, hb⟩ := h
    obtain ⟨hlt, hp, -⟩ := Array.findIdx?_eq_some_iff_getElem.mp hi
    have hkk : s.vm.classes[c] = k := (Array.getElem?_eq_some_iff.mp hk).2
    rw [hkk] at hp
    cases hkind : k.kind with
    | array component ty =>
      rw [hkind] at hb hp
      simp at hb hp
      exact ⟨comp, c, k, rfl, hi, hk, by rw [hkind, hp, hb.1], hb.2⟩
    | _ => rw [hkind] at hb; simp at hb
theorem xO_moved {u U : State} (hvm : u.vm.Alike U.vm) (h : (Cond.arrayOver (.array .int)).before #[] u = true) : (Cond.arrayOver (.array .int)).before #[] U = true := by
  obtain ⟨comp, c, k, h1, h2, h3, h4, h5⟩ := xO_spec h
  obtain ⟨k', hk', he⟩ := hvm.2.2 _ _ h3
  have hi : (U.vm.classes.findIdx? fun (x : Class) => match x.kind with | .array component _ => component == comp | _ => false) = some c := by
    refine (va_idx_bare U.vm comp).symm.trans ?_
    first | rw [hvm.bare_eq] | rw [← hvm.bare_eq]
    exact (va_idx_bare u.vm comp).trans h2
  have hkind : k'.kind = .array comp (.array .int) := by rw [he]; exact h4
  have f1 : U.vm.findClass (FieldType.array .int).toString = some comp := by rw [hvm.findClass]; exact h1
  have f2 : U.vm.findClass ("[" ++ (FieldType.array .int).toString) = some c := by rw [hvm.findClass]; exact h5
  unfold Cond.before Cond.holds
  simp only [Cond.value]
  rw [f1, Option.bind_some]
  refine (congrArg (fun o : Option Nat => (o.bind (fun c => (U.vm.classes[c]?).map fun (k : Class) => match k.kind with | .array _ ty => decide (ty = FieldType.array .int) && decide (U.vm.findClass ("[" ++ (FieldType.array .int).toString) = some c) | _ => false) == some true)) hi).trans ?_
  simp [hk', hkind, f2]
theorem xN_warm {s U : State} (hW : s.WarmedH U.vm) (h : xN s) : xN U := ⟨fun a i y q hq => va_Nw.warmM hW (h.1 a i y q hq), xO_moved hW.alike h.2⟩
theorem xN_same {u U : State} (hv : u.vm = U.vm) (h : xN u) : xN U := ⟨fun a i y q hq => va_Nw.same rfl hv (h.1 a i y q hq), xO_moved (by rw [hv]; exact Vm.Alike.refl U.vm) h.2⟩
/-- the frame's own facts -/
def jE (M : MT) (p : Program) (s : State) (m : MethodId) (args : Array Value) (meth : Method) (c : Code) (D : va_G) (cA : FieldType → ClassId) (A : Nat → Prop) : Prop :=
  p.tables.exec = Jvm.exec ∧ c.code = M.by ∧ c.maxLocals = M.ml ∧ meth.sig.returnType = M.rt ∧ meth.locks = false ∧ s.vm.findClass (cnm M.cn) = some m.cls ∧ (∀ w ∈ tb, w.before args s = true) ∧ va_K D clsL (tysL cA) s ∧ (∀ q, s.heap.size ≤ q → A q) ∧ meth.name = M.y.name ∧ xN s
def jL (nL : Nat) (ad : List Nat) (lv : List (Option Value)) (ls : Array Slot) : Prop := lv.length = nL ∧ ls.size = nL ∧ lv_wf ls ∧ ∀ (i : Nat) (v : Value), lv[i]? = some (some v) → ls[i]? = some (.val (cv ad v))
def jQ (D : va_G) (cA : FieldType → ClassId) (A : Nat → Prop) (ad0 : List Nat) (Q : Option Value → AH → Prop) : Array Value → State → Outcome → State → Prop := fun _ st o t =>
  (∃ (v : Option Value) (hp : AH) (x : List Nat), o = .returned (v.map (cv (ad0 ++ x))) ∧ Q v hp ∧ (ad0 ++ x).length = hp.length ∧ va_P D clsL (conc cA (ad0 ++ x) hp) t.heap ∧ va_D A (conc cA (ad0 ++ x) hp) ∧ va_K D clsL (tysL cA) t) ∧ va_F A st t
/-- the machine at pc of method M, with locals lv, operands st and heap hp, comes to the method's end with Q -/
def J (M : MT) (d mc ms : Nat) (Q : Option Value → AH → Prop) (pc : Nat) (lv : List (Option Value)) (st : List Value) (hp : AH) (cs ss : Nat) : Prop :=
  ∀ (p : Program) (l : Launch) (e : Env) (s : State) (m : MethodId) (args : Array Value) (below : List Frame) (meth : Method) (c : Code) (D : va_G) (cA : FieldType → ClassId) (A : Nat → Prop) (ad0 x : List Nat) (H : Heap) (locs : List Loc) (ls : Array Slot),
    jE M p s m args meth c D cA A → (ad0 ++ x).length = hp.length → va_P D clsL (conc cA (ad0 ++ x) hp) H → va_D A (conc cA (ad0 ++ x) hp) → va_S A s.heap H locs → jL M.ml (ad0 ++ x) lv ls →
    W p l e (rmm d mc ms) s m args below meth c H locs cs ss (MQ below (jQ D cA A ad0 Q) args s mc ms A) (F0 m pc ls (st.map (cv (ad0 ++ x))))
/-- a method's contract at given arguments and heap -/
def Ct (M : MT) (d mc ms : Nat) (as : List Value) (hp : AH) (Q : Option Value → AH → Prop) : Prop :=
  ∀ (l : Launch) (D : va_G) (cA : FieldType → ClassId) (ad : List Nat) (sz : Nat), ad.length = hp.length →
    Met l M.y (mw M) (rmm d mc ms) (va_Pc (as.map (cv ad)) (fun U => U.heap.size = sz ∧ va_P D clsL (conc cA ad hp) U.heap ∧ va_K D clsL (tysL cA) U ∧ va_D (fun _ => True) (conc cA ad hp) ∧ xN U)) (jQ D cA (va_A (conc cA ad hp) sz) ad Q) mc ms (va_A (conc cA ad hp) sz)
/-! ===== locals ===== -/
def clr1 (lv : List (Option Value)) (i : Nat) : List (Option Value) := match i with
  | 0 => lv
  | j + 1 => match lv[j]? with
    | some (some w) => if w.category == 2 then lv.set j none else lv
    | _ => lv
def st1 (lv : List (Option Value)) (i : Nat) (v : Value) : List (Option Value) := (clr1 lv i).set i (some v)
def st2 (lv : List (Option Value)) (i : Nat) (v : Value) : List (Option Value) := ((clr1 lv i).set i (some v)).set (i + 1) none
def kl (ad : List Nat) (lv : List (Option Value)) : List (Nat × Value) := (List.range lv.length).filterMap (fun j => match lv[j]? with
  | some (some w) => some (j, cv ad w)
  | _ => none)
theorem kl_mem {ad : List Nat} {lv : List (Option Value)} {j : Nat} {w : Value} (h : lv[j]? = some (some w)) : (j, cv ad w) ∈ kl ad lv := by
  unfold kl
  refine List.mem_filterMap.mpr ⟨j, List.mem_range.mpr (List.getElem?_eq_some_iff.mp h).1, ?_⟩
  rw [h]
theorem kl_has {nL : Nat} {ad : List Nat} {lv : List (Option Value)} {ls : Array Slot} (h : jL nL ad lv ls) : lv_has ls nL (kl ad lv) := by
  refine ⟨h.2.1, h.2.2.1, fun q hq => ?_⟩
  unfold kl at hq
  obtain ⟨j, -, hj⟩ := List.mem_filterMap.mp hq
  cases h1 : lv[j]? with
  | none => rw [h1] at hj; cases hj
  | some o =>
    cases o with
    | none => rw [h1] at hj; cases hj
    | some w => rw [h1] at hj; cases hj; exact h.2.2.2 j w h1
theorem cv_cat (ad : List Nat) (v : Value) : (cv ad v).category = v.category := by cases v <;> rfl
theorem clr1_length (lv : List (Option Value)) (i : Nat) : (clr1 lv i).length = lv.length := by
  unfold clr1
  cases i with
  | zero => rfl
  | succ j =>
    simp only
    split
    · split
      · rw [List.length_set]
      · rfl
    · rfl
theorem clr1_get {lv : List (Option Value)} {i j : Nat} {w : Value} (h : (clr1 lv i)[j]? = some (some w)) : lv[j]? = some (some w) ∧ ¬ (j + 1 = i ∧ w.category = 2) := by
  unfold clr1 at h
  cases i with
  | zero => exact ⟨h, fun q => by omega⟩
  | succ k =>
    simp only at h
    split at h
    · rename_i w0 hw
      split at h
      · rename_i hc
        by_cases hjk : j = k
        · subst hjk
          rw [List.getElem?_set_self (List.getElem?_eq_some_iff.mp hw).1] at h
          cases h
        · rw [List.getElem?_set_ne (Ne.symm hjk)] at h
          exact ⟨h, fun q => by omega⟩
      · rename_i hc
        refine ⟨h, fun q => ?_⟩
        have : j = k := by omega
        subst this
        rw [hw] at h
        cases h
        exact hc (by rw [q.2]; rfl)
    · rename_i hw
      refine ⟨h, fun q => ?_⟩
      have : j = k := by omega
      subst this
      exact hw w h
theorem jL_st1 {nL : Nat} {ad : List Nat} {lv : List (Option Value)} {ls ls' : Array Slot} (h : jL nL ad lv ls) {i : Nat} {v : Value} (h' : lv_has ls' nL ((i, cv ad v) :: (kl ad lv).filter (fun q => !(q.1 == i) && !(q.1 + 1 == i && q.2.category == 2)))) : jL nL ad (st1 lv i v) ls' := by
  refine ⟨by unfold st1; rw [List.length_set, clr1_length]; exact h.1, h'.1, h'.2.1, fun j w hj => ?_⟩
  unfold st1 at hj
  by_cases hji : j = i
  · subst hji
    by_cases hl : j < (clr1 lv j).length
    · rw [List.getElem?_set_self hl] at hj
      cases hj
      exact h'.2.2 (j, cv ad v) List.mem_cons_self
    · rw [List.getElem?_eq_none (by rw [List.length_set]; omega)] at hj
      cases hj
  · rw [List.getElem?_set_ne (Ne.symm hji)] at hj
    obtain ⟨h1, h2⟩ := clr1_get hj
    refine h'.2.2 (j, cv ad w) (List.mem_cons_of_mem _ (List.mem_filter.mpr ⟨kl_mem h1, ?_⟩))
    simp only [cv_cat, Bool.and_eq_true, Bool.not_eq_true', beq_eq_false_iff_ne, ne_eq, hji, not_false_eq_true, true_and]
    rw [Bool.and_eq_false_iff]
    by_cases h3 : j + 1 = i
    · right; simp only [beq_eq_false_iff_ne, ne_eq]; exact fun q => h2 ⟨h3, q⟩
    · left; simp only [beq_eq_false_iff_ne, ne_eq]; exact h3
theorem jL_st2 {nL : Nat} {ad : List Nat} {lv : List (Option Value)} {ls ls' : Array Slot} (h : jL nL ad lv ls) {i : Nat} {v : Value} (h' : lv_has ls' nL ((i, cv ad v) :: (kl ad lv).filter (fun q => !(q.1 == i) && (!(q.1 == i + 1) && !(q.1 + 1 == i && q.2.category == 2))))) : jL nL ad (st2 lv i v) ls' := by
  refine ⟨by unfold st2; rw [List.length_set, List.length_set, clr1_length]; exact h.1, h'.1, h'.2.1, fun j w hj => ?_⟩
  unfold st2 at hj
  by_cases hj1 : j = i + 1
  · subst hj1
    by_cases hl : i + 1 < ((clr1 lv i).set i (some v)).length
    · rw [List.getElem?_set_self hl] at hj
      cases hj
    · rw [List.getElem?_eq_none (by rw [List.length_set]; omega)] at hj
      cases hj
  · rw [List.getElem?_set_ne (Ne.symm hj1)] at hj
    by_cases hji : j = i
    · subst hji
      by_cases hl : j < (clr1 lv j).length
      · rw [List.getElem?_set_self hl] at hj
        cases hj
        exact h'.2.2 (j, cv ad v) List.mem_cons_self
      · rw [List.getElem?_eq_none (by rw [List.length_set]; omega)] at hj
        cases hj
    · rw [List.getElem?_set_ne (Ne.symm hji)] at hj
      obtain ⟨h1, h2⟩ := clr1_get hj
      refine h'.2.2 (j, cv ad w) (List.mem_cons_of_mem _ (List.mem_filter.mpr ⟨kl_mem h1, ?_⟩))
      simp only [cv_cat, Bool.and_eq_true, Bool.not_eq_true', beq_eq_false_iff_ne, ne_eq, hji, hj1, not_false_eq_true, true_and]
      rw [Bool.and_eq_false_iff]
      by_cases h3 : j + 1 = i
      · right; simp only [beq_eq_false_iff_ne, ne_eq]; exact fun q => h2 ⟨h3, q⟩
      · left; simp only [beq_eq_false_iff_ne, ne_eq]; exact h3
def entL (as : List Value) (n : Nat) : List (Option Value) := (List.range n).map (fun i => (lv_args 0 as).lookup i)
theorem lookup_mem {l : List (Nat × Value)} {i : Nat} {v : Value} (h : l.lookup i = some v) : (i, v) ∈ l := by
  induction l with
  | nil => cases h
  | cons q l ih =>
    obtain ⟨a, b⟩ := q
    rw [List.lookup_cons] at h
    split at h
    · rename_i hb
      have : i = a := by simpa using hb
      subst this
      cases h
      exact List.mem_cons_self
    · exact List.mem_cons_of_mem _ (ih h)
theorem lv_args_map (ad : List Nat) : ∀ (as : List Value) (i : Nat), lv_args i (as.map (cv ad)) = (lv_args i as).map (fun q => (q.1, cv ad q.2))
  | [], _ => rfl
  | v :: as, i => by
    simp only [List.map_cons, lv_args, cv_cat]
    rw [lv_args_map ad as]
theorem jL_ent {ad : List Nat} {as : List Value} {n : Nat} (h : (lg_sl (as.map (cv ad))).length ≤ n) : jL n ad (entL as n) ((lg_sl (as.map (cv ad)) ++ List.replicate (n - (lg_sl (as.map (cv ad))).length) Slot.unset).toArray) := by
  have h0 := lv_entry (as.map (cv ad)) h
  refine ⟨by unfold entL; simp, h0.1, h0.2.1, fun i v hi => ?_⟩
  unfold entL at hi
  rw [List.getElem?_map] at hi
  cases hr : (List.range n)[i]? with
  | none => rw [hr] at hi; cases hi
  | some j =>
    rw [hr] at hi
    have hij : j = i := by
      have := List.getElem?_eq_some_iff.mp hr
      obtain ⟨h1, h2⟩ := this
      rw [List.getElem_range] at h2
      exact h2.symm
    subst hij
    simp only [Option.map_some, Option.some.injEq] at hi
    refine h0.2.2 (j, cv ad v) ?_
    rw [lv_args_map]
    exact List.mem_map.mpr ⟨(j, v), lookup_mem hi, rfl⟩
/-! ===== steps that touch neither heap nor calls ===== -/
def sto1 (lv : List (Option Value)) (i : Nat) (v : Value) : Option (List (Option Value)) := if i < lv.length then some (st1 lv i v) else none
def sto2 (lv : List (Option Value)) (i : Nat) (v : Value) : Option (List (Option Value)) := if i + 1 < lv.length then some (st2 lv i v) else none
def ldI (lv : List (Option Value)) (i : Nat) : Option Value := match lv[i]? with
  | some (some (.int x)) => some (.int x)
  | _ => none
def ldL (lv : List (Option Value)) (i : Nat) : Option Value := match lv[i]? with
  | some (some (.long x)) => some (.long x)
  | _ => none
def ldA (lv : List (Option Value)) (i : Nat) : Option Value := match lv[i]? with
  | some (some (.ref x)) => some (.ref x)
  | _ => none
def tgt (pc : Nat) (off : Int) : Option Nat := if 0 ≤ (pc : Int) + off then some ((pc : Int) + off).toNat else none
theorem tgt_spec {pc t : Nat} {off : Int} (h : tgt pc off = some t) : (pc : Int) + off = (t : Int) := by
  unfold tgt at h
  split at h
  · cases h; rename_i h1; exact (Int.toNat_of_nonneg h1).symm
  · cases h
def sA (i : Instr) (pc : Nat) (lv : List (Option Value)) (st : List Value) : Option (Nat × List (Option Value) × List Value) := match i with
  | .iconst n => some (pc + 1, lv, .int (Int32.ofInt n) :: st)
  | .bipush n => some (pc + 2, lv, .int (Int8.ofInt n).toInt32 :: st)
  | .sipush n => some (pc + 3, lv, .int (Int16.ofInt n).toInt32 :: st)
  | .lconst n => some (pc + 1, lv, .long (Int64.ofNat (n : Nat)) :: st)
  | .iload_n k => (ldI lv k).map (fun v => (pc + 1, lv, v :: st))
  | .iload k => (ldI lv k).map (fun v => (pc + 2, lv, v :: st))
  | .lload_n k => (ldL lv k).map (fun v => (pc + 1, lv, v :: st))
  | .lload k => (ldL lv k).map (fun v => (pc + 2, lv, v :: st))
  | .aload_n k => (ldA lv k).map (fun v => (pc + 1, lv, v :: st))
  | .aload k => (ldA lv k).map (fun v => (pc + 2, lv, v :: st))
  | .istore_n k => match st with
    | .int x :: r => (sto1 lv k (.int x)).map (fun lv' => (pc + 1, lv', r))
    | _ => none
  | .istore k => match st with
    | .int x :: r => (sto1 lv k (.int x)).map (fun lv' => (pc + 2, lv', r))
    | _ => none
  | .lstore_n k => match st with
    | .long x :: r => (sto2 lv k (.long x)).map (fun lv' => (pc + 1, lv', r))
    | _ => none
  | .lstore k => match st with
    | .long x :: r => (sto2 lv k (.long x)).map (fun lv' => (pc + 2, lv', r))
    | _ => none
  | .astore_n k => match st with
    | .ref x :: r => (sto1 lv k (.ref x)).map (fun lv' => (pc + 1, lv', r))
    | _ => none
  | .astore k => match st with
    | .ref x :: r => (sto1 lv k (.ref x)).map (fun lv' => (pc + 2, lv', r))
    | _ => none
  | .iinc k n => match lv[k]? with
    | some (some (.int x)) => (sto1 lv k (.int (x + Int32.ofInt n))).map (fun lv' => (pc + 3, lv', st))
    | _ => none
  | .iadd => match st with
    | .int y :: .int x :: r => some (pc + 1, lv, .int (x + y) :: r)
    | _ => none
  | .isub => match st with
    | .int y :: .int x :: r => some (pc + 1, lv, .int (x - y) :: r)
    | _ => none
  | .imul => match st with
    | .int y :: .int x :: r => some (pc + 1, lv, .int (x * y) :: r)
    | _ => none
  | .iand => match st with
    | .int y :: .int x :: r => some (pc + 1, lv, .int (x &&& y) :: r)
    | _ => none
  | .ior => match st with
    | .int y :: .int x :: r => some (pc + 1, lv, .int (x ||| y) :: r)
    | _ => none
  | .ixor => match st with
    | .int y :: .int x :: r => some (pc + 1, lv, .int (x ^^^ y) :: r)
    | _ => none
  | .ishl => match st with
    | .int y :: .int x :: r => some (pc + 1, lv, .int (x <<< (y &&& 31)) :: r)
    | _ => none
  | .ishr => match st with
    | .int y :: .int x :: r => some (pc + 1, lv, .int (x >>> (y &&& 31)) :: r)
    | _ => none
  | .iushr => match st with
    | .int y :: .int x :: r => some (pc + 1, lv, .int (x.toUInt32 >>> (y.toUInt32 &&& Int32.toUInt32 31)).toInt32 :: r)
    | _ => none
  | .ineg => match st with
    | .int x :: r => some (pc + 1, lv, .int (-x) :: r)
    | _ => none
  | .ladd => match st with
    | .long y :: .long x :: r => some (pc + 1, lv, .long (x + y) :: r)
    | _ => none
  | .lsub => match st with
    | .long y :: .long x :: r => some (pc + 1, lv, .long (x - y) :: r)
    | _ => none
  | .lmul => match st with
    | .long y :: .long x :: r => some (pc + 1, lv, .long (x * y) :: r)
    | _ => none
  | .land => match st with
    | .long y :: .long x :: r => some (pc + 1, lv, .long (x &&& y) :: r)
    | _ => none
  | .lshl => match st with
    | .int y :: .long x :: r => some (pc + 1, lv, .long (x <<< (y.toInt64 &&& 63)) :: r)
    | _ => none
  | .lshr => match st with
    | .int y :: .long x :: r => some (pc + 1, lv, .long (x >>> (y.toInt64 &&& 63)) :: r)
    | _ => none
  | .lcmp => match st with
    | .long y :: .long x :: r => some (pc + 1, lv, .int (lg_cmp x y) :: r)
    | _ => none
  | .i2l => match st with
    | .int x :: r => some (pc + 1, lv, .long x.toInt64 :: r)
    | _ => none
  | .i2b => match st with
    | .int x :: r => some (pc + 1, lv, .int x.toInt8.toInt32 :: r)
    | _ => none
  | .i2s => match st with
    | .int x :: r => some (pc + 1, lv, .int x.toInt16.toInt32 :: r)
    | _ => none
  | .dup => match st with
    | v :: r => if v.category == 1 then some (pc + 1, lv, v :: v :: r) else none
    | _ => none
  | .dup2 => match st with
    | v :: w :: r => if v.category == 1 && w.category == 1 then some (pc + 1, lv, v :: w :: v :: w :: r) else none
    | _ => none
  | .pop => match st with
    | v :: r => if v.category == 1 then some (pc + 1, lv, r) else none
    | _ => none
  | .goto off => (tgt pc off).map (fun t => (t, lv, st))
  | _ => none
def sN (i : Instr) : Nat := match i with
  | .bipush _ => 2
  | .iload _ => 2
  | .lload _ => 2
  | .aload _ => 2
  | .istore _ => 2
  | .lstore _ => 2
  | .astore _ => 2
  | .sipush _ => 3
  | .iinc _ _ => 3
  | .goto _ => 3
  | _ => 1
theorem ldI_spec {lv : List (Option Value)} {i : Nat} {v : Value} (h : ldI lv i = some v) : ∃ x, v = .int x ∧ lv[i]? = some (some (.int x)) := by
  unfold ldI at h
  split at h
  · cases h; rename_i x hx; exact ⟨x, rfl, hx⟩
  · cases h
theorem ldL_spec {lv : List (Option Value)} {i : Nat} {v : Value} (h : ldL lv i = some v) : ∃ x, v = .long x ∧ lv[i]? = some (some (.long x)) := by
  unfold ldL at h
  split at h
  · cases h; rename_i x hx; exact ⟨x, rfl, hx⟩
  · cases h
theorem ldA_spec {lv : List (Option Value)} {i : Nat} {v : Value} (h : ldA lv i = some v) : ∃ x, v = .ref x ∧ lv[i]? = some (some (.ref x)) := by
  unfold ldA at h
  split at h
  · cases h; rename_i x hx; exact ⟨x, rfl, hx⟩
  · cases h
theorem sto1_spec {lv lv' : List (Option Value)} {i : Nat} {v : Value} (h : sto1 lv i v = some lv') : i < lv.length ∧ lv' = st1 lv i v := by
  unfold sto1 at h
  split at h
  · cases h; rename_i h1; exact ⟨h1, rfl⟩
  · cases h
theorem sto2_spec {lv lv' : List (Option Value)} {i : Nat} {v : Value} (h : sto2 lv i v = some lv') : i + 1 < lv.length ∧ lv' = st2 lv i v := by
  unfold sto2 at h
  split at h
  · cases h; rename_i h1; exact ⟨h1, rfl⟩
  · cases h
section JS
variable {M : MT} {d mc ms : Nat} {Q : Option Value → AH → Prop} {pc pc' : Nat} {lv lv' : List (Option Value)} {st st' : List Value} {hp : AH} {cs ss : Nat} {i : Instr}
theorem J_s (hd : decode M.by pc = .ok (i, sN i)) (hs : sA i pc lv st = some (pc', lv', st')) (k : J M d mc ms Q pc' lv' st' hp cs ss) : J M d mc ms Q pc lv st hp cs ss := by
  intro p l e s m args below meth c D cA A ad0 x H locs ls hE hl hP hD hS hL
  have hx := hE.1
  have hb := hE.2.1
  have K := fun ls' (hL' : jL M.ml (ad0 ++ x) lv' ls') => k p l e s m args below meth c D cA A ad0 x H locs ls' hE hl hP hD hS hL'
  cases i with
  | iconst n => cases hs; exact lv_iconst hx hb hd rfl (K ls hL)
  | bipush n => cases hs; exact lv_bipush hx hb hd rfl (K ls hL)
  | sipush n => cases hs; exact lv_sipush hx hb hd rfl (K ls hL)
  | lconst n => cases hs; exact lv_lconst hx hb hd rfl (K ls hL)
  | iload_n k =>
    obtain ⟨v, hv, he⟩ := Option.map_eq_some_iff.mp hs
    cases he
    obtain ⟨y, rfl, hy⟩ := ldI_spec hv
    exact lv_iload_n hx hb hd rfl (hL.2.2.2 _ _ hy) (K ls hL)
  | iload k =>
    obtain ⟨v, hv, he⟩ := Option.map_eq_some_iff.mp hs
    cases he
    obtain ⟨y, rfl, hy⟩ := ldI_spec hv
    exact lv_iload hx hb hd (hL.2.2.2 _ _ hy) (K ls hL)
  | lload_n k =>
    obtain ⟨v, hv, he⟩ := Option.map_eq_some_iff.mp hs
    cases he
    obtain ⟨y, rfl, hy⟩ := ldL_spec hv
    exact lv_lload_n hx hb hd rfl (hL.2.2.2 _ _ hy) (K ls hL)
  | lload k =>
    obtain ⟨v, hv, he⟩ := Option.map_eq_some_iff.mp hs
    cases he
    obtain ⟨y, rfl, hy⟩ := ldL_spec hv
    exact lv_lload hx hb hd (hL.2.2.2 _ _ hy) (K ls hL)
  | aload_n k =>
    obtain ⟨v, hv, he⟩ := Option.map_eq_some_iff.mp hs
    cases he
    obtain ⟨y, rfl, hy⟩ := ldA_spec hv
    exact lv_aload_n hx hb hd rfl (hL.2.2.2 _ _ hy) (K ls hL)
  | aload k =>
    obtain ⟨v, hv, he⟩ := Option.map_eq_some_iff.mp hs
    cases he
    obtain ⟨y, rfl, hy⟩ := ldA_spec hv
    exact lv_aload hx hb hd (hL.2.2.2 _ _ hy) (K ls hL)
  | istore_n k =>
    simp only [sA] at hs
    split at hs
    · obtain ⟨lv1, hv, he⟩ := Option.map_eq_some_iff.mp hs
      cases he
      obtain ⟨h1, rfl⟩ := sto1_spec hv
      exact lv_istore_n hx hb hd rfl (kl_has hL) (by rw [← hL.1]; exact h1) rfl (fun ls' h' => K ls' (jL_st1 hL h'))
    · cases hs
  | istore k =>
    simp only [sA] at hs
    split at hs
    · obtain ⟨lv1, hv, he⟩ := Option.map_eq_some_iff.mp hs
      cases he
      obtain ⟨h1, rfl⟩ := sto1_spec hv
      exact lv_istore hx hb hd (kl_has hL) (by rw [← hL.1]; exact h1) rfl (fun ls' h' => K ls' (jL_st1 hL h'))
    · cases hs
  | astore_n k =>
    simp only [sA] at hs
    split at hs
    · obtain ⟨lv1, hv, he⟩ := Option.map_eq_some_iff.mp hs
      cases he
      obtain ⟨h1, rfl⟩ := sto1_spec hv
      exact lv_astore_n hx hb hd rfl (kl_has hL) (by rw [← hL.1]; exact h1) rfl (fun ls' h' => K ls' (jL_st1 hL h'))
    · cases hs
  | astore k =>
    simp only [sA] at hs
    split at hs
    · obtain ⟨lv1, hv, he⟩ := Option.map_eq_some_iff.mp hs
      cases he
      obtain ⟨h1, rfl⟩ := sto1_spec hv
      exact lv_astore hx hb hd (kl_has hL) (by rw [← hL.1]; exact h1) rfl (fun ls' h' => K ls' (jL_st1 hL h'))
    · cases hs
  | lstore_n k =>
    simp only [sA] at hs
    split at hs
    · obtain ⟨lv1, hv, he⟩ := Option.map_eq_some_iff.mp hs
      cases he
      obtain ⟨h1, rfl⟩ := sto2_spec hv
      exact lv_lstore_n hx hb hd rfl (kl_has hL) (by rw [← hL.1]; exact h1) rfl (fun ls' h' => K ls' (jL_st2 hL h'))
    · cases hs
  | lstore k =>
    simp only [sA] at hs
    split at hs
    · obtain ⟨lv1, hv, he⟩ := Option.map_eq_some_iff.mp hs
      cases he
      obtain ⟨h1, rfl⟩ := sto2_spec hv
      exact lv_lstore hx hb hd (kl_has hL) (by rw [← hL.1]; exact h1) rfl (fun ls' h' => K ls' (jL_st2 hL h'))
    · cases hs
  | iinc k n =>
    simp only [sA] at hs
    split at hs
    · rename_i y hy
      obtain ⟨lv1, hv, he⟩ := Option.map_eq_some_iff.mp hs
      cases he
      obtain ⟨h1, rfl⟩ := sto1_spec hv
      obtain ⟨q, hq⟩ := List.getElem?_of_mem (kl_mem (ad := ad0 ++ x) hy)
      exact lv_iinc hx hb hd (kl_has hL) hq rfl (by rw [← hL.1]; exact h1) rfl (fun ls' h' => K ls' (jL_st1 hL h'))
    · cases hs
  | iadd => simp only [sA] at hs; split at hs <;> cases hs; exact lv_iadd hx hb hd (K ls hL)
  | isub => simp only [sA] at hs; split at hs <;> cases hs; exact lv_isub hx hb hd (K ls hL)
  | imul => simp only [sA] at hs; split at hs <;> cases hs; exact lv_imul hx hb hd (K ls hL)
  | iand => simp only [sA] at hs; split at hs <;> cases hs; exact lv_iand hx hb hd (K ls hL)
  | ior => simp only [sA] at hs; split at hs <;> cases hs; exact lv_ior hx hb hd (K ls hL)
  | ixor => simp only [sA] at hs; split at hs <;> cases hs; exact lv_ixor hx hb hd (K ls hL)
  | ishl => simp only [sA] at hs; split at hs <;> cases hs; exact lv_ishl hx hb hd (K ls hL)
  | ishr => simp only [sA] at hs; split at hs <;> cases hs; exact lv_ishr hx hb hd (K ls hL)
  | iushr => simp only [sA] at hs; split at hs <;> cases hs; exact lv_iushr hx hb hd rfl (K ls hL)
  | ineg => simp only [sA] at hs; split at hs <;> cases hs; exact lv_ineg hx hb hd (K ls hL)
  | ladd => simp only [sA] at hs; split at hs <;> cases hs; exact lv_ladd hx hb hd (K ls hL)
  | lsub => simp only [sA] at hs; split at hs <;> cases hs; exact lv_lsub hx hb hd (K ls hL)
  | lmul => simp only [sA] at hs; split at hs <;> cases hs; exact lv_lmul hx hb hd (K ls hL)
  | land => simp only [sA] at hs; split at hs <;> cases hs; exact lv_land hx hb hd (K ls hL)
  | lshl => simp only [sA] at hs; split at hs <;> cases hs; exact lv_lshl hx hb hd rfl (K ls hL)
  | lshr => simp only [sA] at hs; split at hs <;> cases hs; exact lv_lshr hx hb hd rfl (K ls hL)
  | lcmp => simp only [sA] at hs; split at hs <;> cases hs; exact W.lcmp hx hb hd (K ls hL)
  | i2l => simp only [sA] at hs; split at hs <;> cases hs; exact lv_i2l hx hb hd rfl (K ls hL)
  | i2b => simp only [sA] at hs; split at hs <;> cases hs; exact lv_i2b hx hb hd rfl (K ls hL)
  | i2s => simp only [sA] at hs; split at hs <;> cases hs; exact lv_i2s hx hb hd rfl (K ls hL)
  | dup =>
    simp only [sA] at hs
    split at hs
    · split at hs
      · cases hs; rename_i hc; exact lv_dup hx hb hd (by rw [cv_cat]; simpa using hc) (K ls hL)
      · cases hs
    · cases hs
  | dup2 =>
    simp only [sA] at hs
    split at hs
    · split at hs
      · cases hs; rename_i hc
        rw [Bool.and_eq_true] at hc
        exact lv_dup2_11 hx hb hd (by rw [cv_cat]; simpa using hc.1) (by rw [cv_cat]; simpa using hc.2) (K ls hL)
      · cases hs
    · cases hs
  | pop =>
    simp only [sA] at hs
    split at hs
    · split at hs
      · cases hs; rename_i v hc; exact lv_pop (va := cv (ad0 ++ x) v) hx hb hd (by rw [cv_cat]; simpa using hc) (K ls hL)
      · cases hs
    · cases hs
  | goto off =>
    obtain ⟨t, ht, he⟩ := Option.map_eq_some_iff.mp hs
    cases he
    exact lv_goto hx hb hd (tgt_spec ht) (K ls hL)
  | _ => cases hs
/-! branches -/
def cmpB (c : Jvm.ClassFile.Cond) (x y : Int32) : Bool := match c with
  | .eq => decide (x = y)
  | .ne => decide (¬ x = y)
  | .lt => decide (x < y)
  | .ge => decide (y ≤ x)
  | .gt => decide (y < x)
  | .le => decide (x ≤ y)
def bA (i : Instr) (pc : Nat) (st : List Value) : Option (Bool × Nat × List Value) := match i with
  | .ifCond c off => match st with
    | .int x :: r => (tgt pc off).map (fun t => (cmpB c x 0, t, r))
    | _ => none
  | .if_icmp c off => match st with
    | .int y :: .int x :: r => (tgt pc off).map (fun t => (cmpB c x y, t, r))
    | _ => none
  | _ => none
theorem J_b {b : Bool} {t : Nat} (hd : decode M.by pc = .ok (i, 3)) (hs : bA i pc st = some (b, t, st')) (kt : b = true → J M d mc ms Q t lv st' hp cs ss) (kf : b = false → J M d mc ms Q (pc + 3) lv st' hp cs ss) : J M d mc ms Q pc lv st hp cs ss := by
  intro p l e s m args below meth c D cA A ad0 x H locs ls hE hl hP hD hS hL
  have hx := hE.1
  have hb := hE.2.1
  have Kt := fun h => kt h p l e s m args below meth c D cA A ad0 x H locs ls hE hl hP hD hS hL
  have Kf := fun h => kf h p l e s m args below meth c D cA A ad0 x H locs ls hE hl hP hD hS hL
  cases i with
  | ifCond cd off =>
    simp only [bA] at hs
    split at hs
    · obtain ⟨t1, ht, he⟩ := Option.map_eq_some_iff.mp hs
      cases he
      have ht := tgt_spec ht
      cases cd
      · exact lv_if_eq hx hb hd ht (fun h => Kt (decide_eq_true h)) (fun h => Kf (decide_eq_false h))
      · exact lv_if_ne hx hb hd ht (fun h => Kt (decide_eq_true h)) (fun h => Kf (decide_eq_false (fun q => q h)))
      · exact lv_if_lt hx hb hd ht (fun h => Kt (decide_eq_true h)) (fun h => Kf (decide_eq_false h))
      · exact lv_if_ge hx hb hd ht (fun h => Kt (decide_eq_true h)) (fun h => Kf (decide_eq_false h))
      · exact lv_if_gt hx hb hd ht (fun h => Kt (decide_eq_true h)) (fun h => Kf (decide_eq_false h))
      · exact lv_if_le hx hb hd ht (fun h => Kt (decide_eq_true h)) (fun h => Kf (decide_eq_false h))
    · cases hs
  | if_icmp cd off =>
    simp only [bA] at hs
    split at hs
    · obtain ⟨t1, ht, he⟩ := Option.map_eq_some_iff.mp hs
      cases he
      have ht := tgt_spec ht
      cases cd
      · exact lv_icmp_eq hx hb hd ht (fun h => Kt (decide_eq_true h)) (fun h => Kf (decide_eq_false h))
      · exact lv_icmp_ne hx hb hd ht (fun h => Kt (decide_eq_true h)) (fun h => Kf (decide_eq_false (fun q => q h)))
      · exact lv_icmp_lt hx hb hd ht (fun h => Kt (decide_eq_true h)) (fun h => Kf (decide_eq_false h))
      · exact lv_icmp_ge hx hb hd ht (fun h => Kt (decide_eq_true h)) (fun h => Kf (decide_eq_false h))
      · exact lv_icmp_gt hx hb hd ht (fun h => Kt (decide_eq_true h)) (fun h => Kf (decide_eq_false h))
      · exact lv_icmp_le hx hb hd ht (fun h => Kt (decide_eq_true h)) (fun h => Kf (decide_eq_false h))
    · cases hs
  | _ => cases hs
end JS
/-! ===== steps over the heap ===== -/
def tyL : List (Nat → FieldType) := [tyX0, tyX1, tyX2, tyX3, tyX4, tyX5, tyX6, tyX7]
theorem clsL_ok {ci : Nat} {C : String} {T : u_T} {N : Nat} (h : clsL[ci]? = some (C, T, N)) : (∀ w ∈ u_ws C T N, w ∈ tb) ∧ (∀ a, a < N → ∀ b, b < N → a ≠ b → (T a).2.1 ≠ (T b).2.1) ∧ ∃ ty : Nat → FieldType, tyL[ci]? = some ty ∧ ∀ k, k < N → parseFieldDescriptor (T k).2.2.1 = some (ty k) := by
  match ci, h with
  | 0, h => cases h; exact ⟨inT0, nmX0, _, rfl, tyX0_ok⟩
  | 1, h => cases h; exact ⟨inT1, nmX1, _, rfl, tyX1_ok⟩
  | 2, h => cases h; exact ⟨inT2, nmX2, _, rfl, tyX2_ok⟩
  | 3, h => cases h; exact ⟨inT3, nmX3, _, rfl, tyX3_ok⟩
  | 4, h => cases h; exact ⟨inT4, nmX4, _, rfl, tyX4_ok⟩
  | 5, h => cases h; exact ⟨inT5, nmX5, _, rfl, tyX5_ok⟩
  | 6, h => cases h; exact ⟨inT6, nmX6, _, rfl, tyX6_ok⟩
  | 7, h => cases h; exact ⟨inT7, nmX7, _, rfl, tyX7_ok⟩
  | n + 8, h => simp [clsL] at h
def fOk (cn idx ci sl : Nat) : Prop := ∃ w, fW cn idx ci sl = some w ∧ w ∈ tb
theorem fOk_spec {cn idx ci sl : Nat} (h : fOk cn idx ci sl) : ∃ C T N, clsL[ci]? = some (C, T, N) ∧ sl < N ∧ Cond.fieldLink (cnm cn) idx (T sl).1 (T sl).2.1 (T sl).2.2.1 ∈ tb := by
  obtain ⟨w, h1, h2⟩ := h
  unfold fW at h1
  split at h1
  · rename_i C T N hc
    split at h1
    · cases h1; rename_i hs; exact ⟨C, T, N, hc, hs, h2⟩
    · cases h1
  · cases h1
def fTy (ci sl : Nat) : FieldType := match tyL[ci]? with
  | some t => t sl
  | none => .int
def fFin (ci sl : Nat) : Bool := match clsL[ci]? with
  | some (_, T, _) => (T sl).2.2.2
  | none => false
/-- what a field may hold: an int as it is, a boolean 0 or 1, a reference -/
def fHold (ty : FieldType) (v : Value) : Bool := match ty, v with
  | .int, .int _ => true
  | .boolean, .int x => decide (vp_nar .boolean x = x) && fits .boolean (.int x)
  | .object _, .ref _ => true
  | .array _, .ref _ => true
  | _, _ => false
theorem fHold_cv {ty : FieldType} {v : Value} (h : fHold ty v = true) (ad : List Nat) : narrow ty (cv ad v) = cv ad v ∧ fits ty (cv ad v) = true := by
  match ty, v, h with
  | .int, .int x, _ => exact ⟨rfl, rfl⟩
  | .boolean, .int x, h =>
    simp only [fHold, Bool.and_eq_true, decide_eq_true_eq] at h
    refine ⟨?_, h.2⟩
    have h1 := h.1
    simp only [vp_nar] at h1
    show narrow .boolean (.int x) = .int x
    cases hn : narrow .boolean (.int x) with
    | int y => rw [hn] at h1; simp only at h1; rw [h1]
    | _ => simp [narrow] at hn
  | .object _, .ref _, _ => exact ⟨rfl, rfl⟩
  | .array _, .ref _, _ => exact ⟨rfl, rfl⟩
section JH
variable {M : MT} {d mc ms : Nat} {Q : Option Value → AH → Prop} {pc : Nat} {lv : List (Option Value)} {st : List Value} {hp : AH} {cs ss : Nat}
theorem J_get {idx ci sl k : Nat} {fs : List Value} {v : Value} (hd : decode M.by pc = .ok (.getfield idx, 3)) (hf : fOk M.cn idx ci sl) (hc : hp[k]? = some (.inr (.inr (ci, fs)))) (hv : fs[sl]? = some v) (kk : J M d mc ms Q (pc + 3) lv (v :: st) hp cs ss) : J M d mc ms Q pc lv (.ref k :: st) hp cs ss := by
  intro p l e s m args below meth c D cA A ad0 x H locs ls hE hl hP hD hS hL
  have K := kk p l e s m args below meth c D cA A ad0 x H locs ls hE hl hP hD hS hL
  obtain ⟨hx, hb, hml, hr, hlk, hown, hts, hK, hA, hnm⟩ := hE
  obtain ⟨C, T, N, h1, h2, h3⟩ := fOk_spec hf
  obtain ⟨hin, -, -⟩ := clsL_ok h1
  exact va_get hx hb hts hin hown hK hP k (conc_get hl hc) h1 sl h2 (hts _ h3) (fun _ h9 => h9) (by rw [List.getElem?_map, hv]; rfl) hd K
theorem J_put {idx ci sl k : Nat} {fs : List Value} {v : Value} (hd : decode M.by pc = .ok (.putfield idx, 3)) (hf : fOk M.cn idx ci sl) (hc : hp[k]? = some (.inr (.inr (ci, fs)))) (hsl : sl < fs.length) (hfin : fFin ci sl = false) (hh : fHold (fTy ci sl) v = true) (kk : J M d mc ms Q (pc + 3) lv st (hp.set k (.inr (.inr (ci, fs.set sl v)))) cs ss) : J M d mc ms Q pc lv (v :: .ref k :: st) hp cs ss := by
  intro p l e s m args below meth c D cA A ad0 x H locs ls hE hl hP hD hS hL
  have hE0 := hE
  obtain ⟨hx, hb, hml, hr, hlk, hown, hts, hK, hA, hnm⟩ := hE
  obtain ⟨C, T, N, h1, h2, h3⟩ := fOk_spec hf
  obtain ⟨hin, hne, ty, ht1, hty⟩ := clsL_ok h1
  have hT : fTy ci sl = ty sl := by unfold fTy; rw [ht1]
  have hF : (T sl).2.2.2 = false := by unfold fFin at hfin; rw [h1] at hfin; exact hfin
  rw [hT] at hh
  obtain ⟨hn, hfit⟩ := fHold_cv hh (ad0 ++ x)
  refine va_put hx hb hts hin ty hty hne hown hK hP hD hS k (conc_get hl hc) h1 sl h2 (hts _ h3) (fun _ h9 => h9) hF (hty sl h2) hn hfit (by rw [List.length_map]; exact hsl) hd (fun H1 locs1 hP1 hD1 hS1 => ?_)
  have e : (conc cA (ad0 ++ x) hp).set k ((ad0 ++ x).getD k 0, .inr (ci, (fs.map (cv (ad0 ++ x))).set sl (cv (ad0 ++ x) v))) = conc cA (ad0 ++ x) (hp.set k (.inr (.inr (ci, fs.set sl v)))) := by
    rw [← conc_set hl hc]
    simp only [jC, List.map_set]
  rw [e] at hP1 hD1
  exact kk p l _ s m args below meth c D cA A ad0 x H1 locs1 ls hE0 (by rw [List.length_set]; exact hl) hP1 hD1 hS1 hL
theorem J_putF {idx ci sl k : Nat} {fs : List Value} {v : Value} (hd : decode M.by pc = .ok (.putfield idx, 3)) (hf : fOk M.cn idx ci sl) (hc : hp[k]? = some (.inr (.inr (ci, fs)))) (hsl : sl < fs.length) (hfin : fFin ci sl = true) (hin2 : M.y.name = "<init>") (hdecl : ∀ C T N, clsL[ci]? = some (C, T, N) → (T sl).1 = cnm M.cn) (hh : fHold (fTy ci sl) v = true) (kk : J M d mc ms Q (pc + 3) lv st (hp.set k (.inr (.inr (ci, fs.set sl v)))) cs ss) : J M d mc ms Q pc lv (v :: .ref k :: st) hp cs ss := by
  intro p l e s m args below meth c D cA A ad0 x H locs ls hE hl hP hD hS hL
  have hE0 := hE
  obtain ⟨hx, hb, hml, hr, hlk, hown, hts, hK, hA, hnm⟩ := hE
  obtain ⟨C, T, N, h1, h2, h3⟩ := fOk_spec hf
  obtain ⟨hin, hne, ty, ht1, hty⟩ := clsL_ok h1
  have hT : fTy ci sl = ty sl := by unfold fTy; rw [ht1]
  have hF : (T sl).2.2.2 = true := by unfold fFin at hfin; rw [h1] at hfin; exact hfin
  rw [hT] at hh
  obtain ⟨hn, hfit⟩ := fHold_cv hh (ad0 ++ x)
  refine va_putF hx hb hts hin ty hty hne hown hK hP hD hS k (conc_get hl hc) h1 sl h2 (hts _ h3) (fun _ h9 => h9) hF (hnm.1.trans hin2) (hdecl C T N h1) (hty sl h2) hn hfit (by rw [List.length_map]; exact hsl) hd (fun H1 locs1 hP1 hD1 hS1 => ?_)
  have e : (conc cA (ad0 ++ x) hp).set k ((ad0 ++ x).getD k 0, .inr (ci, (fs.map (cv (ad0 ++ x))).set sl (cv (ad0 ++ x) v))) = conc cA (ad0 ++ x) (hp.set k (.inr (.inr (ci, fs.set sl v)))) := by
    rw [← conc_set hl hc]
    simp only [jC, List.map_set]
  rw [e] at hP1 hD1
  exact kk p l _ s m args below meth c D cA A ad0 x H1 locs1 ls hE0 (by rw [List.length_set]; exact hl) hP1 hD1 hS1 hL
theorem upd_getD {xs : List Int32} {n : Nat} {y : Int32} (h : n < xs.length) : (upd (fun j => xs.getD j 0) n y) = (fun j => (xs.set n y).getD j 0) := by
  funext j
  rw [List.getD_eq_getElem?_getD]
  by_cases hj : j = n
  · subst hj
    rw [List.getElem?_set_self h]
    simp [upd]
  · rw [List.getElem?_set_ne (Ne.symm hj), ← List.getD_eq_getElem?_getD]
    simp [upd, hj]
theorem J_ald {k : Nat} {xs : List Int32} {i : Int32} (hd : decode M.by pc = .ok (.iaload, 1)) (hc : hp[k]? = some (.inl (.int, xs))) (hi : vp_in i xs.length) (kk : J M d mc ms Q (pc + 1) lv (.int (xs.getD i.toNatClampNeg 0) :: st) hp cs ss) : J M d mc ms Q pc lv (.int i :: .ref k :: st) hp cs ss := by
  intro p l e s m args below meth c D cA A ad0 x H locs ls hE hl hP hD hS hL
  have K := kk p l e s m args below meth c D cA A ad0 x H locs ls hE hl hP hD hS hL
  obtain ⟨hx, hb, hml, hr, hlk, hown, hts, hK, hA, hnm⟩ := hE
  exact va_iald hx hb hK hP k 0 (conc_get hl hc) rfl hi hd K
theorem J_ast {k : Nat} {xs : List Int32} {i y : Int32} (hd : decode M.by pc = .ok (.iastore, 1)) (hc : hp[k]? = some (.inl (.int, xs))) (hi : vp_in i xs.length) (kk : J M d mc ms Q (pc + 1) lv st (hp.set k (.inl (.int, xs.set i.toNatClampNeg y))) cs ss) : J M d mc ms Q pc lv (.int y :: .int i :: .ref k :: st) hp cs ss := by
  intro p l e s m args below meth c D cA A ad0 x H locs ls hE hl hP hD hS hL
  have hE0 := hE
  obtain ⟨hx, hb, hml, hr, hlk, hown, hts, hK, hA, hnm⟩ := hE
  have hlt : i.toNatClampNeg < xs.length := Nat.not_le.mp fun q => hi (Or.inr q)
  refine va_iast hx hb hK hP hD hS k 0 (conc_get hl hc) rfl hi hd (fun H1 locs1 hP1 hD1 hS1 => ?_)
  have e : (conc cA (ad0 ++ x) hp).set k ((ad0 ++ x).getD k 0, .inl (cA .int, xs.length, .inl (upd (fun j => xs.getD j 0) i.toNatClampNeg y))) = conc cA (ad0 ++ x) (hp.set k (.inl (.int, xs.set i.toNatClampNeg y))) := by
    rw [← conc_set hl hc]
    simp only [jC, List.length_set]
    rw [upd_getD hlt]
  rw [e] at hP1 hD1
  exact kk p l _ s m args below meth c D cA A ad0 x H1 locs1 ls hE0 (by rw [List.length_set]; exact hl) hP1 hD1 hS1 hL
theorem J_zald {k : Nat} {xs : List Int32} {i : Int32} (hd : decode M.by pc = .ok (.baload, 1)) (hc : hp[k]? = some (.inl (.boolean, xs))) (hi : vp_in i xs.length) (kk : J M d mc ms Q (pc + 1) lv (.int (xs.getD i.toNatClampNeg 0) :: st) hp cs ss) : J M d mc ms Q pc lv (.int i :: .ref k :: st) hp cs ss := by
  intro p l e s m args below meth c D cA A ad0 x H locs ls hE hl hP hD hS hL
  have K := kk p l e s m args below meth c D cA A ad0 x H locs ls hE hl hP hD hS hL
  obtain ⟨hx, hb, hml, hr, hlk, hown, hts, hK, hA, hnm⟩ := hE
  exact va_zald hx hb hK hP k 1 (conc_get hl hc) rfl hi hd K
theorem J_zast {k : Nat} {xs : List Int32} {i y : Int32} (hd : decode M.by pc = .ok (.bastore, 1)) (hc : hp[k]? = some (.inl (.boolean, xs))) (hi : vp_in i xs.length) (kk : J M d mc ms Q (pc + 1) lv st (hp.set k (.inl (.boolean, xs.set i.toNatClampNeg (vp_nar .boolean y)))) cs ss) : J M d mc ms Q pc lv (.int y :: .int i :: .ref k :: st) hp cs ss := by
  intro p l e s m args below meth c D cA A ad0 x H locs ls hE hl hP hD hS hL
  have hE0 := hE
  obtain ⟨hx, hb, hml, hr, hlk, hown, hts, hK, hA, hnm⟩ := hE
  have hlt : i.toNatClampNeg < xs.length := Nat.not_le.mp fun q => hi (Or.inr q)
  refine va_zast hx hb hK hP hD hS k 1 (conc_get hl hc) rfl hi hd (fun H1 locs1 hP1 hD1 hS1 => ?_)
  have e : (conc cA (ad0 ++ x) hp).set k ((ad0 ++ x).getD k 0, .inl (cA .boolean, xs.length, .inl (upd (fun j => xs.getD j 0) i.toNatClampNeg (vp_nar .boolean y)))) = conc cA (ad0 ++ x) (hp.set k (.inl (.boolean, xs.set i.toNatClampNeg (vp_nar .boolean y)))) := by
    rw [← conc_set hl hc]
    simp only [jC, List.length_set]
    rw [upd_getD hlt]
  rw [e] at hP1 hD1
  exact kk p l _ s m args below meth c D cA A ad0 x H1 locs1 ls hE0 (by rw [List.length_set]; exact hl) hP1 hD1 hS1 hL
theorem J_aald {k r : Nat} {rs : List Nat} {i : Int32} (hd : decode M.by pc = .ok (.aaload, 1)) (hc : hp[k]? = some (.inr (.inl rs))) (hi : vp_in i rs.length) (hr : rs[i.toNatClampNeg]? = some r) (kk : J M d mc ms Q (pc + 1) lv (.ref r :: st) hp cs ss) : J M d mc ms Q pc lv (.int i :: .ref k :: st) hp cs ss := by
  intro p l e s m args below meth c D cA A ad0 x H locs ls hE hl hP hD hS hL
  have K := kk p l e s m args below meth c D cA A ad0 x H locs ls hE hl hP hD hS hL
  obtain ⟨hx, hb, hml, hret, hlk, hown, hts, hK, hA, hnm⟩ := hE
  have hlt : i.toNatClampNeg < rs.length := Nat.not_le.mp fun q => hi (Or.inr q)
  have ha := conc_get (cA := cA) (ad := ad0 ++ x) hl hc
  refine W.aald (v := va_rf ((rs[i.toNatClampNeg]?).map (fun r => (ad0 ++ x).getD r 0))) (ty := .array .int) hx hb (hP k _ ha) ((hK.2 2 _ rfl).1 rs.length (fun j => va_rf ((rs[j]?).map (fun r => (ad0 ++ x).getD r 0)))) rfl (fun q => by cases q) (by show ¬ (i < 0 ∨ (arrV _ _ _).slots.size ≤ _); rw [arrV_size]; exact hi) (by show (arrV _ _ _).slots[_]? = _; rw [arrV_read _ _ hlt]) rfl rfl hd ?_
  rw [hr]
  exact K
theorem J_alen {k : Nat} {xs : List Int32} {v : Int32} (hd : decode M.by pc = .ok (.arraylength, 1)) (hc : hp[k]? = some (.inl (.int, xs))) (hv : Int32.ofNat xs.length = v) (kk : J M d mc ms Q (pc + 1) lv (.int v :: st) hp cs ss) : J M d mc ms Q pc lv (.ref k :: st) hp cs ss := by
  intro p l e s m args below meth c D cA A ad0 x H locs ls hE hl hP hD hS hL
  have K := kk p l e s m args below meth c D cA A ad0 x H locs ls hE hl hP hD hS hL
  obtain ⟨hx, hb, hml, hr, hlk, hown, hts, hK, hA, hnm⟩ := hE
  exact va_alen (x := (xs.length, .inl (fun j => xs.getD j 0))) (ty := .int) hx hb hK hP k 0 (conc_get hl hc) rfl hv hd K
/-! division -/
theorem J_idiv {y z : Int32} (hd : decode M.by pc = .ok (.idiv, 1)) (hy : ¬ y = 0) (kk : J M d mc ms Q (pc + 1) lv (.int (z / y) :: st) hp cs ss) : J M d mc ms Q pc lv (.int y :: .int z :: st) hp cs ss := by
  intro p l e s m args below meth c D cA A ad0 x H locs ls hE hl hP hD hS hL
  exact lv_idiv hE.1 hE.2.1 hd hy (kk p l e s m args below meth c D cA A ad0 x H locs ls hE hl hP hD hS hL)
theorem J_irem {y z : Int32} (hd : decode M.by pc = .ok (.irem, 1)) (hy : ¬ y = 0) (kk : J M d mc ms Q (pc + 1) lv (.int (z - z / y * y) :: st) hp cs ss) : J M d mc ms Q pc lv (.int y :: .int z :: st) hp cs ss := by
  intro p l e s m args below meth c D cA A ad0 x H locs ls hE hl hP hD hS hL
  exact lv_irem hE.1 hE.2.1 hd hy (kk p l e s m args below meth c D cA A ad0 x H locs ls hE hl hP hD hS hL)
theorem J_ldiv {y z : Int64} (hd : decode M.by pc = .ok (.ldiv, 1)) (hy : ¬ y = 0) (kk : J M d mc ms Q (pc + 1) lv (.long (z / y) :: st) hp cs ss) : J M d mc ms Q pc lv (.long y :: .long z :: st) hp cs ss := by
  intro p l e s m args below meth c D cA A ad0 x H locs ls hE hl hP hD hS hL
  exact lv_ldiv hE.1 hE.2.1 hd hy (kk p l e s m args below meth c D cA A ad0 x H locs ls hE hl hP hD hS hL)
theorem J_lrem {y z : Int64} (hd : decode M.by pc = .ok (.lrem, 1)) (hy : ¬ y = 0) (kk : J M d mc ms Q (pc + 1) lv (.long (z - z / y * y) :: st) hp cs ss) : J M d mc ms Q pc lv (.long y :: .long z :: st) hp cs ss := by
  intro p l e s m args below meth c D cA A ad0 x H locs ls hE hl hP hD hS hL
  exact lv_lrem hE.1 hE.2.1 hd hy (kk p l e s m args below meth c D cA A ad0 x H locs ls hE hl hP hD hS hL)
/-! switches -/
def swT (dflt lo hi : Int) (offs : Array Int) (pc : Nat) (x : Int32) : Option Nat := if x.toInt < lo ∨ hi < x.toInt then tgt pc dflt else match offs[(x.toInt - lo).toNat]? with
  | some off => tgt pc off
  | none => none
theorem J_tsw {dflt lo hi : Int} {offs : Array Int} {len t : Nat} {z : Int32} (hd : decode M.by pc = .ok (.tableswitch dflt lo hi offs, len)) (hs : swT dflt lo hi offs pc z = some t) (kk : J M d mc ms Q t lv st hp cs ss) : J M d mc ms Q pc lv (.int z :: st) hp cs ss := by
  intro p l e s m args below meth c D cA A ad0 x H locs ls hE hl hP hD hS hL
  have K := kk p l e s m args below meth c D cA A ad0 x H locs ls hE hl hP hD hS hL
  unfold swT at hs
  split at hs
  · rename_i h
    exact lv_tableOut hE.1 hE.2.1 hd h (tgt_spec hs) K
  · rename_i h
    split at hs
    · rename_i off ho
      exact lv_tableIn hE.1 hE.2.1 hd (fun q => h (Or.inl q)) (fun q => h (Or.inr q)) ho (tgt_spec hs) K
    · cases hs
theorem J_lsw {dflt : Int} {ps : Array (Int × Int)} {len t : Nat} {z : Int32} (hd : decode M.by pc = .ok (.lookupswitch dflt ps, len)) (hp0 : (ps.toList.zip (ps.toList.drop 1)).all (fun (a, next) => a.1 < next.1) = true) (hs : tgt pc (Op.lookupswitch.offset ps.toList dflt z.toInt) = some t) (kk : J M d mc ms Q t lv st hp cs ss) : J M d mc ms Q pc lv (.int z :: st) hp cs ss := by
  intro p l e s m args below meth c D cA A ad0 x H locs ls hE hl hP hD hS hL
  exact lv_lookup hE.1 hE.2.1 hd hp0 rfl (tgt_spec hs) (kk p l e s m args below meth c D cA A ad0 x H locs ls hE hl hP hD hS hL)
/-! constants -/
theorem J_ldc {idx : Nat} {v : Int32} (hd : decode M.by pc = .ok (.ldc idx, 2)) (hw : Jvm.Cond.constant (cnm M.cn) idx v ∈ tb) (kk : J M d mc ms Q (pc + 2) lv (.int v :: st) hp cs ss) : J M d mc ms Q pc lv st hp cs ss := by
  intro p l e s m args below meth c D cA A ad0 x H locs ls hE hl hP hD hS hL
  exact lv_ldc hE.1 hE.2.1 hE.2.2.2.2.2.1 (hE.2.2.2.2.2.2.1 _ hw) hd (kk p l e s m args below meth c D cA A ad0 x H locs ls hE hl hP hD hS hL)
theorem J_ldcw {idx : Nat} {v : Int32} (hd : decode M.by pc = .ok (.ldc_w idx, 3)) (hw : Jvm.Cond.constant (cnm M.cn) idx v ∈ tb) (kk : J M d mc ms Q (pc + 3) lv (.int v :: st) hp cs ss) : J M d mc ms Q pc lv st hp cs ss := by
  intro p l e s m args below meth c D cA A ad0 x H locs ls hE hl hP hD hS hL
  exact lv_ldcw hE.1 hE.2.1 hE.2.2.2.2.2.1 (hE.2.2.2.2.2.2.1 _ hw) hd (kk p l e s m args below meth c D cA A ad0 x H locs ls hE hl hP hD hS hL)
theorem J_ldc2 {idx : Nat} {v : Int64} (hd : decode M.by pc = .ok (.ldc2_w idx, 3)) (hw : Jvm.Cond.constantLong (cnm M.cn) idx v ∈ tb) (kk : J M d mc ms Q (pc + 3) lv (.long v :: st) hp cs ss) : J M d mc ms Q pc lv st hp cs ss := by
  intro p l e s m args below meth c D cA A ad0 x H locs ls hE hl hP hD hS hL
  exact lv_ldc2 hE.1 hE.2.1 hE.2.2.2.2.2.1 (hE.2.2.2.2.2.2.1 _ hw) hd (kk p l e s m args below meth c D cA A ad0 x H locs ls hE hl hP hD hS hL)
/-! the end of a method -/
theorem J_iret {z : Int32} {ty : FieldType} (hd : decode M.by pc = .ok (.ireturn, 1)) (hrt : M.rt = some ty) (hn : narrow ty (.int z) = .int z) (h1 : cs ≤ mc) (h2 : ss ≤ ms) (hQ : Q (some (.int z)) hp) : J M d mc ms Q pc lv [.int z] hp cs ss := by
  intro p l e s m args below meth c D cA A ad0 x H locs ls hE hl hP hD hS hL
  obtain ⟨hx, hb, hml, hr, hlk, hown, hts, hK, hA, hnm⟩ := hE
  refine W.widen h1 h2 ?_
  exact W.zret (ty := ty) hx hb (hr.trans hrt) hn (fun t ht hW => ⟨⟨some (.int z), hp, x, rfl, hQ, hl, by rw [ht]; exact hP, hD, va_K.moved hW.alike hK⟩, hS.F ht⟩) hS.2.2 hd hlk
theorem J_lret {z : Int64} (hd : decode M.by pc = .ok (.lreturn, 1)) (hrt : M.rt = some .long) (h1 : cs ≤ mc) (h2 : ss ≤ ms) (hQ : Q (some (.long z)) hp) : J M d mc ms Q pc lv [.long z] hp cs ss := by
  intro p l e s m args below meth c D cA A ad0 x H locs ls hE hl hP hD hS hL
  obtain ⟨hx, hb, hml, hr, hlk, hown, hts, hK, hA, hnm⟩ := hE
  refine W.widen h1 h2 ?_
  exact W.lret hx hb (hr.trans hrt) (fun t ht hW => ⟨⟨some (.long z), hp, x, rfl, hQ, hl, by rw [ht]; exact hP, hD, va_K.moved hW.alike hK⟩, hS.F ht⟩) hS.2.2 hd hlk
theorem J_aret {k : Nat} {rt : FieldType} (hd : decode M.by pc = .ok (.areturn, 1)) (hrt : M.rt = some rt) (hty : (∃ n, rt = .object n) ∨ ∃ t, rt = .array t) (h1 : cs ≤ mc) (h2 : ss ≤ ms) (hQ : Q (some (.ref k)) hp) : J M d mc ms Q pc lv [.ref k] hp cs ss := by
  intro p l e s m args below meth c D cA A ad0 x H locs ls hE hl hP hD hS hL
  obtain ⟨hx, hb, hml, hr, hlk, hown, hts, hK, hA, hnm⟩ := hE
  refine W.widen h1 h2 ?_
  exact W.aret (rt := rt) hx hb (hr.trans hrt) hty (Or.inr ⟨_, rfl⟩) (fun t ht hW => ⟨⟨some (.ref k), hp, x, rfl, hQ, hl, by rw [ht]; exact hP, hD, va_K.moved hW.alike hK⟩, hS.F ht⟩) hS.2.2 hd hlk
theorem J_vret (hd : decode M.by pc = .ok (.return_, 1)) (hrt : M.rt = none) (h1 : cs ≤ mc) (h2 : ss ≤ ms) (hQ : Q none hp) : J M d mc ms Q pc lv [] hp cs ss := by
  intro p l e s m args below meth c D cA A ad0 x H locs ls hE hl hP hD hS hL
  obtain ⟨hx, hb, hml, hr, hlk, hown, hts, hK, hA, hnm⟩ := hE
  refine W.widen h1 h2 ?_
  exact W.vret hx hb (hr.trans hrt) (fun t ht hW => ⟨⟨none, hp, x, rfl, hQ, hl, by rw [ht]; exact hP, hD, va_K.moved hW.alike hK⟩, hS.F ht⟩) hS.2.2 hd hlk
end JH
theorem fRes_ok {cn idx ci sl w : Nat} (h : fRes cn idx = some (ci, sl, w)) : fOk cn idx ci sl := by
  have h1 := tab_row frB_ok (by decide) h
  unfold fRowB at h1
  split at h1
  · rename_i w9 hw; exact ⟨w9, hw, chkW_in h1⟩
  · cases h1
/-! ===== calls ===== -/
theorem tb_good : ∀ w ∈ tb, (w.onTables && w.keeps) = true ∨ ∃ ty, w = .arrayClass ty := fun _ h => good_of_word (List.mem_filter.mp h).2
def nOk (N : MT) : Prop := Cond.code N.y N.by N.ml N.rt ∈ tb ∧ Cond.initialized N.y.cls ∈ tb ∧ (N.y.cls ≠ "java/lang/invoke/MethodHandle" ∧ N.y.cls ≠ "java/lang/invoke/VarHandle") ∧ N.ml ≤ 20 ∧ plainName N.y.cls = true ∧ N.y.cls = cnm N.cn
theorem mw_good {N : MT} (h : nOk N) : GoodIn tb (mw N) := by
  intro w hw
  have : w ∈ tb := by
    rcases List.mem_cons.mp hw with q | q
    · rw [q]; exact h.1
    · exact q
  exact ⟨this, tb_good w this⟩
section VAJ
variable {p : Program} {l : Launch} {e : Env} {R : Room} {s : State} {m : MethodId} {args : Array Value} {below : List Frame} {meth : Method} {c : Code} {H : Heap} {locs : List Loc} {cells slots : Nat} {Q : State → Prop}
variable {pc : Nat} {ls : Array Slot} {rest st0 : List Value} {a : Array Value} {A0 A1 : Nat → Prop} {H0 : Heap} {mc ms : Nat} {free : Addr → Prop}
theorem va_callJ {D : va_G} {cA : FieldType → ClassId} {ad : List Nat} {Q' : Option Value → AH → Prop} (hr : va_Run p l e R s m args below meth c H locs cells slots mc ms (F0 m pc ls st0) rest (jQ D cA A1 ad Q' a) free) (hS : va_S A0 H0 H locs) (hA : ∀ q, q < H.size → A1 q → A0 q) (hf : ∀ q, free q → A0 q)
    (kk : ∀ (v : Option Value) (hp' : AH) (x' : List Nat) (H1 : Heap) (locs1 : List Loc), Q' v hp' → (ad ++ x').length = hp'.length → va_P D clsL (conc cA (ad ++ x') hp') H1 → va_D A1 (conc cA (ad ++ x') hp') → va_S A0 H0 H1 locs1 → W p l e R s m args below meth c H1 locs1 (cells + mc) (slots + ms) Q (F0 m (pc + 3) ls ((v.map (cv (ad ++ x'))).toList ++ rest))) : W p l e R s m args below meth c H locs cells slots Q (F0 m pc ls st0) := by
  intro T hT X
  obtain ⟨v, st₀, t, T', L, h0, X', hL, e1, e2, ⟨⟨w, hp', x', hv, hq, hl, hP, hD, hK⟩, hz, hk⟩, st⟩ := hr T hT X
  rw [Outcome.returned.injEq] at hv
  subst hv
  rw [h0] at hz hk
  obtain ⟨t2, a1, b1⟩ := kk w hp' x' T'.heap (locs ++ L) hq hl (by rw [e1]; exact hP) hD
    ⟨Nat.le_trans hS.1 (by rw [e1]; exact hz), fun q h1 h2 => by rw [e1, hk q (Nat.lt_of_lt_of_le h1 hS.1) (fun z => h2 (hA q (Nat.lt_of_lt_of_le h1 hS.1) z))]; exact hS.2.1 q h1 h2, fun q hq => by
      rcases List.mem_append.mp hq with h | h
      · exact hS.2.2 q h
      · exact hf _ (hL q h)⟩ T' rfl X'
  exact ⟨t2, st t2 a1, b1⟩
end VAJ
theorem jL_app {nL : Nat} {ad x : List Nat} {lv : List (Option Value)} {ls : Array Slot} (h : jL nL ad lv ls) (hok : okL ad.length lv = true) : jL nL (ad ++ x) lv ls := by
  refine ⟨h.1, h.2.1, h.2.2.1, fun i v hi => ?_⟩
  have := List.all_eq_true.mp hok (some v) (List.mem_of_getElem? hi)
  rw [cv_app this]
  exact h.2.2.2 i v hi
theorem ct_room {N : MT} {d mc ms mc' ms' : Nat} (hN : nOk N) : (rmm d mc' ms').frames + 1 ≤ (rmm (d + 1) mc ms).frames ∧ 8 + (N.ml + 11) + (rmm d mc' ms').locals ≤ (rmm (d + 1) mc ms).locals := by
  refine ⟨Nat.le_refl _, ?_⟩
  have := hN.2.2.2.1
  show 8 + (N.ml + 11) + 39 * d ≤ 39 * (d + 1)
  omega
def cOk (hp : AH) (lv : List (Option Value)) (st : List Value) (Q' : Option Value → AH → Prop) : Prop := (∀ v hp', Q' v hp' → hp'.length = hp.length) ∨ (okL hp.length lv = true ∧ st.all (okV hp.length) = true)
theorem ct_free {cA : FieldType → ClassId} {ad : List Nat} {hp : AH} {A : Nat → Prop} {H0 H : Heap} {locs : List Loc} (hD : va_D A (conc cA ad hp)) (hS : va_S A H0 H locs) (hA : ∀ q, H0.size ≤ q → A q) : ∀ q, va_A (conc cA ad hp) H.size q → A q := by
  intro q h
  rcases h with ⟨k, e, h⟩ | h
  · exact hD.2 k _ h
  · exact hA q (Nat.le_trans hS.1 h)
section JC
variable {M : MT} {d mc ms : Nat} {Q Q' : Option Value → AH → Prop} {pc : Nat} {lv : List (Option Value)} {st : List Value} {hp : AH} {cs ss : Nat} {idx mc' ms' : Nat} {N : MT} {as : List Value}
/-- what is common to the calls: behind the callee the caller goes on -/
theorem J_after {p : Program} {l : Launch} {e : Env} {s : State} {m : MethodId} {args : Array Value} {below : List Frame} {meth : Method} {c : Code} {D : va_G} {cA : FieldType → ClassId} {A : Nat → Prop} {ad0 x : List Nat} {H : Heap} {locs : List Loc} {ls : Array Slot} {a : Array Value} {st0 : List Value}
    (hE : jE M p s m args meth c D cA A) (hl : (ad0 ++ x).length = hp.length) (hD : va_D A (conc cA (ad0 ++ x) hp)) (hS : va_S A s.heap H locs) (hL : jL M.ml (ad0 ++ x) lv ls) (hok : cOk hp lv st Q')
    (hr : va_Run p l e (rmm (d + 1) mc ms) s m args below meth c H locs cs ss mc' ms' (F0 m pc ls st0) (st.map (cv (ad0 ++ x))) (jQ D cA (va_A (conc cA (ad0 ++ x) hp) H.size) (ad0 ++ x) Q' a) (va_A (conc cA (ad0 ++ x) hp) H.size))
    (kk : ∀ v hp', Q' v hp' → J M (d + 1) mc ms Q (pc + 3) lv (v.toList ++ st) hp' (cs + mc') (ss + ms')) : W p l e (rmm (d + 1) mc ms) s m args below meth c H locs cs ss (MQ below (jQ D cA A ad0 Q) args s mc ms A) (F0 m pc ls st0) := by
  have hF := ct_free hD hS hE.2.2.2.2.2.2.2.2.1
  refine va_callJ hr hS (fun q _ h => hF q h) hF (fun v hp' x' H1 locs1 hq hl' hP1 hD1 hS1 => ?_)
  have hlv : jL M.ml ((ad0 ++ x) ++ x') lv ls ∧ (st.map (cv ((ad0 ++ x) ++ x'))) = st.map (cv (ad0 ++ x)) := by
    rcases hok with h | ⟨h1, h2⟩
    · have h3 := h v hp' hq
      have : x' = [] := by
        rw [List.length_append, hl, h3] at hl'
        exact List.eq_nil_of_length_eq_zero (by omega)
      subst this
      rw [List.append_nil]
      exact ⟨hL, rfl⟩
    · rw [← hl] at h1 h2
      exact ⟨jL_app hL h1, map_cv_app h2⟩
  have K := kk v hp' hq p l e s m args below meth c D cA A ad0 (x ++ x') H1 locs1 ls hE (by rw [← List.append_assoc]; exact hl') (by rw [← List.append_assoc]; exact hP1) (by rw [← List.append_assoc]; exact hD1.weaken (fun _ q _ h => hF _ h)) hS1 (by rw [← List.append_assoc]; exact hlv.1)
  rw [← List.append_assoc, List.map_append, hlv.2] at K
  have e2 : (v.map (cv ((ad0 ++ x) ++ x'))).toList = v.toList.map (cv ((ad0 ++ x) ++ x')) := by cases v <;> rfl
  rw [e2]
  exact K
theorem ct_pre {s : State} {H : Heap} {D : va_G} {cA : FieldType → ClassId} {ad : List Nat} {A : Nat → Prop} (hP : va_P D clsL (conc cA ad hp) H) (hD : va_D A (conc cA ad hp)) (hK : va_K D clsL (tysL cA) s) (hX : xN s) : PreS s H (va_Pc (as.map (cv ad)) (fun U => U.heap.size = H.size ∧ va_P D clsL (conc cA ad hp) U.heap ∧ va_K D clsL (tysL cA) U ∧ va_D (fun _ => True) (conc cA ad hp) ∧ xN U)) (as.map (cv ad)) := by
  refine ⟨fun a U g mk q => ?_, fun U hU hW => ⟨rfl, by rw [hU], by rw [hU]; exact hP, va_K.moved hW.alike hK, hD.weaken (fun _ _ _ _ => trivial), xN_warm hW hX⟩⟩
  obtain ⟨q0, q1, qP, qK, qD, qX⟩ := q
  exact ⟨q0, q1, qP, va_K.moved (u := U) (U := U.calling g mk a) (Vm.Alike.refl U.vm) qK, qD, xN_same (u := U) (U := U.calling g mk a) rfl qX⟩
theorem st_room {ls : Array Slot} {m : MethodId} {ad : List Nat} {st0 : List Value} (h : (st.map (fun v => v.category)).sum ≤ 8) : 2 * (F0 m pc ls st0).monitorRoom + ((st.map (cv ad)).map fun v => v.category).sum ≤ 8 := by
  refine lv_room ?_
  have e : (st.map (cv ad)).map (fun v => v.category) = st.map (fun v => v.category) := by
    rw [List.map_map]; exact List.map_congr_left (fun v _ => cv_cat ad v)
  rw [e]; exact h
theorem J_callS (hd : decode M.by pc = .ok (.invokestatic idx, 3)) (hN : nOk N) (hlk : Cond.methodLink (cnm M.cn) idx N.y ∈ tb) (hst : Cond.static N.y ∈ tb) (hnp : np N = some as.length) (hcat : (st.map (fun v => v.category)).sum ≤ 8) (hr1 : cs + mc' ≤ mc) (hr2 : ss + ms' ≤ ms) (hok : cOk hp lv st Q') (C : Ct N d mc' ms' as hp Q')
    (kk : ∀ v hp', Q' v hp' → J M (d + 1) mc ms Q (pc + 3) lv (v.toList ++ st) hp' (cs + mc') (ss + ms')) : J M (d + 1) mc ms Q pc lv (as.reverse ++ st) hp cs ss := by
  intro p l e s m args below meth c D cA A ad0 x H locs ls hE hl hP hD hS hL
  refine J_after (a := (as.map (cv (ad0 ++ x))).toArray) hE hl hD hS hL hok ?_ kk
  obtain ⟨hx, hb, hml, hr, hlo, hown, hts, hK, hA, hnm⟩ := hE
  exact va_runS (Ts := tb) (n := as.length) ⟨hx, hb, hml, hown, hts⟩ (C l D cA (ad0 ++ x) H.size hl) ⟨callB_of as.length hts (mw_good hN) rfl rfl rfl (hts _ hN.2.1) (hts _ hlk) ⟨hN.2.2.1.1, hN.2.2.1.2, hnp⟩ (ct_room hN), hts _ hst⟩ (ct_pre hP hD hK hnm.2) rfl (by simp) hL.2.1 (by simp) (st_room hcat) hd ⟨hr1, hr2⟩
theorem J_callSN {host : String} (hd : decode M.by pc = .ok (.invokestatic idx, 3)) (hN : nOk N) (hlk : Cond.methodLinkNest (cnm M.cn) idx N.y host ∈ lw_tbl) (hst : Cond.static N.y ∈ tb) (hnp : np N = some as.length) (hcat : (st.map (fun v => v.category)).sum ≤ 8) (hr1 : cs + mc' ≤ mc) (hr2 : ss + ms' ≤ ms) (hok : cOk hp lv st Q') (C : Ct N d mc' ms' as hp Q')
    (kk : ∀ v hp', Q' v hp' → J M (d + 1) mc ms Q (pc + 3) lv (v.toList ++ st) hp' (cs + mc') (ss + ms')) : J M (d + 1) mc ms Q pc lv (as.reverse ++ st) hp cs ss := by
  intro p l e s m args below meth c D cA A ad0 x H locs ls hE hl hP hD hS hL
  refine J_after (a := (as.map (cv (ad0 ++ x))).toArray) hE hl hD hS hL hok ?_ kk
  obtain ⟨hx, hb, hml, hr, hlo, hown, hts, hK, hA, hnm⟩ := hE
  have hc : Cond.code N.y N.by N.ml N.rt ∈ mw N := List.mem_cons_self
  refine va_runSN (Ts := tb) (n := as.length) (host := host) ⟨hx, hb, hml, hown, hts⟩ (C l D cA (ad0 ++ x) H.size hl) ⟨⟨⟨rfl, rfl, (ct_room (mc := mc) (ms := ms) (mc' := mc') (ms' := ms') hN).1, (ct_room (mc := mc) (ms := ms) (mc' := mc') (ms' := ms') hN).2, pay_in hts (mw_good hN), hc⟩, hts _ (mw_good hN _ hc).1, hts _ hN.2.1, ⟨hN.2.2.1.1, hN.2.2.1.2⟩, fun sig h => ?_, va_Nw.use rfl (hnm.2.1 _ _ _ _ hlk)⟩, hts _ hst, trivial⟩ (ct_pre hP hD hK hnm.2) rfl (by simp) hL.2.1 (by simp) (st_room hcat) hd ⟨hr1, hr2⟩
  unfold np at hnp
  rw [h] at hnp
  exact (Option.some.inj hnp).symm
theorem J_callV {k ci : Nat} {fs : List Value} (hd : decode M.by pc = .ok (.invokevirtual idx, 3)) (hN : nOk N) (hlk : Cond.methodLink (cnm M.cn) idx N.y ∈ tb) (hin : Cond.instanceMethod N.y ∈ tb) (hse : Cond.selects N.y.cls N.y N.y ∈ tb) (hnp : np N = some as.length) (hc : hp[k]? = some (.inr (.inr (ci, fs)))) (hci : (clsL[ci]?).map (fun q => q.1) = some N.y.cls) (hcat : (st.map (fun v => v.category)).sum ≤ 8) (hr1 : cs + mc' ≤ mc) (hr2 : ss + ms' ≤ ms) (hok : cOk hp lv st Q') (C : Ct N d mc' ms' (.ref k :: as) hp Q')
    (kk : ∀ v hp', Q' v hp' → J M (d + 1) mc ms Q (pc + 3) lv (v.toList ++ st) hp' (cs + mc') (ss + ms')) : J M (d + 1) mc ms Q pc lv (as.reverse ++ .ref k :: st) hp cs ss := by
  intro p l e s m args below meth c D cA A ad0 x H locs ls hE hl hP hD hS hL
  refine J_after (a := (Value.ref ((ad0 ++ x).getD k 0) :: as.map (cv (ad0 ++ x))).toArray) hE hl hD hS hL hok ?_ kk
  obtain ⟨hx, hb, hml, hr, hlo, hown, hts, hK, hA, hnm⟩ := hE
  obtain ⟨q, hq, hq1⟩ := Option.map_eq_some_iff.mp hci
  have hrecv := va_recv hK hP hq (conc_get hl hc)
  rw [hq1] at hrecv
  have hpre := ct_pre (as := .ref k :: as) hP hD hK hnm.2
  exact va_runV (Ts := tb) (n := as.length) (C := N.y.cls) (b := (ad0 ++ x).getD k 0) (As := as.map (cv (ad0 ++ x))) ⟨hx, hb, hml, hown, hts⟩ (C l D cA (ad0 ++ x) H.size hl) ⟨callB_of as.length hts (mw_good hN) rfl rfl rfl (hts _ hN.2.1) (hts _ hlk) ⟨hN.2.2.1.1, hN.2.2.1.2, hnp⟩ (ct_room hN), hts _ hin, hts _ hse⟩ ⟨hpre.1, hrecv, hpre.2⟩ rfl (by simp) hL.2.1 (by simp [cv]) (st_room hcat) hd ⟨hr1, hr2⟩
theorem J_callI {k : Nat} (hd : decode M.by pc = .ok (.invokespecial idx, 3)) (hN : nOk N) (hrt : N.rt = none) (hlk : Cond.methodLink (cnm M.cn) idx N.y ∈ tb) (hin : Cond.instanceMethod N.y ∈ tb) (hy1 : N.y.name = "<init>") (hnp : np N = some as.length) (hcat : (st.map (fun v => v.category)).sum ≤ 8) (hr1 : cs + mc' ≤ mc) (hr2 : ss + ms' ≤ ms) (hok : cOk hp lv st Q') (C : Ct N d mc' ms' (.ref k :: as) hp Q')
    (kk : ∀ v hp', Q' v hp' → J M (d + 1) mc ms Q (pc + 3) lv (v.toList ++ st) hp' (cs + mc') (ss + ms')) : J M (d + 1) mc ms Q pc lv (as.reverse ++ .ref k :: st) hp cs ss := by
  intro p l e s m args below meth c D cA A ad0 x H locs ls hE hl hP hD hS hL
  refine J_after (a := (Value.ref ((ad0 ++ x).getD k 0) :: as.map (cv (ad0 ++ x))).toArray) hE hl hD hS hL hok ?_ kk
  obtain ⟨hx, hb, hml, hr, hlo, hown, hts, hK, hA, hnm⟩ := hE
  have hpre := ct_pre (as := .ref k :: as) hP hD hK hnm.2
  have hB := callB_of (R := rmm (d + 1) mc ms) (rm := rmm d mc' ms') (own := cnm M.cn) (index := idx) as.length hts (mw_good hN) rfl rfl rfl (hts _ hN.2.1) (hts _ hlk) ⟨hN.2.2.1.1, hN.2.2.1.2, hnp⟩ (ct_room hN)
  rw [hrt] at hB
  exact va_runI (Ts := tb) (n := as.length) (b := (ad0 ++ x).getD k 0) (As := as.map (cv (ad0 ++ x))) ⟨hx, hb, hml, hown, hts⟩ (C l D cA (ad0 ++ x) H.size hl) ⟨hB, hy1, hts _ hin⟩ hpre rfl (by simp) hL.2.1 (by simp [cv]) (st_room hcat) hd ⟨hr1, hr2⟩
theorem J_callIN {k : Nat} {host : String} (hd : decode M.by pc = .ok (.invokespecial idx, 3)) (hN : nOk N) (hrt : N.rt = none) (hlk : Cond.methodLinkNest (cnm M.cn) idx N.y host ∈ lw_tbl) (hin : Cond.instanceMethod N.y ∈ tb) (hy1 : N.y.name = "<init>") (hnp : np N = some as.length) (hcat : (st.map (fun v => v.category)).sum ≤ 8) (hr1 : cs + mc' ≤ mc) (hr2 : ss + ms' ≤ ms) (hok : cOk hp lv st Q') (C : Ct N d mc' ms' (.ref k :: as) hp Q')
    (kk : ∀ v hp', Q' v hp' → J M (d + 1) mc ms Q (pc + 3) lv (v.toList ++ st) hp' (cs + mc') (ss + ms')) : J M (d + 1) mc ms Q pc lv (as.reverse ++ .ref k :: st) hp cs ss := by
  intro p l e s m args below meth c D cA A ad0 x H locs ls hE hl hP hD hS hL
  refine J_after (a := (Value.ref ((ad0 ++ x).getD k 0) :: as.map (cv (ad0 ++ x))).toArray) hE hl hD hS hL hok ?_ kk
  obtain ⟨hx, hb, hml, hr, hlo, hown, hts, hK, hA, hnm⟩ := hE
  have hpre := ct_pre (as := .ref k :: as) hP hD hK hnm.2
  have hc : Cond.code N.y N.by N.ml none ∈ mw N := by rw [← hrt]; exact List.mem_cons_self
  refine va_runIN (Ts := tb) (n := as.length) (host := host) (b := (ad0 ++ x).getD k 0) (As := as.map (cv (ad0 ++ x))) ⟨hx, hb, hml, hown, hts⟩ (C l D cA (ad0 ++ x) H.size hl) ⟨⟨⟨rfl, rfl, (ct_room (mc := mc) (ms := ms) (mc' := mc') (ms' := ms') hN).1, (ct_room (mc := mc) (ms := ms) (mc' := mc') (ms' := ms') hN).2, pay_in hts (mw_good hN), hc⟩, hts _ (mw_good hN _ hc).1, hts _ hN.2.1, ⟨hN.2.2.1.1, hN.2.2.1.2⟩, fun sig h => ?_, va_Nw.use rfl (hnm.2.1 _ _ _ _ hlk)⟩, hy1, hts _ hin⟩ hpre rfl (by simp) hL.2.1 (by simp [cv]) (st_room hcat) hd ⟨hr1, hr2⟩
  unfold np at hnp
  rw [h] at hnp
  exact (Option.some.inj hnp).symm
theorem J_objI {k : Nat} (hd : decode M.by pc = .ok (.invokespecial idx, 3)) (hlk : Cond.methodLink (cnm M.cn) idx Lib.objectInit ∈ tb) (hin : Cond.instanceMethod Lib.objectInit ∈ tb) (hco : Cond.code Lib.objectInit ⟨#[0xb1]⟩ 1 none ∈ tb) (hcat : (st.map (fun v => v.category)).sum ≤ 8) (kk : J M (d + 1) mc ms Q (pc + 3) lv st hp cs ss) : J M (d + 1) mc ms Q pc lv (.ref k :: st) hp cs ss := by
  intro p l e s m args below meth c D cA A ad0 x H locs ls hE hl hP hD hS hL
  have K := kk p l e s m args below meth c D cA A ad0 x H locs ls hE hl hP hD hS hL
  obtain ⟨hx, hb, hml, hr, hlo, hown, hts, hK, hA, hnm⟩ := hE
  refine W.objInit hx hb hown (hts _ hlk) (hts _ hin) (hts _ hco) rfl (by rw [hml]; exact hL.2.1) (a := (ad0 ++ x).getD k 0) (rest := st.map (cv (ad0 ++ x))) rfl hd (show 1 ≤ d + 1 by omega) ?_ K
  have := st_room (m := m) (ls := ls) (pc := pc) (ad := ad0 ++ x) (st0 := (Value.ref k :: st).map (cv (ad0 ++ x))) hcat
  show _ ≤ 39 * (d + 1)
  omega
/-! arraycopy of ints -/
def cpyL (xs ys : List Int32) (sp dp n : Nat) : List Int32 := (List.range ys.length).map (fun k => if dp ≤ k ∧ k < dp + n then xs.getD (sp + (k - dp)) 0 else ys.getD k 0)
theorem cpyL_length (xs ys : List Int32) (sp dp n : Nat) : (cpyL xs ys sp dp n).length = ys.length := by unfold cpyL; simp
theorem cpyL_fun {xs ys : List Int32} {sp dp n : Nat} (h : dp + n ≤ ys.length) : va_cpy (fun j => xs.getD j 0) (fun j => ys.getD j 0) sp dp n = (fun j => (cpyL xs ys sp dp n).getD j 0) := by
  funext j
  unfold va_cpy cpyL
  rw [List.getD_eq_getElem?_getD (l := List.map _ _), List.getElem?_map]
  by_cases hj : j < ys.length
  · rw [List.getElem?_range hj]; rfl
  · rw [List.getElem?_eq_none (by simp; omega)]
    have h1 : ¬ (dp ≤ j ∧ j < dp + n) := by omega
    rw [if_neg h1]
    show ys.getD j 0 = _
    rw [List.getD_eq_getElem?_getD, List.getElem?_eq_none (by omega)]
    rfl
theorem J_acopy {k0 k1 : Nat} {xs ys : List Int32} {sp dp n : Int32} (hd : decode M.by pc = .ok (.invokestatic idx, 3)) (hlk : Cond.methodLink (cnm M.cn) idx arraycopyName ∈ tb) (hnat : Cond.native arraycopyName ∈ tb) (hst : Cond.static arraycopyName ∈ tb) (hini : Cond.initialized "java/lang/System" ∈ tb) (hc0 : hp[k0]? = some (.inl (.int, xs))) (hc1 : hp[k1]? = some (.inl (.int, ys))) (h1 : ¬ sp < 0) (h2 : ¬ dp < 0) (h3 : ¬ n < 0) (h4 : sp.toNatClampNeg + n.toNatClampNeg ≤ xs.length) (h5 : dp.toNatClampNeg + n.toNatClampNeg ≤ ys.length) (hcat : (st.map (fun v => v.category)).sum ≤ 8)
    (kk : J M (d + 1) mc ms Q (pc + 3) lv st (hp.set k1 (.inl (.int, cpyL xs ys sp.toNatClampNeg dp.toNatClampNeg n.toNatClampNeg))) cs ss) : J M (d + 1) mc ms Q pc lv (.int n :: .int dp :: .ref k1 :: .int sp :: .ref k0 :: st) hp cs ss := by
  intro p l e s m args below meth c D cA A ad0 x H locs ls hE hl hP hD hS hL
  have hE0 := hE
  obtain ⟨hx, hb, hml, hr, hlo, hown, hts, hK, hA, hnm⟩ := hE
  have hcat2 : ((st.map (cv (ad0 ++ x))).map fun v => v.category).sum ≤ 8 := by
    have e : (st.map (cv (ad0 ++ x))).map (fun v => v.category) = st.map (fun v => v.category) := by
      rw [List.map_map]; exact List.map_congr_left (fun v _ => cv_cat _ v)
    rw [e]; exact hcat
  refine va_copyi (ty := .int) hx hb (by rw [hml]; exact hL.2.1.symm) hown (hts _ hlk) (hts _ hnat) (hts _ hst) (hts _ hini) hK hP hD hS k0 k1 0 0 (conc_get hl hc0) (conc_get hl hc1) rfl rfl rfl h1 h2 h3 h4 h5 (fun _ _ => rfl) (show 1 ≤ d + 1 by omega) ?_ hd (fun H1 locs1 hP1 hD1 hS1 => ?_)
  · have hw : nativeFrameWords "java/lang/System" "arraycopy" 5 = 7 := by decide
    rw [hw]
    show _ ≤ 39 * (d + 1)
    omega
  · have e : (conc cA (ad0 ++ x) hp).set k1 ((ad0 ++ x).getD k1 0, .inl (cA .int, ys.length, .inl (va_cpy (fun j => xs.getD j 0) (fun j => ys.getD j 0) sp.toNatClampNeg dp.toNatClampNeg n.toNatClampNeg))) = conc cA (ad0 ++ x) (hp.set k1 (.inl (.int, cpyL xs ys sp.toNatClampNeg dp.toNatClampNeg n.toNatClampNeg))) := by
      rw [← conc_set hl hc1]
      simp only [jC, cpyL_length]
      rw [cpyL_fun h5]
    rw [e] at hP1 hD1
    exact kk p l _ s m args below meth c D cA A ad0 x H1 locs1 ls hE0 (by rw [List.length_set]; exact hl) hP1 hD1 hS1 hL
/-! a contract out of a walk -/
theorem Ct_of_J (hN : nOk N) (hsl : ∀ ad, (lg_sl (as.map (cv ad))).length ≤ N.ml) (h : J N d mc ms Q 0 (entL as N.ml) [] hp 0 0) : Ct N d mc ms as hp Q := by
  intro l D cA ad sz hl
  refine Met.ofW (cc := N.by) (maxL := N.ml) (ret := N.rt) hN.2.2.2.2.1 rfl ?_
  intro p e s m args below meth c s₁ B hml hv
  obtain ⟨rfl, hsz, hP, hK, hD0, hX⟩ := hv
  have hts := atoms_spec (ws := mw N) B.pre
  have hown : s.vm.findClass N.y.cls = some m.cls := findClass_of_methodNamed B.named
  have hnm : meth.name = N.y.name := (name_of_methodNamed B.named B.method).1
  subst hsz
  have hD := hD0.self (sz := s.heap.size)
  rw [lg_entry_eq]
  have K := h p l e s m ((as.map (cv ad)).toArray) below meth c D cA (va_A (conc cA ad hp) s.heap.size) ad [] s.heap [] ((lg_sl (as.map (cv ad)) ++ List.replicate (N.ml - (lg_sl (as.map (cv ad))).length) Slot.unset).toArray)
    ⟨B.exec, B.bytes, hml, B.returns, B.notSynchronized, by rw [← hN.2.2.2.2.2]; exact hown, fun w hw => hts w (List.mem_cons_of_mem _ hw), hK, fun q h => Or.inr h, hnm, hX⟩ (by rw [List.append_nil]; exact hl) (by rw [List.append_nil]; exact hP) (by rw [List.append_nil]; exact hD) va_S.rf (by rw [List.append_nil]; exact jL_ent (hsl ad))
  exact K
end JC
section JMath
variable {M : MT} {d mc ms : Nat} {Q : Option Value → AH → Prop} {pc : Nat} {lv : List (Option Value)} {st : List Value} {hp : AH} {cs ss : Nat} {idx : Nat}
theorem J_min {y z : Int32} (hd : decode M.by pc = .ok (.invokestatic idx, 3)) (hlk : Cond.methodLink (cnm M.cn) idx Lib.Math.min.name ∈ tb) (hst : Cond.static Lib.Math.min.name ∈ tb) (hco : Cond.code Lib.Math.min.name Lib.Math.min.code 2 (some .int) ∈ tb) (hcat : (st.map (fun v => v.category)).sum ≤ 8) (hr1 : cs ≤ mc) (hr2 : ss ≤ ms) (kk : J M (d + 1) mc ms Q (pc + 3) lv (.int (if y < z then y else z) :: st) hp cs ss) : J M (d + 1) mc ms Q pc lv (.int y :: .int z :: st) hp cs ss := by
  intro p l e s m args below meth c D cA A ad0 x H locs ls hE hl hP hD hS hL
  have K := kk p l e s m args below meth c D cA A ad0 x H locs ls hE hl hP hD hS hL
  obtain ⟨hx, hb, hml, hr, hlo, hown, hts, hK, hA, hnm⟩ := hE
  have hcat2 : ((st.map (cv (ad0 ++ x))).map fun v => v.category).sum ≤ 8 := by
    have e : (st.map (cv (ad0 ++ x))).map (fun v => v.category) = st.map (fun v => v.category) := by
      rw [List.map_map]; exact List.map_congr_left (fun v _ => cv_cat _ v)
    rw [e]; exact hcat
  exact va_mmin hx hb (by rw [hml]; exact hL.2.1.symm) hown (hts _ hlk) (hts _ hst) (hts _ wMath_in) (hts _ hco) (show 1 ≤ d + 1 by omega) (show _ ≤ 39 * (d + 1) by omega) hr1 hr2 hd K
theorem J_max {y z : Int32} (hd : decode M.by pc = .ok (.invokestatic idx, 3)) (hlk : Cond.methodLink (cnm M.cn) idx Lib.Math.max.name ∈ tb) (hst : Cond.static Lib.Math.max.name ∈ tb) (hco : Cond.code Lib.Math.max.name Lib.Math.max.code 2 (some .int) ∈ tb) (hcat : (st.map (fun v => v.category)).sum ≤ 8) (hr1 : cs ≤ mc) (hr2 : ss ≤ ms) (kk : J M (d + 1) mc ms Q (pc + 3) lv (.int (if z < y then y else z) :: st) hp cs ss) : J M (d + 1) mc ms Q pc lv (.int y :: .int z :: st) hp cs ss := by
  intro p l e s m args below meth c D cA A ad0 x H locs ls hE hl hP hD hS hL
  have K := kk p l e s m args below meth c D cA A ad0 x H locs ls hE hl hP hD hS hL
  obtain ⟨hx, hb, hml, hr, hlo, hown, hts, hK, hA, hnm⟩ := hE
  have hcat2 : ((st.map (cv (ad0 ++ x))).map fun v => v.category).sum ≤ 8 := by
    have e : (st.map (cv (ad0 ++ x))).map (fun v => v.category) = st.map (fun v => v.category) := by
      rw [List.map_map]; exact List.map_congr_left (fun v _ => cv_cat _ v)
    rw [e]; exact hcat
  exact va_mmax hx hb (by rw [hml]; exact hL.2.1.symm) hown (hts _ hlk) (hts _ hst) (hts _ wMath_in) (hts _ hco) (show 1 ≤ d + 1 by omega) (show _ ≤ 39 * (d + 1) by omega) hr1 hr2 hd K
end JMath
/-! ===== what is made ===== -/
def dfs (ci : Nat) : List Value := match clsL[ci]?, tyL[ci]? with
  | some (_, _, N), some ty => (List.range N).map (fun j => defaultValue (ty j))
  | _, _ => []
theorem cv_dflt (ad : List Nat) (t : FieldType) : cv ad (defaultValue t) = defaultValue t := by cases t <;> rfl
theorem cA_int {D : va_G} {cA : FieldType → ClassId} {s : State} {c' : ClassId} (hK : va_K D clsL (tysL cA) s) (hK' : va_K D clsL (tysL cA ++ [(c', .int)]) s) : c' = cA .int := by
  have h1 := (hK.2 0 _ rfl).2
  have h2 := (hK'.2 3 _ rfl).2
  exact Option.some.inj (h2.symm.trans h1)
theorem cA_bool {D : va_G} {cA : FieldType → ClassId} {s : State} {c' : ClassId} (hK : va_K D clsL (tysL cA) s) (hK' : va_K D clsL (tysL cA ++ [(c', .boolean)]) s) : c' = cA .boolean := by
  have h1 := (hK.2 1 _ rfl).2
  have h2 := (hK'.2 3 _ rfl).2
  exact Option.some.inj (h2.symm.trans h1)
theorem cA_rows {D : va_G} {cA : FieldType → ClassId} {s : State} {c' : ClassId} (hK : va_K D clsL (tysL cA) s) (hK' : va_K D clsL (tysL cA ++ [(c', .array .int)]) s) : c' = cA (.array .int) := by
  have h1 := (hK.2 2 _ rfl).2
  have h2 := (hK'.2 3 _ rfl).2
  exact Option.some.inj (h2.symm.trans h1)
theorem rep_getD (n j : Nat) : (List.replicate n (0 : Int32)).getD j 0 = 0 := by
  rw [List.getD_eq_getElem?_getD, List.getElem?_replicate]
  split <;> rfl
section JM
variable {M : MT} {d mc ms : Nat} {Q : Option Value → AH → Prop} {pc : Nat} {lv : List (Option Value)} {st : List Value} {hp : AH} {cs ss : Nat} {idx : Nat}
theorem J_new {ci N : Nat} {C : String} {T : u_T} (hd : decode M.by pc = .ok (.new idx, 3)) (hcl : Cond.classLink (cnm M.cn) idx C ∈ tb) (hinst : Cond.instantiable C N ∈ tb) (hini : Cond.initialized C ∈ tb) (hc : clsL[ci]? = some (C, T, N)) (hr1 : cs + 1 ≤ mc) (hr2 : ss + N ≤ ms) (hk1 : okH hp = true) (hk2 : okL hp.length lv = true) (hk3 : st.all (okV hp.length) = true)
    (kk : J M d mc ms Q (pc + 3) lv (.ref hp.length :: st) (hp ++ [.inr (.inr (ci, dfs ci))]) (cs + 1) (ss + N)) : J M d mc ms Q pc lv st hp cs ss := by
  intro p l e s m args below meth c D cA A ad0 x H locs ls hE hl hP hD hS hL
  have hE0 := hE
  obtain ⟨hx, hb, hml, hr, hlo, hown, hts, hK, hA, hnm⟩ := hE
  obtain ⟨hin, hne, ty, ht1, hty⟩ := clsL_ok hc
  have hdf : dfs ci = (List.range N).map (fun j => defaultValue (ty j)) := by unfold dfs; rw [hc, ht1]
  refine va_new (fs := dfs ci) hx hb hts hin ty hty hown (hts _ hcl) (hts _ hinst) (hts _ hini) hK hP hD hS hA hc (fun j hj => ?_) hr1 hr2 hd (fun q H1 hP1 hD1 hS1 => ?_)
  · rw [hdf]; unfold vp_V
    rw [List.getD_eq_getElem?_getD, List.getElem?_map, List.getElem?_range hj]; rfl
  · have hq : (ad0 ++ (x ++ [q])) = (ad0 ++ x) ++ [q] := (List.append_assoc _ _ _).symm
    have hfs : ∀ ad, (dfs ci).map (cv ad) = dfs ci := fun ad => by
      rw [hdf, List.map_map]; exact List.map_congr_left (fun j _ => cv_dflt ad _)
    have e9 : conc cA (ad0 ++ (x ++ [q])) (hp ++ [.inr (.inr (ci, dfs ci))]) = conc cA (ad0 ++ x) hp ++ [(q, .inr (ci, dfs ci))] := by
      rw [hq, conc_app hl hk1]
      simp only [List.zipWith_cons_cons, List.zipWith_nil_left, jC, hfs]
    rw [← e9] at hP1 hD1
    have hg : (ad0 ++ (x ++ [q])).getD hp.length 0 = q := by
      rw [hq, ← hl, List.getD_eq_getElem?_getD, List.getElem?_append_right (Nat.le_refl _), Nat.sub_self]; rfl
    have K := kk p l e s m args below meth c D cA A ad0 (x ++ [q]) H1 locs ls hE0 (by rw [hq, List.length_append, hl, List.length_append]; rfl) hP1 hD1 hS1 (by rw [hq]; exact jL_app hL (by rw [hl]; exact hk2))
    rw [List.map_cons] at K
    have e8 : st.map (cv (ad0 ++ (x ++ [q]))) = st.map (cv (ad0 ++ x)) := by rw [hq]; exact map_cv_app (by rw [hl]; exact hk3)
    rw [e8] at K
    have e7 : cv (ad0 ++ (x ++ [q])) (.ref hp.length) = .ref q := by show Value.ref _ = _; rw [hg]
    rw [e7] at K
    exact K
theorem J_newa {at_ : ArrayType} {ty : FieldType} {n : Int32} {k : Nat} (hd : decode M.by pc = .ok (.newarray at_, 2)) (hat : newarray.typeOf at_ = ty) (hty : ty = .int ∨ ty = .boolean) (hw : Cond.arrayClass ty ∈ tb) (hn : ¬ n < 0) (hk : n.toNatClampNeg = k) (hbig : k ≤ 100000) (hr1 : cs + 1 ≤ mc) (hr2 : ss + k ≤ ms) (hk1 : okH hp = true) (hk2 : okL hp.length lv = true) (hk3 : st.all (okV hp.length) = true)
    (kk : J M d mc ms Q (pc + 2) lv (.ref hp.length :: st) (hp ++ [.inl (ty, List.replicate k 0)]) (cs + 1) (ss + k)) : J M d mc ms Q pc lv (.int n :: st) hp cs ss := by
  intro p l e s m args below meth c D cA A ad0 x H locs ls hE hl hP hD hS hL
  have hE0 := hE
  obtain ⟨hx, hb, hml, hr, hlo, hown, hts, hK, hA, hnm⟩ := hE
  have hd0 : defaultValue ty = .int 0 := by rcases hty with h | h <;> rw [h] <;> rfl
  have hcb : componentBytes ty ≤ 4 := by rcases hty with h | h <;> rw [h] <;> decide
  refine va_newa (ty := ty) (a0 := (k, .inl (fun j => (List.replicate k 0).getD j 0))) hx hb (by rw [hat]; exact hts _ hw) hat hK hP hD hS hA (fun c9 => ?_) hn hk (Nat.le_trans (Nat.mul_le_mul_left k hcb) (by omega)) hr1 hr2 hd (fun q c9 H1 hK1 hP1 hD1 hS1 => ?_)
  · rw [vp_cell_i, hd0]
    congr 1
    funext j
    rw [rep_getD]
  · have hc9 : c9 = cA ty := by
      rcases hty with h | h
      · subst h; exact cA_int hK hK1
      · subst h; exact cA_bool hK hK1
    subst hc9
    have hq : (ad0 ++ (x ++ [q])) = (ad0 ++ x) ++ [q] := (List.append_assoc _ _ _).symm
    have e9 : conc cA (ad0 ++ (x ++ [q])) (hp ++ [.inl (ty, List.replicate k 0)]) = conc cA (ad0 ++ x) hp ++ [(q, .inl (cA ty, (k, .inl (fun j => (List.replicate k 0).getD j 0))))] := by
      rw [hq, conc_app hl hk1]
      simp only [List.zipWith_cons_cons, List.zipWith_nil_left, jC, List.length_replicate]
    rw [← e9] at hP1 hD1
    have hg : (ad0 ++ (x ++ [q])).getD hp.length 0 = q := by
      rw [hq, ← hl, List.getD_eq_getElem?_getD, List.getElem?_append_right (Nat.le_refl _), Nat.sub_self]; rfl
    have K := kk p l e s m args below meth c D cA A ad0 (x ++ [q]) H1 locs ls hE0 (by rw [hq, List.length_append, hl, List.length_append]; rfl) hP1 hD1 hS1 (by rw [hq]; exact jL_app hL (by rw [hl]; exact hk2))
    rw [List.map_cons] at K
    have e8 : st.map (cv (ad0 ++ (x ++ [q]))) = st.map (cv (ad0 ++ x)) := by rw [hq]; exact map_cv_app (by rw [hl]; exact hk3)
    rw [e8] at K
    have e7 : cv (ad0 ++ (x ++ [q])) (.ref hp.length) = .ref q := by show Value.ref _ = _; rw [hg]
    rw [e7] at K
    exact K
theorem J_mna {n k : Int32} {n' k' : Nat} (hd : decode M.by pc = .ok (.multianewarray idx 2, 4)) (hcl : Cond.classLink (cnm M.cn) idx "[[I" ∈ tb) (hw : Cond.arrayClass .int ∈ tb) (hn : ¬ n < 0) (hk : ¬ k < 0) (hN : n.toNatClampNeg = n') (hK' : k.toNatClampNeg = k') (hb1 : n' ≤ 1000) (hb2 : k' ≤ 1000) (hr1 : cs + (1 + n') ≤ mc) (hr2 : ss + (n' + n' * k') ≤ ms) (hk1 : okH hp = true) (hk2 : okL hp.length lv = true) (hk3 : st.all (okV hp.length) = true)
    (kk : J M d mc ms Q (pc + 4) lv (.ref hp.length :: st) (hp ++ (.inr (.inl ((List.range n').map (fun i => hp.length + 1 + i))) :: List.replicate n' (.inl (.int, List.replicate k' 0)))) (cs + 1 + n') (ss + n' + n' * k')) : J M d mc ms Q pc lv (.int k :: .int n :: st) hp cs ss := by
  intro p l e s m args below meth c D cA A ad0 x H locs ls hE hl hP hD hS hL
  have hE0 := hE
  obtain ⟨hx, hb, hml, hr, hlo, hown, hts, hK, hA, hnm⟩ := hE
  refine va_mna (X := conc cA (ad0 ++ x) hp) (L := []) (f := fun _ => .inr (0, [])) (ty := .int) (cy := cA .int) (z := (k', .inl (fun j => (List.replicate k' 0).getD j 0))) hx hb hown (hts _ hcl) hnm.2.2 (hts _ hw) (hK.2 0 _ rfl).2 hK (by simpa [va_pl] using hP) (by simpa [va_pl] using hD) hS hA hn hk hN hK' (by omega) (by show k' * 4 ≤ _; omega) (by omega) rfl rfl hr1 hr2 (fun c9 => ?_) hd (fun q r c9 H1 hinj hnot hK1 hP1 hD1 hS1 => ?_)
  · rw [vp_cell_i]
    have : (fun j => Value.int ((List.replicate k' (0 : Int32)).getD j 0)) = (fun _ => Value.int 0) := by funext j; rw [rep_getD]
    rw [this, ← arrV_new]; rfl
  · have hc9 : c9 = cA (.array .int) := cA_rows hK hK1
    subst hc9
    have hq : (ad0 ++ (x ++ (q :: (List.range n').map r))) = (ad0 ++ x) ++ (q :: (List.range n').map r) := (List.append_assoc _ _ _).symm
    have hrow : ∀ i, i < n' → ((ad0 ++ x) ++ (q :: (List.range n').map r)).getD (hp.length + 1 + i) 0 = r i := fun i hi => by
      rw [List.getD_eq_getElem?_getD, List.getElem?_append_right (by omega), ← hl]
      have : (ad0 ++ x).length + 1 + i - (ad0 ++ x).length = i + 1 := by omega
      rw [this, List.getElem?_cons_succ, List.getElem?_map, List.getElem?_range hi]; rfl
    have e9 : conc cA (ad0 ++ (x ++ (q :: (List.range n').map r))) (hp ++ (.inr (.inl ((List.range n').map (fun i => hp.length + 1 + i))) :: List.replicate n' (.inl (.int, List.replicate k' 0)))) = (conc cA (ad0 ++ x) hp ++ [(q, .inl (cA (.array .int), n', .inr (.inr (.inr (.inr (fun i => if i < n' then some (r i) else none))))))]) ++ va_pl ([] ++ (List.range n').map r) (vr_up (fun _ => .inr (0, [])) ((List.range n').map r) (.inl (cA .int, (k', .inl (fun j => (List.replicate k' 0).getD j 0))))) := by
      rw [hq, conc_app hl hk1, List.append_assoc (conc cA (ad0 ++ x) hp) [_]]
      congr 1
      rw [List.zipWith_cons_cons]
      show _ :: _ = _ :: _
      congr 1
      · simp only [jC, List.length_map, List.length_range]
        have : (fun j : Nat => (((List.range n').map (fun i => hp.length + 1 + i))[j]?).map (fun r' => ((ad0 ++ x) ++ (q :: (List.range n').map r)).getD r' 0)) = (fun i => if i < n' then some (r i) else none) := by
          funext j
          by_cases hj : j < n'
          · rw [List.getElem?_map, List.getElem?_range hj, if_pos hj]
            simp only [Option.map_some]
            rw [hrow j hj]
          · rw [List.getElem?_eq_none (by simp; omega), if_neg hj]; rfl
        rw [this]
      · show List.zipWith _ ((List.range n').map r) _ = List.map (fun a : Nat => ((a, vr_up (fun _ => (.inr (0, []) : va_E)) ((List.range n').map r) (.inl (cA .int, (k', .inl (fun j => (List.replicate k' 0).getD j 0))) : va_E) a) : Nat × va_E)) ((List.range n').map r)
        apply List.ext_getElem?
        intro j
        rw [List.getElem?_zipWith]
        generalize hF : (fun a : Nat => ((a, vr_up (fun _ => (.inr (0, []) : va_E)) ((List.range n').map r) (.inl (cA .int, (k', .inl (fun j => (List.replicate k' 0).getD j 0))) : va_E) a) : Nat × va_E)) = F
        have h2 : (List.map F ((List.range n').map r))[j]? = (((List.range n').map r)[j]?).map F := List.getElem?_map
        rw [h2]
        by_cases hj : j < n'
        · have h1 : ((List.range n').map r)[j]? = some (r j) := by rw [List.getElem?_map, List.getElem?_range hj]; rfl
          rw [h1, List.getElem?_replicate, if_pos hj]
          simp only [jC, List.length_replicate, Option.map_some]
          rw [← hF]
          simp only
          rw [vr_up_in (List.mem_of_getElem? h1)]
        · have h1 : ((List.range n').map r)[j]? = none := List.getElem?_eq_none (by simp; omega)
          rw [h1]; rfl
    rw [← e9] at hP1 hD1
    have hg : (ad0 ++ (x ++ (q :: (List.range n').map r))).getD hp.length 0 = q := by
      rw [hq, ← hl, List.getD_eq_getElem?_getD, List.getElem?_append_right (Nat.le_refl _), Nat.sub_self]; rfl
    have K := kk p l e s m args below meth c D cA A ad0 (x ++ (q :: (List.range n').map r)) H1 locs ls hE0 (by rw [hq, List.length_append, hl, List.length_append]; simp) hP1 hD1 hS1 (by rw [hq]; exact jL_app hL (by rw [hl]; exact hk2))
    rw [List.map_cons] at K
    have e8 : st.map (cv (ad0 ++ (x ++ (q :: (List.range n').map r)))) = st.map (cv (ad0 ++ x)) := by rw [hq]; exact map_cv_app (by rw [hl]; exact hk3)
    rw [e8] at K
    have e7 : cv (ad0 ++ (x ++ (q :: (List.range n').map r))) (.ref hp.length) = .ref q := by show Value.ref _ = _; rw [hg]
    rw [e7] at K
    exact K
end JM
/-! what the checks say -/
theorem mOkB_spec {k : Nat} (h : mOkC k = true) : ∃ M n, mtL[k]? = some M ∧ npL[k]? = some n ∧ nOk M ∧ np M = some n := by
  unfold mOkC at h
  split at h
  · rename_i M a b n h1 h2 h3
    simp only [Bool.and_eq_true, decide_eq_true_eq] at h
    obtain ⟨c1, c2, c3, c4, c5, c6⟩ := h
    have hc := List.all_eq_true.mp clsB_ok M.cn (List.mem_range.mpr c2)
    unfold clsB at hc
    rw [Bool.or_eq_true, decide_eq_true_eq] at hc
    rcases hc with hc | hc
    · exact absurd hc c3
    · simp only [Bool.and_eq_true, decide_eq_true_eq] at hc
      obtain ⟨d1, d2, d3, d4⟩ := hc
      rw [← c5] at d1 d2 d3 d4
      exact ⟨M, n, h1, h3, ⟨chkCo_in c1, chkW_in d1, ⟨d2, d3⟩, c4, d4, c5⟩, c6⟩
  · cases h
/-! ===== an evaluator over the tables, and that it speaks true ===== -/
def inB (i : Int32) (n : Nat) : Bool := !(decide (i < 0) || decide (n ≤ i.toNatClampNeg))
theorem inB_spec {i : Int32} {n : Nat} (h : inB i n = true) : vp_in i n := by
  unfold inB at h
  rw [Bool.not_eq_true', Bool.or_eq_false_iff, decide_eq_false_iff_not, decide_eq_false_iff_not] at h
  exact fun q => q.elim h.1 h.2
def catB (st : List Value) : Bool := decide ((st.map (fun v => v.category)).sum ≤ 8)
def lnB (i : Instr) (len : Nat) : Bool := match i with
  | .tableswitch _ _ _ _ => true
  | .lookupswitch _ _ => true
  | .getfield _ => len == 3
  | .putfield _ => len == 3
  | .ldc_w _ => len == 3
  | .ldc2_w _ => len == 3
  | .invokestatic _ => len == 3
  | .invokevirtual _ => len == 3
  | .invokespecial _ => len == 3
  | .ifCond _ _ => len == 3
  | .if_icmp _ _ => len == 3
  | .new _ => len == 3
  | .ldc _ => len == 2
  | .newarray _ => len == 2
  | .multianewarray _ _ => len == 4
  | j => len == sN j
def hA (d : Nat) (M : MT) (i : Instr) (pc : Nat) (st : List Value) (hp : AH) : Option (Nat × List Value × AH) := match i with
  | .getfield idx => match st with
    | .ref r :: st' => match fRes M.cn idx, hp[r]? with
      | some (ci, sl, _), some (.inr (.inr (cj, fs))) => if ci = cj then (match fs[sl]? with
        | some v => some (pc + 3, v :: st', hp)
        | none => none) else none
      | _, _ => none
    | _ => none
  | .putfield idx => match st with
    | v :: .ref r :: st' => match fRes M.cn idx, hp[r]? with
      | some (ci, sl, _), some (.inr (.inr (cj, fs))) => if ci = cj ∧ sl < fs.length ∧ fHold (fTy ci sl) v = true ∧ (fFin ci sl = false ∨ (ci = M.cn ∧ M.y.name = "<init>")) then some (pc + 3, st', hp.set r (.inr (.inr (ci, fs.set sl v)))) else none
      | _, _ => none
    | _ => none
  | .iaload => match st with
    | .int ix :: .ref r :: st' => match hp[r]? with
      | some (.inl (.int, xs)) => if inB ix xs.length = true then some (pc + 1, .int (xs.getD ix.toNatClampNeg 0) :: st', hp) else none
      | _ => none
    | _ => none
  | .iastore => match st with
    | .int y :: .int ix :: .ref r :: st' => match hp[r]? with
      | some (.inl (.int, xs)) => if inB ix xs.length = true then some (pc + 1, st', hp.set r (.inl (.int, xs.set ix.toNatClampNeg y))) else none
      | _ => none
    | _ => none
  | .baload => match st with
    | .int ix :: .ref r :: st' => match hp[r]? with
      | some (.inl (.boolean, xs)) => if inB ix xs.length = true then some (pc + 1, .int (xs.getD ix.toNatClampNeg 0) :: st', hp) else none
      | _ => none
    | _ => none
  | .bastore => match st with
    | .int y :: .int ix :: .ref r :: st' => match hp[r]? with
      | some (.inl (.boolean, xs)) => if inB ix xs.length = true then some (pc + 1, st', hp.set r (.inl (.boolean, xs.set ix.toNatClampNeg (vp_nar .boolean y)))) else none
      | _ => none
    | _ => none
  | .aaload => match st with
    | .int ix :: .ref r :: st' => match hp[r]? with
      | some (.inr (.inl rs)) => if inB ix rs.length = true then (match rs[ix.toNatClampNeg]? with
        | some q => some (pc + 1, .ref q :: st', hp)
        | none => none) else none
      | _ => none
    | _ => none
  | .arraylength => match st with
    | .ref r :: st' => match hp[r]? with
      | some (.inl (.int, xs)) => some (pc + 1, .int (Int32.ofNat xs.length) :: st', hp)
      | _ => none
    | _ => none
  | .idiv => match st with
    | .int y :: .int x :: st' => if y = 0 then none else some (pc + 1, .int (x / y) :: st', hp)
    | _ => none
  | .irem => match st with
    | .int y :: .int x :: st' => if y = 0 then none else some (pc + 1, .int (x - x / y * y) :: st', hp)
    | _ => none
  | .ldiv => match st with
    | .long y :: .long x :: st' => if y = 0 then none else some (pc + 1, .long (x / y) :: st', hp)
    | _ => none
  | .lrem => match st with
    | .long y :: .long x :: st' => if y = 0 then none else some (pc + 1, .long (x - x / y * y) :: st', hp)
    | _ => none
  | .tableswitch dflt lo hi offs => match st with
    | .int x :: st' => match swT dflt lo hi offs pc x with
      | some t => some (t, st', hp)
      | none => none
    | _ => none
  | .lookupswitch dflt ps => match st with
    | .int x :: st' => if (ps.toList.zip (ps.toList.drop 1)).all (fun (a, next) => a.1 < next.1) = true then (match tgt pc (Op.lookupswitch.offset ps.toList dflt x.toInt) with
      | some t => some (t, st', hp)
      | none => none) else none
    | _ => none
  | .ldc idx => match ciRes M.cn idx with
    | some (v, _) => some (pc + 2, .int v :: st, hp)
    | none => none
  | .ldc_w idx => match ciRes M.cn idx with
    | some (v, _) => some (pc + 3, .int v :: st, hp)
    | none => none
  | .ldc2_w idx => match clRes M.cn idx with
    | some (v, _) => some (pc + 3, .long v :: st, hp)
    | none => none
  | .invokespecial idx => match mRes M.cn idx, st with
    | some (kd, _, _, _, _), .ref _ :: st' => if kd = 5 ∧ catB st' = true ∧ 0 < d then some (pc + 3, st', hp) else none
    | _, _ => none
  | .invokestatic idx => match mRes M.cn idx, st with
    | some (kd, _, _, _, _), .int n :: .int dp :: .ref k1 :: .int sp :: .ref k0 :: st' => match hp[k0]?, hp[k1]? with
      | some (.inl (.int, xs)), some (.inl (.int, ys)) => if kd = 6 ∧ catB st' = true ∧ 0 < d ∧ ¬ sp < 0 ∧ ¬ dp < 0 ∧ ¬ n < 0 ∧ sp.toNatClampNeg + n.toNatClampNeg ≤ xs.length ∧ dp.toNatClampNeg + n.toNatClampNeg ≤ ys.length then some (pc + 3, st', hp.set k1 (.inl (.int, cpyL xs ys sp.toNatClampNeg dp.toNatClampNeg n.toNatClampNeg))) else none
      | _, _ => none
    | _, _ => none
  | _ => none
section JHA
variable {M : MT} {d mc ms : Nat} {Q : Option Value → AH → Prop} {pc pc' len : Nat} {lv : List (Option Value)} {st st' : List Value} {hp hp' : AH} {cs ss : Nat} {i : Instr}
theorem mRes_row {cn idx : Nat} {e : Nat × Nat × Nat × Nat × Nat} (h : mRes cn idx = some e) : mRowB cn (idx, e) = true := mrB_ok h
theorem J_h (hd : decode M.by pc = .ok (i, len)) (hn : lnB i len = true) (hs : hA d M i pc st hp = some (pc', st', hp')) (k : J M d mc ms Q pc' lv st' hp' cs ss) : J M d mc ms Q pc lv st hp cs ss := by
  cases i with
  | getfield idx =>
    have hl : len = 3 := by simpa [lnB] using hn
    subst hl
    simp only [hA] at hs
    split at hs
    · split at hs
      · rename_i ci sl w cj fs h1 h2
        split at hs
        · rename_i hc; subst hc
          split at hs
          · rename_i v hv; cases hs; exact J_get hd (fRes_ok h1) h2 hv k
          · cases hs
        · cases hs
      · cases hs
    · cases hs
  | putfield idx =>
    have hl : len = 3 := by simpa [lnB] using hn
    subst hl
    simp only [hA] at hs
    split at hs
    · split at hs
      · rename_i ci sl w cj fs h1 h2
        split at hs
        · rename_i hc
          obtain ⟨c1, c2, c3, c4⟩ := hc
          subst c1
          cases hs
          rcases c4 with c4 | ⟨c4, c5⟩
          · exact J_put hd (fRes_ok h1) h2 c2 c4 c3 k
          · by_cases hf : fFin ci sl = false
            · exact J_put hd (fRes_ok h1) h2 c2 hf c3 k
            · obtain ⟨C9, T9, N9, g1, g2, g3⟩ := fOk_spec (fRes_ok h1)
              refine J_putF hd (fRes_ok h1) h2 c2 (by simpa using hf) c5 (fun C T N hc => ?_) c3 k
              rw [g1] at hc
              cases hc
              rw [← c4]
              exact decl_own g1 g2
        · cases hs
      · cases hs
    · cases hs
  | iaload =>
    have hl : len = 1 := by simpa [lnB, sN] using hn
    subst hl
    simp only [hA] at hs
    split at hs
    · split at hs
      · rename_i xs h1
        split at hs
        · rename_i hi; cases hs; exact J_ald hd h1 (inB_spec hi) k
        · cases hs
      · cases hs
    · cases hs
  | iastore =>
    have hl : len = 1 := by simpa [lnB, sN] using hn
    subst hl
    simp only [hA] at hs
    split at hs
    · split at hs
      · rename_i xs h1
        split at hs
        · rename_i hi; cases hs; exact J_ast hd h1 (inB_spec hi) k
        · cases hs
      · cases hs
    · cases hs
  | baload =>
    have hl : len = 1 := by simpa [lnB, sN] using hn
    subst hl
    simp only [hA] at hs
    split at hs
    · split at hs
      · rename_i xs h1
        split at hs
        · rename_i hi; cases hs; exact J_zald hd h1 (inB_spec hi) k
        · cases hs
      · cases hs
    · cases hs
  | bastore =>
    have hl : len = 1 := by simpa [lnB, sN] using hn
    subst hl
    simp only [hA] at hs
    split at hs
    · split at hs
      · rename_i xs h1
        split at hs
        · rename_i hi; cases hs; exact J_zast hd h1 (inB_spec hi) k
        · cases hs
      · cases hs
    · cases hs
  | aaload =>
    have hl : len = 1 := by simpa [lnB, sN] using hn
    subst hl
    simp only [hA] at hs
    split at hs
    · split at hs
      · rename_i rs h1
        split at hs
        · rename_i hi
          split at hs
          · rename_i q hq; cases hs; exact J_aald hd h1 (inB_spec hi) hq k
          · cases hs
        · cases hs
      · cases hs
    · cases hs
  | arraylength =>
    have hl : len = 1 := by simpa [lnB, sN] using hn
    subst hl
    simp only [hA] at hs
    split at hs
    · split at hs
      · rename_i xs h1; cases hs; exact J_alen hd h1 rfl k
      · cases hs
    · cases hs
  | idiv =>
    have hl : len = 1 := by simpa [lnB, sN] using hn
    subst hl
    simp only [hA] at hs
    split at hs
    · split at hs
      · cases hs
      · rename_i hy; cases hs; exact J_idiv hd hy k
    · cases hs
  | irem =>
    have hl : len = 1 := by simpa [lnB, sN] using hn
    subst hl
    simp only [hA] at hs
    split at hs
    · split at hs
      · cases hs
      · rename_i hy; cases hs; exact J_irem hd hy k
    · cases hs
  | ldiv =>
    have hl : len = 1 := by simpa [lnB, sN] using hn
    subst hl
    simp only [hA] at hs
    split at hs
    · split at hs
      · cases hs
      · rename_i hy; cases hs; exact J_ldiv hd hy k
    · cases hs
  | lrem =>
    have hl : len = 1 := by simpa [lnB, sN] using hn
    subst hl
    simp only [hA] at hs
    split at hs
    · split at hs
      · cases hs
      · rename_i hy; cases hs; exact J_lrem hd hy k
    · cases hs
  | tableswitch dflt lo hi offs =>
    simp only [hA] at hs
    split at hs
    · split at hs
      · rename_i t ht; cases hs; exact J_tsw hd ht k
      · cases hs
    · cases hs
  | lookupswitch dflt ps =>
    simp only [hA] at hs
    split at hs
    · split at hs
      · rename_i hp0
        split at hs
        · rename_i t ht; cases hs; exact J_lsw hd hp0 ht k
        · cases hs
      · cases hs
    · cases hs
  | ldc idx =>
    have hl : len = 2 := by simpa [lnB] using hn
    subst hl
    simp only [hA] at hs
    split at hs
    · rename_i v w h1; cases hs; exact J_ldc hd (ciRes_ok h1) k
    · cases hs
  | ldc_w idx =>
    have hl : len = 3 := by simpa [lnB] using hn
    subst hl
    simp only [hA] at hs
    split at hs
    · rename_i v w h1; cases hs; exact J_ldcw hd (ciRes_ok h1) k
    · cases hs
  | ldc2_w idx =>
    have hl : len = 3 := by simpa [lnB] using hn
    subst hl
    simp only [hA] at hs
    split at hs
    · rename_i v w h1; cases hs; exact J_ldc2 hd (clRes_ok h1) k
    · cases hs
  | invokespecial idx =>
    have hl : len = 3 := by simpa [lnB] using hn
    subst hl
    simp only [hA] at hs
    split at hs
    · rename_i kd a1 a2 a3 a4 r st1 h1
      split at hs
      · rename_i hc
        obtain ⟨c1, c2, c3⟩ := hc
        cases hs
        obtain ⟨d', rfl⟩ : ∃ d', d = d' + 1 := ⟨d - 1, by omega⟩
        have hr := mRes_row h1
        subst c1
        simp [mRowB] at hr
        exact J_objI hd (chkW_in hr.1) (chkW_in hr.2.1) (chkW_in hr.2.2) (by simpa [catB] using c2) k
      · cases hs
    · cases hs
  | invokestatic idx =>
    have hl : len = 3 := by simpa [lnB] using hn
    subst hl
    simp only [hA] at hs
    split at hs
    · rename_i kd a1 a2 a3 a4 n dp k1 sp k0 st1 h1
      split at hs
      · rename_i xs ys g0 g1
        split at hs
        · rename_i hc
          obtain ⟨c1, c2, c3, c4, c5, c6, c7, c8⟩ := hc
          cases hs
          obtain ⟨d', rfl⟩ : ∃ d', d = d' + 1 := ⟨d - 1, by omega⟩
          have hr := mRes_row h1
          subst c1
          simp [mRowB] at hr
          exact J_acopy hd (chkW_in hr.1) (chkW_in hr.2.1) (chkW_in hr.2.2) wSys_in g0 g1 c4 c5 c6 c7 c8 (by simpa [catB] using c2) k
        · cases hs
      · cases hs
    · cases hs
  | _ => cases hs
end JHA
/-! ===== the evaluator ===== -/
def rA (rt : Option FieldType) (i : Instr) (st : List Value) : Option (Option Value) := match i with
  | .ireturn => match st with
    | [.int x] => match rt with
      | some .int => some (some (.int x))
      | some .boolean => if x = 0 ∨ x = 1 then some (some (.int x)) else none
      | _ => none
    | _ => none
  | .lreturn => match st with
    | [.long x] => match rt with
      | some .long => some (some (.long x))
      | _ => none
    | _ => none
  | .areturn => match st with
    | [.ref x] => match rt with
      | some (.object _) => some (some (.ref x))
      | some (.array _) => some (some (.ref x))
      | _ => none
    | _ => none
  | .return_ => match st with
    | [] => match rt with
      | none => some none
      | _ => none
    | _ => none
  | _ => none
/-- a call: the callee's number, its arguments, what is left -/
def kA (cn : Nat) (i : Instr) (st : List Value) (hp : AH) : Option (Nat × List Value × List Value) := match i with
  | .invokestatic idx => match mRes cn idx with
    | some (kd, N, _) => if (kd = 0 ∨ kd = 1) ∧ npL.getD N 0 ≤ st.length then some (N, (st.take (npL.getD N 0)).reverse, st.drop (npL.getD N 0)) else none
    | none => none
  | .invokevirtual idx => match mRes cn idx with
    | some (kd, N, _) => match st.drop (npL.getD N 0) with
      | .ref r :: st' => match hp[r]?, mtL[N]? with
        | some (.inr (.inr (ci, _))), some M => if kd = 2 ∧ ci = M.cn ∧ ci < 8 then some (N, .ref r :: (st.take (npL.getD N 0)).reverse, st') else none
        | _, _ => none
      | _ => none
    | none => none
  | .invokespecial idx => match mRes cn idx with
    | some (kd, N, _) => match st.drop (npL.getD N 0) with
      | .ref r :: st' => if kd = 3 ∨ kd = 4 then some (N, .ref r :: (st.take (npL.getD N 0)).reverse, st') else none
      | _ => none
    | none => none
  | _ => none
/-- Math's two -/
def xA (cn : Nat) (i : Instr) (st : List Value) : Option Value × List Value := match i with
  | .invokestatic idx => match mRes cn idx, st with
    | some (kd, _), .int y :: .int x :: st' => if kd = 7 then (some (.int (if y < x then y else x)), st') else if kd = 8 then (some (.int (if x < y then y else x)), st') else (none, [])
    | _, _ => (none, [])
  | _ => (none, [])
def aA (cn : Nat) (i : Instr) (st : List Value) (hp : AH) : Option (Nat × List Value × List AC × Nat × Nat) := match i with
  | .new idx => match nwRes cn idx with
    | some (ci, _) => match clsL[ci]? with
      | some (_, _, N) => some (3, st, [.inr (.inr (ci, dfs ci))], 1, N)
      | none => none
    | none => none
  | .newarray .int => match st with
    | .int n :: st' => if ¬ n < 0 ∧ n.toNatClampNeg ≤ 100000 then some (2, st', [.inl (.int, List.replicate n.toNatClampNeg 0)], 1, n.toNatClampNeg) else none
    | _ => none
  | .newarray .boolean => match st with
    | .int n :: st' => if ¬ n < 0 ∧ n.toNatClampNeg ≤ 100000 then some (2, st', [.inl (.boolean, List.replicate n.toNatClampNeg 0)], 1, n.toNatClampNeg) else none
    | _ => none
  | .multianewarray idx 2 => match mnRes cn idx, st with
    | some _, .int k :: .int n :: st' => if ¬ n < 0 ∧ ¬ k < 0 ∧ n.toNatClampNeg ≤ 1000 ∧ k.toNatClampNeg ≤ 1000 then some (4, st', .inr (.inl ((List.range n.toNatClampNeg).map (fun i => hp.length + 1 + i))) :: List.replicate n.toNatClampNeg (.inl (.int, List.replicate k.toNatClampNeg 0)), 1 + n.toNatClampNeg, n.toNatClampNeg + n.toNatClampNeg * k.toNatClampNeg) else none
    | _, _ => none
  | _ => none
abbrev OR : Type := Nat → Nat → List Value → AH → Option (Option Value × AH)
def noO : OR := fun _ _ _ _ => none
def ev (O : OR) : Nat → Nat → Nat → Nat → List (Option Value) → List Value → AH → Nat → Nat → Option (Option Value × AH × Nat × Nat)
  | 0, _, _, _, _, _, _, _, _ => none
  | f + 1, d, k, pc, lv, st, hp, cs, ss => match mtL[k]?, (cdL.getD k [])[pc]? with
    | some M, some (some (i, _)) => match sA i pc lv st with
      | some (pc', lv', st') => ev O f d k pc' lv' st' hp cs ss
      | none => match bA i pc st with
        | some (b, t, st') => if b = true then ev O f d k t lv st' hp cs ss else ev O f d k (pc + 3) lv st' hp cs ss
        | none => match hA d M i pc st hp with
          | some (pc', st', hp') => ev O f d k pc' lv st' hp' cs ss
          | none => match rA M.rt i st with
            | some v => some (v, hp, cs, ss)
            | none => match kA M.cn i st hp with
              | some (N, as, st') => match d, mtL[N]? with
                | d' + 1, some NM => match O d' N as hp with
                  | some (v, hp') => if catB st' = true then ev O f (d' + 1) k (pc + 3) lv (v.toList ++ st') hp' cs ss else none
                  | none => if catB st' = true ∧ (as.map (fun v => v.category)).sum ≤ NM.ml then (match ev O f d' N 0 (entL as NM.ml) [] hp 0 0 with
                  | some (v, hp', c', s') => if hp'.length = hp.length ∨ (okL hp.length lv = true ∧ st'.all (okV hp.length) = true) then ev O f (d' + 1) k (pc + 3) lv (v.toList ++ st') hp' (cs + c') (ss + s') else none
                  | none => none) else none
                | _, _ => none
              | none => match xA M.cn i st with
                | (some v, st') => if catB st' = true ∧ 0 < d then ev O f d k (pc + 3) lv (v :: st') hp cs ss else none
                | (none, _) => match aA M.cn i st hp with
                  | some (n, st', cl, c', s') => if okH hp = true ∧ okL hp.length lv = true ∧ st'.all (okV hp.length) = true then ev O f d k (pc + n) lv (.ref hp.length :: st') (hp ++ cl) (cs + c') (ss + s') else none
                  | none => none
    | _, _ => none
theorem lg_len (ad : List Nat) : ∀ as : List Value, (lg_sl (as.map (cv ad))).length = (as.map (fun v => v.category)).sum
  | [] => rfl
  | v :: as => by
    have ih := lg_len ad as
    unfold lg_sl at ih ⊢
    rw [List.map_cons, List.flatMap_cons, List.length_append, ih, List.map_cons, List.sum_cons, cv_cat]
    congr 1
    rcases lv_cat v with h | h <;> rw [h] <;> simp
def lnAll (k : Nat) : Bool := (cdL.getD k []).all (fun o => match o with
  | some (i, l) => lnB i l
  | none => true)
set_option maxRecDepth 100000 in
theorem lnAll_ok : (List.range 203).all lnAll = true := by decide +kernel
theorem mt_lt {k : Nat} {M : MT} (h : mtL[k]? = some M) : k < 203 := by
  have h1 := (List.getElem?_eq_some_iff.mp h).1
  have h2 : mtL.length = 203 := by decide +kernel
  omega
theorem mt_ok {k : Nat} {M : MT} (h : mtL[k]? = some M) : nOk M ∧ np M = some (npL.getD k 0) := by
  obtain ⟨M', n, h1, h2, h3, h4⟩ := mOkB_spec (mk_all (mt_lt h))
  rw [h] at h1
  cases h1
  refine ⟨h3, ?_⟩
  rw [List.getD_eq_getElem?_getD, h2]
  exact h4
theorem cd_at {k pc len : Nat} {M : MT} {i : Instr} (h : mtL[k]? = some M) (hc : (cdL.getD k [])[pc]? = some (some (i, len))) : decode M.by pc = .ok (i, len) ∧ lnB i len = true := by
  have hk := mt_lt h
  have h1 := ck_all hk
  unfold cdB at h1
  rw [h] at h1
  cases ht : cdL[k]? with
  | none => rw [ht] at h1; cases h1
  | some t =>
    rw [ht] at h1
    have hg : cdL.getD k [] = t := by rw [List.getD_eq_getElem?_getD, ht]; rfl
    rw [hg] at hc
    refine ⟨by have := cdOk_spec h1 pc (i, len) hc; rwa [Nat.zero_add] at this, ?_⟩
    have h2 := List.all_eq_true.mp lnAll_ok k (List.mem_range.mpr hk)
    unfold lnAll at h2
    rw [hg] at h2
    exact List.all_eq_true.mp h2 _ (List.mem_of_getElem? hc)
theorem cls_nm {ci : Nat} (h : ci < 8) : (clsL[ci]?).map (fun q => q.1) = some (cnm ci) := by
  match ci, h with
  | 0, _ => rfl
  | 1, _ => rfl
  | 2, _ => rfl
  | 3, _ => rfl
  | 4, _ => rfl
  | 5, _ => rfl
  | 6, _ => rfl
  | 7, _ => rfl
/-- rows that need no callee: lengths out of lnB -/
theorem sA_len {i : Instr} {pc len : Nat} {lv : List (Option Value)} {st : List Value} {r : Nat × List (Option Value) × List Value} (hs : sA i pc lv st = some r) (hn : lnB i len = true) : len = sN i := by
  cases i <;> first | (exact (by simpa [lnB] using hn)) | (cases hs)
theorem bA_len {i : Instr} {pc len : Nat} {st : List Value} {r : Bool × Nat × List Value} (hs : bA i pc st = some r) (hn : lnB i len = true) : len = 3 := by
  cases i <;> first | (exact (by simpa [lnB] using hn)) | (cases hs)
theorem J_r {M : MT} {d mc ms pc len cs ss : Nat} {lv : List (Option Value)} {st : List Value} {hp : AH} {i : Instr} {v : Option Value} {Q : Option Value → AH → Prop} (hd : decode M.by pc = .ok (i, len)) (hn : lnB i len = true) (hr : rA M.rt i st = some v) (h1 : cs ≤ mc) (h2 : ss ≤ ms) (hQ : Q v hp) : J M d mc ms Q pc lv st hp cs ss := by
  cases i with
  | ireturn =>
    have hl : len = 1 := by simpa [lnB, sN] using hn
    subst hl
    simp only [rA] at hr
    split at hr
    · split at hr
      · rename_i hrt; cases hr; exact J_iret hd hrt rfl h1 h2 hQ
      · rename_i hrt
        split at hr
        · rename_i hx; cases hr
          refine J_iret hd hrt ?_ h1 h2 hQ
          rcases hx with hx | hx <;> subst hx <;> rfl
        · cases hr
      · cases hr
    · cases hr
  | lreturn =>
    have hl : len = 1 := by simpa [lnB, sN] using hn
    subst hl
    simp only [rA] at hr
    split at hr
    · split at hr
      · rename_i hrt; cases hr; exact J_lret hd hrt h1 h2 hQ
      · cases hr
    · cases hr
  | areturn =>
    have hl : len = 1 := by simpa [lnB, sN] using hn
    subst hl
    simp only [rA] at hr
    split at hr
    · split at hr
      · rename_i hrt; cases hr; exact J_aret hd hrt (Or.inl ⟨_, rfl⟩) h1 h2 hQ
      · rename_i hrt; cases hr; exact J_aret hd hrt (Or.inr ⟨_, rfl⟩) h1 h2 hQ
      · cases hr
    · cases hr
  | return_ =>
    have hl : len = 1 := by simpa [lnB, sN] using hn
    subst hl
    simp only [rA] at hr
    split at hr
    · split at hr
      · rename_i hrt; cases hr; exact J_vret hd hrt h1 h2 hQ
      · cases hr
    · cases hr
  | _ => cases hr
theorem J_k {M NM : MT} {d mc ms pc len cs ss c' s' N : Nat} {lv : List (Option Value)} {st as st' : List Value} {hp : AH} {i : Instr} {Q Q' : Option Value → AH → Prop} (hd : decode M.by pc = .ok (i, len)) (hn : lnB i len = true) (hk : kA M.cn i st hp = some (N, as, st')) (hN : mtL[N]? = some NM) (hcat : catB st' = true) (h1 : cs + c' ≤ mc) (h2 : ss + s' ≤ ms) (hok : cOk hp lv st' Q') (C : Ct NM d c' s' as hp Q')
    (kk : ∀ v hp', Q' v hp' → J M (d + 1) mc ms Q (pc + 3) lv (v.toList ++ st') hp' (cs + c') (ss + s')) : J M (d + 1) mc ms Q pc lv st hp cs ss := by
  obtain ⟨hNk, hnp⟩ := mt_ok hN
  have hcat' : (st'.map (fun v => v.category)).sum ≤ 8 := by simpa [catB] using hcat
  cases i with
  | invokestatic idx =>
    have hl : len = 3 := by simpa [lnB] using hn
    subst hl
    simp only [kA] at hk
    split at hk
    · rename_i kd N0 a1 h0
      split at hk
      · rename_i hc
        obtain ⟨hkd, hlen⟩ := hc
        cases hk
        have hr := mRes_row h0
        have e : st = ((st.take (npL.getD N 0)).reverse).reverse ++ st.drop (npL.getD N 0) := by rw [List.reverse_reverse, List.take_append_drop]
        have hl2 : np NM = some ((st.take (npL.getD N 0)).reverse).length := by rw [hnp, List.length_reverse, List.length_take, Nat.min_eq_left hlen]
        rw [e]
        rcases hkd with hkd | hkd
        · subst hkd
          simp [mRowB, hN] at hr
          exact J_callS hd hNk (chkW_in hr.1) (chkW_in hr.2) hl2 hcat' h1 h2 hok C kk
        · subst hkd
          simp [mRowB, hN] at hr
          exact J_callSN hd hNk (chkN_in hr.1) (chkW_in hr.2) hl2 hcat' h1 h2 hok C kk
      · cases hk
    · cases hk
  | invokevirtual idx =>
    have hl : len = 3 := by simpa [lnB] using hn
    subst hl
    simp only [kA] at hk
    split at hk
    · rename_i kd N0 a1 h0
      split at hk
      · rename_i r st1 hdrop
        split at hk
        · rename_i ci fs M0 g0 g1
          split at hk
          · rename_i hc
            obtain ⟨hkd, hci, hci8⟩ := hc
            cases hk
            rw [hN] at g1
            cases g1
            have hr := mRes_row h0
            have hlen : npL.getD N 0 ≤ st.length := by
              have : (st.drop (npL.getD N 0)).length = st'.length + 1 := by rw [hdrop]; rfl
              rw [List.length_drop] at this
              omega
            have e : st = ((st.take (npL.getD N 0)).reverse).reverse ++ .ref r :: st' := by rw [List.reverse_reverse, ← hdrop, List.take_append_drop]
            have hl2 : np NM = some ((st.take (npL.getD N 0)).reverse).length := by rw [hnp, List.length_reverse, List.length_take, Nat.min_eq_left hlen]
            rw [e]
            subst hkd
            simp [mRowB, hN] at hr
            exact J_callV hd hNk (chkW_in hr.1) (chkW_in hr.2.1) (chkW_in hr.2.2) hl2 g0 (by rw [cls_nm hci8, hci, hNk.2.2.2.2.2]) hcat' h1 h2 hok C kk
          · cases hk
        · cases hk
      · cases hk
    · cases hk
  | invokespecial idx =>
    have hl : len = 3 := by simpa [lnB] using hn
    subst hl
    simp only [kA] at hk
    split at hk
    · rename_i kd N0 a1 h0
      split at hk
      · rename_i r st1 hdrop
        split at hk
        · rename_i hkd
          cases hk
          have hr := mRes_row h0
          have hlen : npL.getD N 0 ≤ st.length := by
            have : (st.drop (npL.getD N 0)).length = st'.length + 1 := by rw [hdrop]; rfl
            rw [List.length_drop] at this
            omega
          have e : st = ((st.take (npL.getD N 0)).reverse).reverse ++ .ref r :: st' := by rw [List.reverse_reverse, ← hdrop, List.take_append_drop]
          have hl2 : np NM = some ((st.take (npL.getD N 0)).reverse).length := by rw [hnp, List.length_reverse, List.length_take, Nat.min_eq_left hlen]
          rw [e]
          rcases hkd with hkd | hkd
          · subst hkd
            simp [mRowB, hN] at hr
            exact J_callI hd hNk hr.2.2.1 (chkW_in hr.1) (chkW_in hr.2.1) hr.2.2.2 hl2 hcat' h1 h2 hok C kk
          · subst hkd
            simp [mRowB, hN] at hr
            exact J_callIN hd hNk hr.2.2.1 (chkN_in hr.1) (chkW_in hr.2.1) hr.2.2.2 hl2 hcat' h1 h2 hok C kk
        · cases hk
      · cases hk
    · cases hk
  | _ => cases hk
theorem J_x {M : MT} {d mc ms pc len cs ss : Nat} {lv : List (Option Value)} {st st' : List Value} {hp : AH} {i : Instr} {v : Value} {Q : Option Value → AH → Prop} (hd : decode M.by pc = .ok (i, len)) (hn : lnB i len = true) (hx : xA M.cn i st = (some v, st')) (hcat : catB st' = true) (hd0 : 0 < d) (h1 : cs ≤ mc) (h2 : ss ≤ ms) (k : J M d mc ms Q (pc + 3) lv (v :: st') hp cs ss) : J M d mc ms Q pc lv st hp cs ss := by
  obtain ⟨d', rfl⟩ : ∃ d', d = d' + 1 := ⟨d - 1, by omega⟩
  have hcat' : (st'.map (fun v => v.category)).sum ≤ 8 := by simpa [catB] using hcat
  cases i with
  | invokestatic idx =>
    have hl : len = 3 := by simpa [lnB] using hn
    subst hl
    simp only [xA] at hx
    split at hx
    · rename_i kd e0 y x st1 h0
      have hr := mRes_row h0
      split at hx
      · rename_i hk
        subst hk
        cases hx
        simp [mRowB] at hr
        exact J_min hd (chkW_in hr.1) (chkW_in hr.2.1) (chkW_in hr.2.2) hcat' h1 h2 k
      · split at hx
        · rename_i hk
          subst hk
          cases hx
          simp [mRowB] at hr
          exact J_max hd (chkW_in hr.1) (chkW_in hr.2.1) (chkW_in hr.2.2) hcat' h1 h2 k
        · cases hx
    · cases hx
  | _ => cases hx
theorem J_a {M : MT} {d mc ms pc len cs ss n c' s' : Nat} {lv : List (Option Value)} {st st' : List Value} {hp : AH} {cl : List AC} {i : Instr} {Q : Option Value → AH → Prop} (hd : decode M.by pc = .ok (i, len)) (hn : lnB i len = true) (ha : aA M.cn i st hp = some (n, st', cl, c', s')) (hk1 : okH hp = true) (hk2 : okL hp.length lv = true) (hk3 : st'.all (okV hp.length) = true) (h1 : cs + c' ≤ mc) (h2 : ss + s' ≤ ms) (k : J M d mc ms Q (pc + n) lv (.ref hp.length :: st') (hp ++ cl) (cs + c') (ss + s')) : J M d mc ms Q pc lv st hp cs ss := by
  unfold aA at ha
  split at ha
  · rename_i idx
    have hl : len = 3 := by simpa [lnB] using hn
    subst hl
    split at ha
    · rename_i ci e0 h0
      split at ha
      · rename_i C T N hc
        cases ha
        have hr := tab_row nwB_ok (by decide) h0
        unfold nwRowB at hr
        simp only [hc, Bool.and_eq_true] at hr
        exact J_new hd (chkW_in hr.1) (chkW_in hr.2.1) (chkW_in hr.2.2) hc h1 h2 hk1 hk2 hk3 k
      · cases ha
    · cases ha
  · have hl : len = 2 := by simpa [lnB] using hn
    subst hl
    split at ha
    · split at ha
      · rename_i hc; cases ha; exact J_newa hd rfl (Or.inl rfl) wArrI_in hc.1 rfl hc.2 h1 h2 hk1 hk2 hk3 k
      · cases ha
    · cases ha
  · have hl : len = 2 := by simpa [lnB] using hn
    subst hl
    split at ha
    · split at ha
      · rename_i hc; cases ha; exact J_newa hd rfl (Or.inr rfl) wArrZ_in hc.1 rfl hc.2 h1 h2 hk1 hk2 hk3 k
      · cases ha
    · cases ha
  · rename_i idx
    have hl : len = 4 := by simpa [lnB] using hn
    subst hl
    split at ha
    · rename_i w kk nn st1 h0
      split at ha
      · rename_i hc
        cases ha
        have hr := tab_row mnB_ok (by decide) h0
        unfold mnRowB at hr
        refine J_mna hd (chkW_in hr) wArrI_in hc.1 hc.2.1 rfl rfl hc.2.2.1 hc.2.2.2 h1 h2 hk1 hk2 hk3 ?_
        rw [← Nat.add_assoc, ← Nat.add_assoc] at k
        exact k
      · cases ha
    · cases ha
  · cases ha
def oOk (O : OR) : Prop := ∀ (d N : Nat) (NM : MT) (as : List Value) (hp : AH) (v : Option Value) (hp' : AH), O d N as hp = some (v, hp') → mtL[N]? = some NM → hp'.length = hp.length ∧ Ct NM d 0 0 as hp (fun v2 hp2 => v2 = v ∧ hp2 = hp')
theorem noO_ok : oOk noO := fun d N NM as hp v hp' h => by cases h
set_option maxHeartbeats 4000000 in
theorem ev_J {O : OR} (hO : oOk O) : ∀ (f d k pc : Nat) (lv : List (Option Value)) (st : List Value) (hp : AH) (cs ss : Nat) (v : Option Value) (hp' : AH) (c' s' : Nat), ev O f d k pc lv st hp cs ss = some (v, hp', c', s') → cs ≤ c' ∧ ss ≤ s' ∧ ∀ M, mtL[k]? = some M → ∀ mc ms, c' ≤ mc → s' ≤ ms → J M d mc ms (fun v2 hp2 => v2 = v ∧ hp2 = hp') pc lv st hp cs ss := by
  intro f
  induction f with
  | zero => intro d k pc lv st hp cs ss v hp' c' s' h; simp only [ev] at h; cases h
  | succ f ih =>
    intro d k pc lv st hp cs ss v hp' c' s' h
    simp only [ev] at h
    split at h
    · rename_i M i len hM hc
      obtain ⟨hd, hn⟩ := cd_at hM hc
      split at h
      · rename_i pc1 lv1 st1 hs
        obtain ⟨a, b, c⟩ := ih _ _ _ _ _ _ _ _ _ _ _ _ h
        refine ⟨a, b, fun M' hM' mc ms h1 h2 => ?_⟩
        rw [hM] at hM'; cases hM'
        have hl := sA_len hs hn
        subst hl
        exact J_s hd hs (c M hM mc ms h1 h2)
      · split at h
        · rename_i bb t st1 hs
          have hl := bA_len hs hn
          subst hl
          split at h
          · rename_i hb
            obtain ⟨a, b, c⟩ := ih _ _ _ _ _ _ _ _ _ _ _ _ h
            refine ⟨a, b, fun M' hM' mc ms h1 h2 => ?_⟩
            rw [hM] at hM'; cases hM'
            exact J_b hd hs (fun _ => c M hM mc ms h1 h2) (fun q => by rw [hb] at q; cases q)
          · rename_i hb
            obtain ⟨a, b, c⟩ := ih _ _ _ _ _ _ _ _ _ _ _ _ h
            refine ⟨a, b, fun M' hM' mc ms h1 h2 => ?_⟩
            rw [hM] at hM'; cases hM'
            exact J_b hd hs (fun q => absurd q hb) (fun _ => c M hM mc ms h1 h2)
        · split at h
          · rename_i pc1 st1 hp1 hs
            obtain ⟨a, b, c⟩ := ih _ _ _ _ _ _ _ _ _ _ _ _ h
            refine ⟨a, b, fun M' hM' mc ms h1 h2 => ?_⟩
            rw [hM] at hM'; cases hM'
            exact J_h hd hn hs (c M hM mc ms h1 h2)
          · split at h
            · rename_i v1 hs
              cases h
              refine ⟨Nat.le_refl _, Nat.le_refl _, fun M' hM' mc ms h1 h2 => ?_⟩
              rw [hM] at hM'; cases hM'
              exact J_r hd hn hs h1 h2 ⟨rfl, rfl⟩
            · split at h
              · rename_i N as st1 hk
                split at h
                · rename mtL[N]? = some _ => hN
                  split at h
                  · rename_i v1 hp1 hor
                    split at h
                    · rename_i hc1
                      obtain ⟨a, b, c⟩ := ih _ _ _ _ _ _ _ _ _ _ _ _ h
                      obtain ⟨o1, o2⟩ := hO _ _ _ _ _ _ _ hor hN
                      refine ⟨a, b, fun M' hM' mc ms h1 h2 => ?_⟩
                      rw [hM] at hM'; cases hM'
                      refine J_k (c' := 0) (s' := 0) hd hn hk hN hc1 (by omega) (by omega) (Or.inl (fun v2 hp2 hq => by rw [hq.2]; exact o1)) o2 (fun v2 hp2 hq => ?_)
                      obtain ⟨rfl, rfl⟩ := hq
                      exact c M hM mc ms h1 h2
                    · cases h
                  · split at h
                    · rename_i hc1
                      split at h
                      · rename_i v1 hp1 c1 s1 hev
                        split at h
                        · rename_i hok
                          obtain ⟨a1, b1, j1⟩ := ih _ _ _ _ _ _ _ _ _ _ _ _ hev
                          obtain ⟨a, b, c⟩ := ih _ _ _ _ _ _ _ _ _ _ _ _ h
                          refine ⟨by omega, by omega, fun M' hM' mc ms h1 h2 => ?_⟩
                          rw [hM] at hM'; cases hM'
                          have C : Ct _ _ c1 s1 as hp (fun v2 hp2 => v2 = v1 ∧ hp2 = hp1) := Ct_of_J (mt_ok hN).1 (fun ad => by rw [lg_len]; exact hc1.2) (j1 _ hN c1 s1 (Nat.le_refl _) (Nat.le_refl _))
                          refine J_k hd hn hk hN hc1.1 (by omega) (by omega) ?_ C (fun v2 hp2 hq => ?_)
                          · rcases hok with hok | hok
                            · exact Or.inl (fun v2 hp2 hq => by rw [hq.2]; exact hok)
                            · exact Or.inr hok
                          · obtain ⟨rfl, rfl⟩ := hq
                            exact c M hM mc ms h1 h2
                        · cases h
                      · cases h
                    · cases h
                · cases h
              · split at h
                · rename_i v1 st1 hx
                  split at h
                  · rename_i hc1
                    obtain ⟨a, b, c⟩ := ih _ _ _ _ _ _ _ _ _ _ _ _ h
                    refine ⟨a, b, fun M' hM' mc ms h1 h2 => ?_⟩
                    rw [hM] at hM'; cases hM'
                    exact J_x hd hn hx hc1.1 hc1.2 (by omega) (by omega) (c M hM mc ms h1 h2)
                  · cases h
                · split at h
                  · rename_i n st1 cl c1 s1 ha
                    split at h
                    · rename_i hc1
                      obtain ⟨a, b, c⟩ := ih _ _ _ _ _ _ _ _ _ _ _ _ h
                      refine ⟨by omega, by omega, fun M' hM' mc ms h1 h2 => ?_⟩
                      rw [hM] at hM'; cases hM'
                      exact J_a hd hn ha hc1.1 hc1.2.1 hc1.2.2 (by omega) (by omega) (c M hM mc ms h1 h2)
                    · cases h
                  · cases h
    · cases h
/-- a contract by evaluation -/
theorem Ct_ev {O : OR} (hO : oOk O) {f d k c' s' : Nat} {M : MT} {as : List Value} {hp hp' : AH} {v : Option Value} (hM : mtL[k]? = some M) (hs : (as.map (fun v => v.category)).sum ≤ M.ml) (h : ev O f d k 0 (entL as M.ml) [] hp 0 0 = some (v, hp', c', s')) : Ct M d c' s' as hp (fun v2 hp2 => v2 = v ∧ hp2 = hp') :=
  Ct_of_J (mt_ok hM).1 (fun ad => by rw [lg_len]; exact hs) ((ev_J hO _ _ _ _ _ _ _ _ _ _ _ _ _ h).2.2 M hM c' s' (Nat.le_refl _) (Nat.le_refl _))
