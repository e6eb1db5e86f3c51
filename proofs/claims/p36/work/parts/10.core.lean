/-! ===== the abstract heap: cells by number, their addresses in a list ===== -/
abbrev AC : Type := (FieldType × List Int32) ⊕ (List Nat ⊕ (Nat × List Value))
abbrev AH : Type := List AC
def cv (ad : List Nat) (v : Value) : Value := match v with
  | .ref k => .ref (ad.getD k 0)
  | w => w
def jC (cA : FieldType → ClassId) (ad : List Nat) (x : AC) : va_E := match x with
  | .inl (ty, xs) => .inl (cA ty, xs.length, .inl (fun j => xs.getD j 0))
  | .inr (.inl rs) => .inl (cA (.array .int), rs.length, .inr (.inr (.inr (.inr (fun j => (rs[j]?).map (fun r => ad.getD r 0))))))
  | .inr (.inr (ci, fs)) => .inr (ci, fs.map (cv ad))
def conc (cA : FieldType → ClassId) (ad : List Nat) (hp : AH) : va_W := List.zipWith (fun a x => (a, jC cA ad x)) ad hp
theorem conc_get {cA : FieldType → ClassId} {ad : List Nat} {hp : AH} (hl : ad.length = hp.length) {k : Nat} {x : AC} (h : hp[k]? = some x) : (conc cA ad hp)[k]? = some (ad.getD k 0, jC cA ad x) := by
  have hk : k < hp.length := (List.getElem?_eq_some_iff.mp h).1
  have ha : ad[k]? = some (ad.getD k 0) := by
    rw [List.getD_eq_getElem?_getD, List.getElem?_eq_getElem (by omega)]; rfl
  unfold conc
  rw [List.getElem?_zipWith, ha, h]
theorem conc_set {cA : FieldType → ClassId} {ad : List Nat} {hp : AH} (hl : ad.length = hp.length) {k : Nat} {x : AC} (h : hp[k]? = some x) (y : AC) : (conc cA ad hp).set k (ad.getD k 0, jC cA ad y) = conc cA ad (hp.set k y) := by
  have hk : k < hp.length := (List.getElem?_eq_some_iff.mp h).1
  apply List.ext_getElem?
  intro j
  by_cases hj : j = k
  · subst hj
    rw [List.getElem?_set_self (by unfold conc; rw [List.length_zipWith]; omega)]
    rw [conc_get (by rw [List.length_set]; exact hl) (List.getElem?_set_self hk)]
  · rw [List.getElem?_set_ne (Ne.symm hj)]
    unfold conc
    rw [List.getElem?_zipWith, List.getElem?_zipWith, List.getElem?_set_ne (Ne.symm hj)]
theorem conc_length {cA : FieldType → ClassId} {ad : List Nat} {hp : AH} (hl : ad.length = hp.length) : (conc cA ad hp).length = hp.length := by
  unfold conc; rw [List.length_zipWith]; omega
theorem conc_addr {cA : FieldType → ClassId} {ad : List Nat} {hp : AH} (hl : ad.length = hp.length) {k : Nat} {q : Nat × va_E} (h : (conc cA ad hp)[k]? = some q) : ∃ x, hp[k]? = some x ∧ q = (ad.getD k 0, jC cA ad x) := by
  have hk : k < (conc cA ad hp).length := (List.getElem?_eq_some_iff.mp h).1
  rw [conc_length hl] at hk
  have hx : hp[k]? = some hp[k] := List.getElem?_eq_getElem hk
  rw [conc_get hl hx] at h
  exact ⟨_, hx, (Option.some.inj h).symm⟩
/-! references that are there -/
def okV (n : Nat) (v : Value) : Bool := match v with
  | .ref k => decide (k < n)
  | _ => true
def okC (n : Nat) (x : AC) : Bool := match x with
  | .inl _ => true
  | .inr (.inl rs) => rs.all (fun r => decide (r < n))
  | .inr (.inr (_, fs)) => fs.all (okV n)
def okH (hp : AH) : Bool := hp.all (okC hp.length)
def okL (n : Nat) (lv : List (Option Value)) : Bool := lv.all (fun o => match o with
  | some v => okV n v
  | none => true)
theorem getD_app {ad x : List Nat} {k : Nat} (h : k < ad.length) : (ad ++ x).getD k 0 = ad.getD k 0 := by
  rw [List.getD_eq_getElem?_getD, List.getD_eq_getElem?_getD, List.getElem?_append_left h]
theorem cv_app {ad x : List Nat} {v : Value} (h : okV ad.length v = true) : cv (ad ++ x) v = cv ad v := by
  cases v with
  | ref k => simp only [okV, decide_eq_true_eq] at h; simp only [cv]; rw [getD_app h]
  | _ => rfl
theorem map_cv_app {ad x : List Nat} {st : List Value} (h : st.all (okV ad.length) = true) : st.map (cv (ad ++ x)) = st.map (cv ad) := by
  apply List.map_congr_left
  intro v hv
  exact cv_app (List.all_eq_true.mp h v hv)
theorem jC_app {cA : FieldType → ClassId} {ad x : List Nat} {c : AC} (h : okC ad.length c = true) : jC cA (ad ++ x) c = jC cA ad c := by
  match c, h with
  | .inl _, _ => rfl
  | .inr (.inl rs), h =>
    simp only [okC] at h
    simp only [jC]
    have : (fun j : Nat => (rs[j]?).map (fun r => (ad ++ x).getD r 0)) = (fun j : Nat => (rs[j]?).map (fun r => ad.getD r 0)) := by
      funext j
      cases hj : rs[j]? with
      | none => rfl
      | some r =>
        have h1 := List.all_eq_true.mp h r (List.mem_of_getElem? hj)
        simp only [decide_eq_true_eq] at h1
        simp only [Option.map_some]
        rw [getD_app h1]
    rw [this]
  | .inr (.inr (ci, fs)), h =>
    simp only [okC] at h
    simp only [jC]
    rw [map_cv_app h]
theorem conc_app {cA : FieldType → ClassId} {ad x : List Nat} {hp y : AH} (hl : ad.length = hp.length) (h : okH hp = true) : conc cA (ad ++ x) (hp ++ y) = conc cA ad hp ++ List.zipWith (fun a c => (a, jC cA (ad ++ x) c)) x y := by
  unfold conc
  rw [List.zipWith_append hl]
  congr 1
  apply List.ext_getElem?
  intro j
  rw [List.getElem?_zipWith, List.getElem?_zipWith]
  cases h1 : ad[j]? with
  | none => rfl
  | some a =>
    cases h2 : hp[j]? with
    | none => rfl
    | some c =>
      have h3 := List.all_eq_true.mp h c (List.mem_of_getElem? h2)
      rw [← hl] at h3
      show some (a, jC cA (ad ++ x) c) = some (a, jC cA ad c)
      rw [jC_app h3]
/-! ===== rooms ===== -/
def rmm (d mc ms : Nat) : Room := { frames := d, cells := mc, slots := ms, locals := 39 * d }
def tysL (cA : FieldType → ClassId) : List (ClassId × FieldType) := [(cA .int, .int), (cA .boolean, .boolean), (cA (.array .int), .array .int)]
/-- links to a nest mate's private members, and arrays over int arrays: these move with the state -/
def xN (U : State) : Prop := (∀ a i y h, Cond.methodLinkNest a i y h ∈ lw_tbl → va_Nw (.methodLinkNest a i y h) U) ∧ (Cond.arrayOver (.array .int)).before #[] U = true
theorem xO_spec {s : State} (h : (Cond.arrayOver (.array .int)).before #[] s = true) :
    ∃ comp c k, s.vm.findClass (FieldType.array .int).toString = some comp ∧ (s.vm.classes.findIdx? fun (x : Class) => match x.kind with | .array component _ => component == comp | _ => false) = some c ∧ s.vm.classes[c]? = some k ∧ k.kind = .array comp (.array .int) ∧ s.vm.findClass ("[" ++ (FieldType.array .int).toString) = some c := by
  simp only [Cond.before, Cond.holds, Cond.value, beq_iff_eq] at h
  cases hc : s.vm.findClass (FieldType.array .int).toString with
  | none => simp [hc] at h
  | some comp =>
    simp only [hc, Option.bind_some, Option.bind_eq_some_iff, Option.map_eq_some_iff] at h
    obtain ⟨c, hi, k, hk, hb⟩ := h
    obtain ⟨hlt, hp, -⟩ := Array.findIdx?_eq_some_iff_getElem.mp hi
    have hkk : s.vm.classes[c] = k := (Array.getElem?_eq_some_iff.mp hk).2
    rw [hkk] at hp
    cases hkind : k.kind with
    | array component ty =>
      rw [hkind] at hb hp
      simp at hb hp
      exact ⟨comp, c, k, rfl, hi, hk, by rw [hkind, hp, hb.1], hb.2⟩
    | _ => rw [hkind] at hb; simp at hb
theorem xO_moved {u U : State} (hvm : u.vm.Alike U.vm) (h : (Cond.arrayOver (.array .int)).before #[] u = true) : (Cond.arrayOver (.array .int)).before #[] U = true := by
  obtain ⟨comp, c, k, h1, h2, h3, h4, h5⟩ := xO_spec h
  obtain ⟨k', hk', he⟩ := hvm.2.2 _ _ h3
  have hi : (U.vm.classes.findIdx? fun (x : Class) => match x.kind with | .array component _ => component == comp | _ => false) = some c := by
    refine (va_idx_bare U.vm comp).symm.trans ?_
    first | rw [hvm.bare_eq] | rw [← hvm.bare_eq]
    exact (va_idx_bare u.vm comp).trans h2
  have hkind : k'.kind = .array comp (.array .int) := by rw [he]; exact h4
  have f1 : U.vm.findClass (FieldType.array .int).toString = some comp := by rw [hvm.findClass]; exact h1
  have f2 : U.vm.findClass ("[" ++ (FieldType.array .int).toString) = some c := by rw [hvm.findClass]; exact h5
  unfold Cond.before Cond.holds
  simp only [Cond.value]
  rw [f1, Option.bind_some]
  refine (congrArg (fun o : Option Nat => (o.bind (fun c => (U.vm.classes[c]?).map fun (k : Class) => match k.kind with | .array _ ty => decide (ty = FieldType.array .int) && decide (U.vm.findClass ("[" ++ (FieldType.array .int).toString) = some c) | _ => false) == some true)) hi).trans ?_
  simp [hk', hkind, f2]
theorem xN_warm {s U : State} (hW : s.WarmedH U.vm) (h : xN s) : xN U := ⟨fun a i y q hq => va_Nw.warmM hW (h.1 a i y q hq), xO_moved hW.alike h.2⟩
theorem xN_same {u U : State} (hv : u.vm = U.vm) (h : xN u) : xN U := ⟨fun a i y q hq => va_Nw.same rfl hv (h.1 a i y q hq), xO_moved (by rw [hv]; exact Vm.Alike.refl U.vm) h.2⟩
/-- the frame's own facts -/
def jE (M : MT) (p : Program) (s : State) (m : MethodId) (args : Array Value) (meth : Method) (c : Code) (D : va_G) (cA : FieldType → ClassId) (A : Nat → Prop) : Prop :=
  p.tables.exec = Jvm.exec ∧ c.code = M.by ∧ c.maxLocals = M.ml ∧ meth.sig.returnType = M.rt ∧ meth.locks = false ∧ s.vm.findClass (cnm M.cn) = some m.cls ∧ (∀ w ∈ tb, w.before args s = true) ∧ va_K D clsL (tysL cA) s ∧ (∀ q, s.heap.size ≤ q → A q) ∧ meth.name = M.y.name ∧ xN s
def jL (nL : Nat) (ad : List Nat) (lv : List (Option Value)) (ls : Array Slot) : Prop := lv.length = nL ∧ ls.size = nL ∧ lv_wf ls ∧ ∀ (i : Nat) (v : Value), lv[i]? = some (some v) → ls[i]? = some (.val (cv ad v))
def jQ (D : va_G) (cA : FieldType → ClassId) (A : Nat → Prop) (ad0 : List Nat) (Q : Option Value → AH → Prop) : Array Value → State → Outcome → State → Prop := fun _ st o t =>
  (∃ (v : Option Value) (hp : AH) (x : List Nat), o = .returned (v.map (cv (ad0 ++ x))) ∧ Q v hp ∧ (ad0 ++ x).length = hp.length ∧ va_P D clsL (conc cA (ad0 ++ x) hp) t.heap ∧ va_D A (conc cA (ad0 ++ x) hp) ∧ va_K D clsL (tysL cA) t) ∧ va_F A st t
/-- the machine at pc of method M, with locals lv, operands st and heap hp, comes to the method's end with Q -/
def J (M : MT) (d mc ms : Nat) (Q : Option Value → AH → Prop) (pc : Nat) (lv : List (Option Value)) (st : List Value) (hp : AH) (cs ss : Nat) : Prop :=
  ∀ (p : Program) (l : Launch) (e : Env) (s : State) (m : MethodId) (args : Array Value) (below : List Frame) (meth : Method) (c : Code) (D : va_G) (cA : FieldType → ClassId) (A : Nat → Prop) (ad0 x : List Nat) (H : Heap) (locs : List Loc) (ls : Array Slot),
    jE M p s m args meth c D cA A → (ad0 ++ x).length = hp.length → va_P D clsL (conc cA (ad0 ++ x) hp) H → va_D A (conc cA (ad0 ++ x) hp) → va_S A s.heap H locs → jL M.ml (ad0 ++ x) lv ls →
    W p l e (rmm d mc ms) s m args below meth c H locs cs ss (MQ below (jQ D cA A ad0 Q) args s mc ms A) (F0 m pc ls (st.map (cv (ad0 ++ x))))
/-- a method's contract at given arguments and heap -/
def Ct (M : MT) (d mc ms : Nat) (as : List Value) (hp : AH) (Q : Option Value → AH → Prop) : Prop :=
  ∀ (l : Launch) (D : va_G) (cA : FieldType → ClassId) (ad : List Nat) (sz : Nat), ad.length = hp.length →
    Met l M.y (mw M) (rmm d mc ms) (va_Pc (as.map (cv ad)) (fun U => U.heap.size = sz ∧ va_P D clsL (conc cA ad hp) U.heap ∧ va_K D clsL (tysL cA) U ∧ va_D (fun _ => True) (conc cA ad hp) ∧ xN U)) (jQ D cA (va_A (conc cA ad hp) sz) ad Q) mc ms (va_A (conc cA ad hp) sz)
/-! ===== locals ===== -/
def clr1 (lv : List (Option Value)) (i : Nat) : List (Option Value) := match i with
  | 0 => lv
  | j + 1 => match lv[j]? with
    | some (some w) => if w.category == 2 then lv.set j none else lv
    | _ => lv
def st1 (lv : List (Option Value)) (i : Nat) (v : Value) : List (Option Value) := (clr1 lv i).set i (some v)
def st2 (lv : List (Option Value)) (i : Nat) (v : Value) : List (Option Value) := ((clr1 lv i).set i (some v)).set (i + 1) none
def kl (ad : List Nat) (lv : List (Option Value)) : List (Nat × Value) := (List.range lv.length).filterMap (fun j => match lv[j]? with
  | some (some w) => some (j, cv ad w)
  | _ => none)
theorem kl_mem {ad : List Nat} {lv : List (Option Value)} {j : Nat} {w : Value} (h : lv[j]? = some (some w)) : (j, cv ad w) ∈ kl ad lv := by
  unfold kl
  refine List.mem_filterMap.mpr ⟨j, List.mem_range.mpr (List.getElem?_eq_some_iff.mp h).1, ?_⟩
  rw [h]
theorem kl_has {nL : Nat} {ad : List Nat} {lv : List (Option Value)} {ls : Array Slot} (h : jL nL ad lv ls) : lv_has ls nL (kl ad lv) := by
  refine ⟨h.2.1, h.2.2.1, fun q hq => ?_⟩
  unfold kl at hq
  obtain ⟨j, -, hj⟩ := List.mem_filterMap.mp hq
  cases h1 : lv[j]? with
  | none => rw [h1] at hj; cases hj
  | some o =>
    cases o with
    | none => rw [h1] at hj; cases hj
    | some w => rw [h1] at hj; cases hj; exact h.2.2.2 j w h1
theorem cv_cat (ad : List Nat) (v : Value) : (cv ad v).category = v.category := by cases v <;> rfl
theorem clr1_length (lv : List (Option Value)) (i : Nat) : (clr1 lv i).length = lv.length := by
  unfold clr1
  cases i with
  | zero => rfl
  | succ j =>
    simp only
    split
    · split
      · rw [List.length_set]
      · rfl
    · rfl
theorem clr1_get {lv : List (Option Value)} {i j : Nat} {w : Value} (h : (clr1 lv i)[j]? = some (some w)) : lv[j]? = some (some w) ∧ ¬ (j + 1 = i ∧ w.category = 2) := by
  unfold clr1 at h
  cases i with
  | zero => exact ⟨h, fun q => by omega⟩
  | succ k =>
    simp only at h
    split at h
    · rename_i w0 hw
      split at h
      · rename_i hc
        by_cases hjk : j = k
        · subst hjk
          rw [List.getElem?_set_self (List.getElem?_eq_some_iff.mp hw).1] at h
          cases h
        · rw [List.getElem?_set_ne (Ne.symm hjk)] at h
          exact ⟨h, fun q => by omega⟩
      · rename_i hc
        refine ⟨h, fun q => ?_⟩
        have : j = k := by omega
        subst this
        rw [hw] at h
        cases h
        exact hc (by rw [q.2]; rfl)
    · rename_i hw
      refine ⟨h, fun q => ?_⟩
      have : j = k := by omega
      subst this
      exact hw w h
theorem jL_st1 {nL : Nat} {ad : List Nat} {lv : List (Option Value)} {ls ls' : Array Slot} (h : jL nL ad lv ls) {i : Nat} {v : Value} (h' : lv_has ls' nL ((i, cv ad v) :: (kl ad lv).filter (fun q => !(q.1 == i) && !(q.1 + 1 == i && q.2.category == 2)))) : jL nL ad (st1 lv i v) ls' := by
  refine ⟨by unfold st1; rw [List.length_set, clr1_length]; exact h.1, h'.1, h'.2.1, fun j w hj => ?_⟩
  unfold st1 at hj
  by_cases hji : j = i
  · subst hji
    by_cases hl : j < (clr1 lv j).length
    · rw [List.getElem?_set_self hl] at hj
      cases hj
      exact h'.2.2 (j, cv ad v) List.mem_cons_self
    · rw [List.getElem?_eq_none (by rw [List.length_set]; omega)] at hj
      cases hj
  · rw [List.getElem?_set_ne (Ne.symm hji)] at hj
    obtain ⟨h1, h2⟩ := clr1_get hj
    refine h'.2.2 (j, cv ad w) (List.mem_cons_of_mem _ (List.mem_filter.mpr ⟨kl_mem h1, ?_⟩))
    simp only [cv_cat, Bool.and_eq_true, Bool.not_eq_true', beq_eq_false_iff_ne, ne_eq, hji, not_false_eq_true, true_and]
    rw [Bool.and_eq_false_iff]
    by_cases h3 : j + 1 = i
    · right; simp only [beq_eq_false_iff_ne, ne_eq]; exact fun q => h2 ⟨h3, q⟩
    · left; simp only [beq_eq_false_iff_ne, ne_eq]; exact h3
theorem jL_st2 {nL : Nat} {ad : List Nat} {lv : List (Option Value)} {ls ls' : Array Slot} (h : jL nL ad lv ls) {i : Nat} {v : Value} (h' : lv_has ls' nL ((i, cv ad v) :: (kl ad lv).filter (fun q => !(q.1 == i) && (!(q.1 == i + 1) && !(q.1 + 1 == i && q.2.category == 2))))) : jL nL ad (st2 lv i v) ls' := by
  refine ⟨by unfold st2; rw [List.length_set, List.length_set, clr1_length]; exact h.1, h'.1, h'.2.1, fun j w hj => ?_⟩
  unfold st2 at hj
  by_cases hj1 : j = i + 1
  · subst hj1
    by_cases hl : i + 1 < ((clr1 lv i).set i (some v)).length
    · rw [List.getElem?_set_self hl] at hj
      cases hj
    · rw [List.getElem?_eq_none (by rw [List.length_set]; omega)] at hj
      cases hj
  · rw [List.getElem?_set_ne (Ne.symm hj1)] at hj
    by_cases hji : j = i
    · subst hji
      by_cases hl : j < (clr1 lv j).length
      · rw [List.getElem?_set_self hl] at hj
        cases hj
        exact h'.2.2 (j, cv ad v) List.mem_cons_self
      · rw [List.getElem?_eq_none (by rw [List.length_set]; omega)] at hj
        cases hj
    · rw [List.getElem?_set_ne (Ne.symm hji)] at hj
      obtain ⟨h1, h2⟩ := clr1_get hj
      refine h'.2.2 (j, cv ad w) (List.mem_cons_of_mem _ (List.mem_filter.mpr ⟨kl_mem h1, ?_⟩))
      simp only [cv_cat, Bool.and_eq_true, Bool.not_eq_true', beq_eq_false_iff_ne, ne_eq, hji, hj1, not_false_eq_true, true_and]
      rw [Bool.and_eq_false_iff]
      by_cases h3 : j + 1 = i
      · right; simp only [beq_eq_false_iff_ne, ne_eq]; exact fun q => h2 ⟨h3, q⟩
      · left; simp only [beq_eq_false_iff_ne, ne_eq]; exact h3
def entL (as : List Value) (n : Nat) : List (Option Value) := (List.range n).map (fun i => (lv_args 0 as).lookup i)
theorem lookup_mem {l : List (Nat × Value)} {i : Nat} {v : Value} (h : l.lookup i = some v) : (i, v) ∈ l := by
  induction l with
  | nil => cases h
  | cons q l ih =>
    obtain ⟨a, b⟩ := q
    rw [List.lookup_cons] at h
    split at h
    · rename_i hb
      have : i = a := by simpa using hb
      subst this
      cases h
      exact List.mem_cons_self
    · exact List.mem_cons_of_mem _ (ih h)
theorem lv_args_map (ad : List Nat) : ∀ (as : List Value) (i : Nat), lv_args i (as.map (cv ad)) = (lv_args i as).map (fun q => (q.1, cv ad q.2))
  | [], _ => rfl
  | v :: as, i => by
    simp only [List.map_cons, lv_args, cv_cat]
    rw [lv_args_map ad as]
theorem jL_ent {ad : List Nat} {as : List Value} {n : Nat} (h : (lg_sl (as.map (cv ad))).length ≤ n) : jL n ad (entL as n) ((lg_sl (as.map (cv ad)) ++ List.replicate (n - (lg_sl (as.map (cv ad))).length) Slot.unset).toArray) := by
  have h0 := lv_entry (as.map (cv ad)) h
  refine ⟨by unfold entL; simp, h0.1, h0.2.1, fun i v hi => ?_⟩
  unfold entL at hi
  rw [List.getElem?_map] at hi
  cases hr : (List.range n)[i]? with
  | none => rw [hr] at hi; cases hi
  | some j =>
    rw [hr] at hi
    have hij : j = i := by
      have := List.getElem?_eq_some_iff.mp hr
      obtain ⟨h1, h2⟩ := this
      rw [List.getElem_range] at h2
      exact h2.symm
    subst hij
    simp only [Option.map_some, Option.some.injEq] at hi
    refine h0.2.2 (j, cv ad v) ?_
    rw [lv_args_map]
    exact List.mem_map.mpr ⟨(j, v), lookup_mem hi, rfl⟩
