/-! ===== an evaluator with named ints that are known by bounds alone ===== -/
abbrev SV : Type := Value ⊕ Nat
abbrev SI : Type := Int32 ⊕ Nat
abbrev SC : Type := (FieldType × List SI) ⊕ (List Nat ⊕ (Nat × List SV))
def sv (ρ : Nat → Int32) (v : SV) : Value := match v with
  | .inl w => w
  | .inr j => .int (ρ j)
def si (ρ : Nat → Int32) (v : SI) : Int32 := match v with
  | .inl w => w
  | .inr j => ρ j
def sc (ρ : Nat → Int32) (x : SC) : AC := match x with
  | .inl (ty, xs) => .inl (ty, xs.map (si ρ))
  | .inr (.inl rs) => .inr (.inl rs)
  | .inr (.inr (ci, fs)) => .inr (.inr (ci, fs.map (sv ρ)))
def lvr (ρ : Nat → Int32) (lv : List (Option SV)) : List (Option Value) := lv.map (Option.map (sv ρ))
def catS (v : SV) : Nat := match v with
  | .inl w => w.category
  | .inr _ => 1
def intS (v : SV) : Bool := match v with
  | .inl (.int _) => true
  | .inr _ => true
  | _ => false
theorem catS_eq (ρ : Nat → Int32) (v : SV) : (sv ρ v).category = catS v := by cases v <;> rfl
theorem intS_spec {v : SV} (h : intS v = true) (ρ : Nat → Int32) : ∃ x, sv ρ v = .int x := by
  match v, h with
  | .inl (.int x), _ => exact ⟨x, rfl⟩
  | .inr j, _ => exact ⟨_, rfl⟩
def clr1s (lv : List (Option SV)) (i : Nat) : List (Option SV) := match i with
  | 0 => lv
  | j + 1 => match lv[j]? with
    | some (some w) => if catS w == 2 then lv.set j none else lv
    | _ => lv
def st1s (lv : List (Option SV)) (i : Nat) (v : SV) : List (Option SV) := (clr1s lv i).set i (some v)
def st2s (lv : List (Option SV)) (i : Nat) (v : SV) : List (Option SV) := ((clr1s lv i).set i (some v)).set (i + 1) none
theorem clr1s_eq (ρ : Nat → Int32) (lv : List (Option SV)) (i : Nat) : lvr ρ (clr1s lv i) = clr1 (lvr ρ lv) i := by
  unfold clr1s clr1
  cases i with
  | zero => rfl
  | succ j =>
    simp only
    have e : (lvr ρ lv)[j]? = (lv[j]?).map (Option.map (sv ρ)) := List.getElem?_map
    rw [e]
    cases h : lv[j]? with
    | none => rfl
    | some o =>
      cases o with
      | none => rfl
      | some w =>
        simp only [Option.map_some, catS_eq]
        split
        · unfold lvr; rw [List.map_set]; rfl
        · rfl
theorem st1s_eq (ρ : Nat → Int32) (lv : List (Option SV)) (i : Nat) (v : SV) : lvr ρ (st1s lv i v) = st1 (lvr ρ lv) i (sv ρ v) := by
  unfold st1s st1
  rw [← clr1s_eq]
  unfold lvr
  rw [List.map_set]; rfl
theorem st2s_eq (ρ : Nat → Int32) (lv : List (Option SV)) (i : Nat) (v : SV) : lvr ρ (st2s lv i v) = st2 (lvr ρ lv) i (sv ρ v) := by
  unfold st2s st2
  rw [← clr1s_eq]
  unfold lvr
  rw [List.map_set, List.map_set]; rfl
def sto1s (lv : List (Option SV)) (i : Nat) (v : SV) : Option (List (Option SV)) := if i < lv.length then some (st1s lv i v) else none
def sto2s (lv : List (Option SV)) (i : Nat) (v : SV) : Option (List (Option SV)) := if i + 1 < lv.length then some (st2s lv i v) else none
theorem sto1s_eq (ρ : Nat → Int32) (lv : List (Option SV)) (i : Nat) (v : SV) : sto1 (lvr ρ lv) i (sv ρ v) = (sto1s lv i v).map (lvr ρ) := by
  unfold sto1 sto1s
  have : (lvr ρ lv).length = lv.length := by unfold lvr; rw [List.length_map]
  rw [this]
  split
  · rw [Option.map_some, st1s_eq]
  · rfl
theorem sto2s_eq (ρ : Nat → Int32) (lv : List (Option SV)) (i : Nat) (v : SV) : sto2 (lvr ρ lv) i (sv ρ v) = (sto2s lv i v).map (lvr ρ) := by
  unfold sto2 sto2s
  have : (lvr ρ lv).length = lv.length := by unfold lvr; rw [List.length_map]
  rw [this]
  split
  · rw [Option.map_some, st2s_eq]
  · rfl
def ldIs (lv : List (Option SV)) (i : Nat) : Option SV := match lv[i]? with
  | some (some v) => if intS v = true then some v else none
  | _ => none
def ldLs (lv : List (Option SV)) (i : Nat) : Option SV := match lv[i]? with
  | some (some (.inl (.long x))) => some (.inl (.long x))
  | _ => none
def ldAs (lv : List (Option SV)) (i : Nat) : Option SV := match lv[i]? with
  | some (some (.inl (.ref x))) => some (.inl (.ref x))
  | _ => none
theorem lvr_get {ρ : Nat → Int32} {lv : List (Option SV)} {i : Nat} {v : SV} (h : lv[i]? = some (some v)) : (lvr ρ lv)[i]? = some (some (sv ρ v)) := by
  unfold lvr; rw [List.getElem?_map, h]; rfl
theorem ldIs_eq {ρ : Nat → Int32} {lv : List (Option SV)} {i : Nat} {v : SV} (h : ldIs lv i = some v) : ldI (lvr ρ lv) i = some (sv ρ v) := by
  unfold ldIs at h
  split at h
  · rename_i w hw
    split at h
    · rename_i hi
      cases h
      obtain ⟨x, hx⟩ := intS_spec hi ρ
      have := lvr_get (ρ := ρ) hw
      rw [hx] at this
      unfold ldI
      rw [this, hx]
    · cases h
  · cases h
theorem ldLs_eq {ρ : Nat → Int32} {lv : List (Option SV)} {i : Nat} {v : SV} (h : ldLs lv i = some v) : ldL (lvr ρ lv) i = some (sv ρ v) := by
  unfold ldLs at h
  split at h
  · rename_i x hw
    cases h
    unfold ldL
    rw [lvr_get (ρ := ρ) hw]
    rfl
  · cases h
theorem ldAs_eq {ρ : Nat → Int32} {lv : List (Option SV)} {i : Nat} {v : SV} (h : ldAs lv i = some v) : ldA (lvr ρ lv) i = some (sv ρ v) := by
  unfold ldAs at h
  split at h
  · rename_i x hw
    cases h
    unfold ldA
    rw [lvr_get (ρ := ρ) hw]
    rfl
  · cases h
def sAs (i : Instr) (pc : Nat) (lv : List (Option SV)) (st : List SV) : Option (Nat × List (Option SV) × List SV) := match i with
  | .iconst n => some (pc + 1, lv, .inl (.int (Int32.ofInt n)) :: st)
  | .bipush n => some (pc + 2, lv, .inl (.int (Int8.ofInt n).toInt32) :: st)
  | .sipush n => some (pc + 3, lv, .inl (.int (Int16.ofInt n).toInt32) :: st)
  | .lconst n => some (pc + 1, lv, .inl (.long (Int64.ofNat (n : Nat))) :: st)
  | .iload_n k => (ldIs lv k).map (fun v => (pc + 1, lv, v :: st))
  | .iload k => (ldIs lv k).map (fun v => (pc + 2, lv, v :: st))
  | .lload_n k => (ldLs lv k).map (fun v => (pc + 1, lv, v :: st))
  | .lload k => (ldLs lv k).map (fun v => (pc + 2, lv, v :: st))
  | .aload_n k => (ldAs lv k).map (fun v => (pc + 1, lv, v :: st))
  | .aload k => (ldAs lv k).map (fun v => (pc + 2, lv, v :: st))
  | .istore_n k => match st with
    | v :: r => if intS v = true then (sto1s lv k v).map (fun lv' => (pc + 1, lv', r)) else none
    | _ => none
  | .istore k => match st with
    | v :: r => if intS v = true then (sto1s lv k v).map (fun lv' => (pc + 2, lv', r)) else none
    | _ => none
  | .lstore_n k => match st with
    | .inl (.long x) :: r => (sto2s lv k (.inl (.long x))).map (fun lv' => (pc + 1, lv', r))
    | _ => none
  | .lstore k => match st with
    | .inl (.long x) :: r => (sto2s lv k (.inl (.long x))).map (fun lv' => (pc + 2, lv', r))
    | _ => none
  | .astore_n k => match st with
    | .inl (.ref x) :: r => (sto1s lv k (.inl (.ref x))).map (fun lv' => (pc + 1, lv', r))
    | _ => none
  | .astore k => match st with
    | .inl (.ref x) :: r => (sto1s lv k (.inl (.ref x))).map (fun lv' => (pc + 2, lv', r))
    | _ => none
  | .iinc k n => match lv[k]? with
    | some (some (.inl (.int x))) => (sto1s lv k (.inl (.int (x + Int32.ofInt n)))).map (fun lv' => (pc + 3, lv', st))
    | _ => none
  | .iadd => match st with
    | .inl (.int y) :: .inl (.int x) :: r => some (pc + 1, lv, .inl (.int (x + y)) :: r)
    | _ => none
  | .isub => match st with
    | .inl (.int y) :: .inl (.int x) :: r => some (pc + 1, lv, .inl (.int (x - y)) :: r)
    | _ => none
  | .imul => match st with
    | .inl (.int y) :: .inl (.int x) :: r => some (pc + 1, lv, .inl (.int (x * y)) :: r)
    | _ => none
  | .iand => match st with
    | .inl (.int y) :: .inl (.int x) :: r => some (pc + 1, lv, .inl (.int (x &&& y)) :: r)
    | _ => none
  | .ior => match st with
    | .inl (.int y) :: .inl (.int x) :: r => some (pc + 1, lv, .inl (.int (x ||| y)) :: r)
    | _ => none
  | .ixor => match st with
    | .inl (.int y) :: .inl (.int x) :: r => some (pc + 1, lv, .inl (.int (x ^^^ y)) :: r)
    | _ => none
  | .ishl => match st with
    | .inl (.int y) :: .inl (.int x) :: r => some (pc + 1, lv, .inl (.int (x <<< (y &&& 31))) :: r)
    | _ => none
  | .ishr => match st with
    | .inl (.int y) :: .inl (.int x) :: r => some (pc + 1, lv, .inl (.int (x >>> (y &&& 31))) :: r)
    | _ => none
  | .iushr => match st with
    | .inl (.int y) :: .inl (.int x) :: r => some (pc + 1, lv, .inl (.int (x.toUInt32 >>> (y.toUInt32 &&& Int32.toUInt32 31)).toInt32) :: r)
    | _ => none
  | .ineg => match st with
    | .inl (.int x) :: r => some (pc + 1, lv, .inl (.int (-x)) :: r)
    | _ => none
  | .ladd => match st with
    | .inl (.long y) :: .inl (.long x) :: r => some (pc + 1, lv, .inl (.long (x + y)) :: r)
    | _ => none
  | .lsub => match st with
    | .inl (.long y) :: .inl (.long x) :: r => some (pc + 1, lv, .inl (.long (x - y)) :: r)
    | _ => none
  | .lmul => match st with
    | .inl (.long y) :: .inl (.long x) :: r => some (pc + 1, lv, .inl (.long (x * y)) :: r)
    | _ => none
  | .land => match st with
    | .inl (.long y) :: .inl (.long x) :: r => some (pc + 1, lv, .inl (.long (x &&& y)) :: r)
    | _ => none
  | .lshl => match st with
    | .inl (.int y) :: .inl (.long x) :: r => some (pc + 1, lv, .inl (.long (x <<< (y.toInt64 &&& 63))) :: r)
    | _ => none
  | .lshr => match st with
    | .inl (.int y) :: .inl (.long x) :: r => some (pc + 1, lv, .inl (.long (x >>> (y.toInt64 &&& 63))) :: r)
    | _ => none
  | .lcmp => match st with
    | .inl (.long y) :: .inl (.long x) :: r => some (pc + 1, lv, .inl (.int (lg_cmp x y)) :: r)
    | _ => none
  | .i2l => match st with
    | .inl (.int x) :: r => some (pc + 1, lv, .inl (.long x.toInt64) :: r)
    | _ => none
  | .i2b => match st with
    | .inl (.int x) :: r => some (pc + 1, lv, .inl (.int x.toInt8.toInt32) :: r)
    | _ => none
  | .i2s => match st with
    | .inl (.int x) :: r => some (pc + 1, lv, .inl (.int x.toInt16.toInt32) :: r)
    | _ => none
  | .dup => match st with
    | v :: r => if catS v == 1 then some (pc + 1, lv, v :: v :: r) else none
    | _ => none
  | .dup2 => match st with
    | v :: w :: r => if catS v == 1 && catS w == 1 then some (pc + 1, lv, v :: w :: v :: w :: r) else none
    | _ => none
  | .pop => match st with
    | v :: r => if catS v == 1 then some (pc + 1, lv, r) else none
    | _ => none
  | .goto off => (tgt pc off).map (fun t => (t, lv, st))
  | _ => none
theorem sAs_eq {ρ : Nat → Int32} {i : Instr} {pc pc' : Nat} {lv lv' : List (Option SV)} {st st' : List SV} (h : sAs i pc lv st = some (pc', lv', st')) : sA i pc (lvr ρ lv) (st.map (sv ρ)) = some (pc', lvr ρ lv', st'.map (sv ρ)) := by
  cases i with
  | iconst n => cases h; rfl
  | bipush n => cases h; rfl
  | sipush n => cases h; rfl
  | lconst n => cases h; rfl
  | iload_n k => obtain ⟨v, hv, he⟩ := Option.map_eq_some_iff.mp h; cases he; simp only [sA]; rw [ldIs_eq hv]; rfl
  | iload k => obtain ⟨v, hv, he⟩ := Option.map_eq_some_iff.mp h; cases he; simp only [sA]; rw [ldIs_eq hv]; rfl
  | lload_n k => obtain ⟨v, hv, he⟩ := Option.map_eq_some_iff.mp h; cases he; simp only [sA]; rw [ldLs_eq hv]; rfl
  | lload k => obtain ⟨v, hv, he⟩ := Option.map_eq_some_iff.mp h; cases he; simp only [sA]; rw [ldLs_eq hv]; rfl
  | aload_n k => obtain ⟨v, hv, he⟩ := Option.map_eq_some_iff.mp h; cases he; simp only [sA]; rw [ldAs_eq hv]; rfl
  | aload k => obtain ⟨v, hv, he⟩ := Option.map_eq_some_iff.mp h; cases he; simp only [sA]; rw [ldAs_eq hv]; rfl
  | istore_n k =>
    simp only [sAs] at h
    split at h
    · rename_i v r
      split at h
      · rename_i hi
        obtain ⟨l1, hv, he⟩ := Option.map_eq_some_iff.mp h
        cases he
        have e := sto1s_eq ρ lv k v
        obtain ⟨x, hx⟩ := intS_spec hi ρ
        rw [hv, hx] at e
        simp only [List.map_cons, hx, sA, e]; rfl
      · cases h
    · cases h
  | istore k =>
    simp only [sAs] at h
    split at h
    · rename_i v r
      split at h
      · rename_i hi
        obtain ⟨l1, hv, he⟩ := Option.map_eq_some_iff.mp h
        cases he
        have e := sto1s_eq ρ lv k v
        obtain ⟨x, hx⟩ := intS_spec hi ρ
        rw [hv, hx] at e
        simp only [List.map_cons, hx, sA, e]; rfl
      · cases h
    · cases h
  | lstore_n k =>
    simp only [sAs] at h
    split at h
    · rename_i x r
      obtain ⟨l1, hv, he⟩ := Option.map_eq_some_iff.mp h
      cases he
      have e := sto2s_eq ρ lv k (.inl (.long x))
      rw [hv] at e
      simp only [sv] at e
      simp only [List.map_cons, sv, sA, e]; rfl
    · cases h
  | lstore k =>
    simp only [sAs] at h
    split at h
    · rename_i x r
      obtain ⟨l1, hv, he⟩ := Option.map_eq_some_iff.mp h
      cases he
      have e := sto2s_eq ρ lv k (.inl (.long x))
      rw [hv] at e
      simp only [sv] at e
      simp only [List.map_cons, sv, sA, e]; rfl
    · cases h
  | astore_n k =>
    simp only [sAs] at h
    split at h
    · rename_i x r
      obtain ⟨l1, hv, he⟩ := Option.map_eq_some_iff.mp h
      cases he
      have e := sto1s_eq ρ lv k (.inl (.ref x))
      rw [hv] at e
      simp only [sv] at e
      simp only [List.map_cons, sv, sA, e]; rfl
    · cases h
  | astore k =>
    simp only [sAs] at h
    split at h
    · rename_i x r
      obtain ⟨l1, hv, he⟩ := Option.map_eq_some_iff.mp h
      cases he
      have e := sto1s_eq ρ lv k (.inl (.ref x))
      rw [hv] at e
      simp only [sv] at e
      simp only [List.map_cons, sv, sA, e]; rfl
    · cases h
  | iinc k n =>
    simp only [sAs] at h
    split at h
    · rename_i x hx
      obtain ⟨l1, hv, he⟩ := Option.map_eq_some_iff.mp h
      cases he
      have e := sto1s_eq ρ lv k (.inl (.int (x + Int32.ofInt n)))
      rw [hv] at e
      simp only [sv] at e
      have g := lvr_get (ρ := ρ) hx
      simp only [sv] at g
      simp only [sA, g, e]; rfl
    · cases h
  | dup =>
    simp only [sAs] at h
    split at h
    · split at h
      · rename_i hc; cases h; simp only [List.map_cons, sA, catS_eq, hc]; rfl
      · cases h
    · cases h
  | dup2 =>
    simp only [sAs] at h
    split at h
    · split at h
      · rename_i hc; cases h; simp only [List.map_cons, sA, catS_eq, hc]; rfl
      · cases h
    · cases h
  | pop =>
    simp only [sAs] at h
    split at h
    · split at h
      · rename_i hc; cases h; simp only [List.map_cons, sA, catS_eq, hc]; rfl
      · cases h
    · cases h
  | goto off =>
    obtain ⟨t, ht, he⟩ := Option.map_eq_some_iff.mp h
    cases he
    simp only [sA, ht]; rfl
  | iadd => simp only [sAs] at h; split at h <;> cases h; rfl
  | isub => simp only [sAs] at h; split at h <;> cases h; rfl
  | imul => simp only [sAs] at h; split at h <;> cases h; rfl
  | iand => simp only [sAs] at h; split at h <;> cases h; rfl
  | ior => simp only [sAs] at h; split at h <;> cases h; rfl
  | ixor => simp only [sAs] at h; split at h <;> cases h; rfl
  | ishl => simp only [sAs] at h; split at h <;> cases h; rfl
  | ishr => simp only [sAs] at h; split at h <;> cases h; rfl
  | iushr => simp only [sAs] at h; split at h <;> cases h; rfl
  | ineg => simp only [sAs] at h; split at h <;> cases h; rfl
  | ladd => simp only [sAs] at h; split at h <;> cases h; rfl
  | lsub => simp only [sAs] at h; split at h <;> cases h; rfl
  | lmul => simp only [sAs] at h; split at h <;> cases h; rfl
  | land => simp only [sAs] at h; split at h <;> cases h; rfl
  | lshl => simp only [sAs] at h; split at h <;> cases h; rfl
  | lshr => simp only [sAs] at h; split at h <;> cases h; rfl
  | lcmp => simp only [sAs] at h; split at h <;> cases h; rfl
  | i2l => simp only [sAs] at h; split at h <;> cases h; rfl
  | i2b => simp only [sAs] at h; split at h <;> cases h; rfl
  | i2s => simp only [sAs] at h; split at h <;> cases h; rfl
  | _ => cases h
/-! bounds -/
def inI (I : List (Int32 × Int32)) (ρ : Nat → Int32) : Prop := ∀ (j : Nat) (lo hi : Int32), I[j]? = some (lo, hi) → lo ≤ ρ j ∧ ρ j ≤ hi
/-- s of bounds lo, hi against y -/
def cmpI (c : Jvm.ClassFile.Cond) (lo hi y : Int32) : Option Bool := match c with
  | .eq => if y < lo ∨ hi < y then some false else none
  | .ne => if y < lo ∨ hi < y then some true else none
  | .lt => if hi < y then some true else if y ≤ lo then some false else none
  | .ge => if y ≤ lo then some true else if hi < y then some false else none
  | .gt => if y < lo then some true else if hi ≤ y then some false else none
  | .le => if hi ≤ y then some true else if y < lo then some false else none
theorem cmpI_eq {c : Jvm.ClassFile.Cond} {lo hi y s : Int32} {b : Bool} (h : cmpI c lo hi y = some b) (h1 : lo ≤ s) (h2 : s ≤ hi) : cmpB c s y = b := by
  rw [Int32.le_iff_toInt_le] at h1 h2
  cases c <;> simp only [cmpI] at h <;> (repeat' split at h) <;> cases h <;> simp only [cmpB, decide_eq_true_eq, decide_eq_false_iff_not, Int32.lt_iff_toInt_lt, Int32.le_iff_toInt_le, ← Int32.toInt_inj] at * <;> omega
/-- x against s of bounds lo, hi -/
def cmpJ (c : Jvm.ClassFile.Cond) (x lo hi : Int32) : Option Bool := match c with
  | .eq => if x < lo ∨ hi < x then some false else none
  | .ne => if x < lo ∨ hi < x then some true else none
  | .lt => if x < lo then some true else if hi ≤ x then some false else none
  | .ge => if hi ≤ x then some true else if x < lo then some false else none
  | .gt => if hi < x then some true else if x ≤ lo then some false else none
  | .le => if x ≤ lo then some true else if hi < x then some false else none
theorem cmpJ_eq {c : Jvm.ClassFile.Cond} {lo hi x s : Int32} {b : Bool} (h : cmpJ c x lo hi = some b) (h1 : lo ≤ s) (h2 : s ≤ hi) : cmpB c x s = b := by
  rw [Int32.le_iff_toInt_le] at h1 h2
  cases c <;> simp only [cmpJ] at h <;> (repeat' split at h) <;> cases h <;> simp only [cmpB, decide_eq_true_eq, decide_eq_false_iff_not, Int32.lt_iff_toInt_lt, Int32.le_iff_toInt_le, ← Int32.toInt_inj] at * <;> omega
def cmpS (I : List (Int32 × Int32)) (c : Jvm.ClassFile.Cond) (a b : SV) : Option Bool := match a, b with
  | .inl (.int x), .inl (.int y) => some (cmpB c x y)
  | .inr j, .inl (.int y) => match I[j]? with
    | some (lo, hi) => cmpI c lo hi y
    | none => none
  | .inl (.int x), .inr j => match I[j]? with
    | some (lo, hi) => cmpJ c x lo hi
    | none => none
  | _, _ => none
theorem cmpS_eq {I : List (Int32 × Int32)} {ρ : Nat → Int32} (hI : inI I ρ) {c : Jvm.ClassFile.Cond} {a b : SV} {r : Bool} (h : cmpS I c a b = some r) : ∃ x y, sv ρ a = .int x ∧ sv ρ b = .int y ∧ cmpB c x y = r := by
  unfold cmpS at h
  split at h
  · cases h; exact ⟨_, _, rfl, rfl, rfl⟩
  · split at h
    · rename_i lo hi hj; exact ⟨_, _, rfl, rfl, cmpI_eq h (hI _ _ _ hj).1 (hI _ _ _ hj).2⟩
    · cases h
  · split at h
    · rename_i lo hi hj; exact ⟨_, _, rfl, rfl, cmpJ_eq h (hI _ _ _ hj).1 (hI _ _ _ hj).2⟩
    · cases h
  · cases h
def bAs (I : List (Int32 × Int32)) (i : Instr) (pc : Nat) (st : List SV) : Option (Bool × Nat × List SV) := match i with
  | .ifCond c off => match st with
    | a :: r => match tgt pc off, cmpS I c a (.inl (.int 0)) with
      | some t, some b => some (b, t, r)
      | _, _ => none
    | _ => none
  | .if_icmp c off => match st with
    | b :: a :: r => match tgt pc off, cmpS I c a b with
      | some t, some q => some (q, t, r)
      | _, _ => none
    | _ => none
  | _ => none
theorem bAs_eq {I : List (Int32 × Int32)} {ρ : Nat → Int32} (hI : inI I ρ) {i : Instr} {pc t : Nat} {st st' : List SV} {b : Bool} (h : bAs I i pc st = some (b, t, st')) : bA i pc (st.map (sv ρ)) = some (b, t, st'.map (sv ρ)) := by
  cases i with
  | ifCond c off =>
    simp only [bAs] at h
    split at h
    · split at h
      · rename_i t1 b1 ht hc
        cases h
        obtain ⟨x, y, e1, e2, e3⟩ := cmpS_eq hI hc
        cases e2
        simp only [List.map_cons, e1, bA, ht, Option.map_some, e3]
      · cases h
    · cases h
  | if_icmp c off =>
    simp only [bAs] at h
    split at h
    · split at h
      · rename_i t1 b1 ht hc
        cases h
        obtain ⟨x, y, e1, e2, e3⟩ := cmpS_eq hI hc
        simp only [List.map_cons, e1, e2, bA, ht, Option.map_some, e3]
      · cases h
    · cases h
  | _ => cases h
