/-! ===== steps that touch neither heap nor calls ===== -/
def sto1 (lv : List (Option Value)) (i : Nat) (v : Value) : Option (List (Option Value)) := if i < lv.length then some (st1 lv i v) else none
def sto2 (lv : List (Option Value)) (i : Nat) (v : Value) : Option (List (Option Value)) := if i + 1 < lv.length then some (st2 lv i v) else none
def ldI (lv : List (Option Value)) (i : Nat) : Option Value := match lv[i]? with
  | some (some (.int x)) => some (.int x)
  | _ => none
def ldL (lv : List (Option Value)) (i : Nat) : Option Value := match lv[i]? with
  | some (some (.long x)) => some (.long x)
  | _ => none
def ldA (lv : List (Option Value)) (i : Nat) : Option Value := match lv[i]? with
  | some (some (.ref x)) => some (.ref x)
  | _ => none
def tgt (pc : Nat) (off : Int) : Option Nat := if 0 ≤ (pc : Int) + off then some ((pc : Int) + off).toNat else none
theorem tgt_spec {pc t : Nat} {off : Int} (h : tgt pc off = some t) : (pc : Int) + off = (t : Int) := by
  unfold tgt at h
  split at h
  · cases h; rename_i h1; exact (Int.toNat_of_nonneg h1).symm
  · cases h
def sA (i : Instr) (pc : Nat) (lv : List (Option Value)) (st : List Value) : Option (Nat × List (Option Value) × List Value) := match i with
  | .iconst n => some (pc + 1, lv, .int (Int32.ofInt n) :: st)
  | .bipush n => some (pc + 2, lv, .int (Int8.ofInt n).toInt32 :: st)
  | .sipush n => some (pc + 3, lv, .int (Int16.ofInt n).toInt32 :: st)
  | .lconst n => some (pc + 1, lv, .long (Int64.ofNat (n : Nat)) :: st)
  | .iload_n k => (ldI lv k).map (fun v => (pc + 1, lv, v :: st))
  | .iload k => (ldI lv k).map (fun v => (pc + 2, lv, v :: st))
  | .lload_n k => (ldL lv k).map (fun v => (pc + 1, lv, v :: st))
  | .lload k => (ldL lv k).map (fun v => (pc + 2, lv, v :: st))
  | .aload_n k => (ldA lv k).map (fun v => (pc + 1, lv, v :: st))
  | .aload k => (ldA lv k).map (fun v => (pc + 2, lv, v :: st))
  | .istore_n k => match st with
    | .int x :: r => (sto1 lv k (.int x)).map (fun lv' => (pc + 1, lv', r))
    | _ => none
  | .istore k => match st with
    | .int x :: r => (sto1 lv k (.int x)).map (fun lv' => (pc + 2, lv', r))
    | _ => none
  | .lstore_n k => match st with
    | .long x :: r => (sto2 lv k (.long x)).map (fun lv' => (pc + 1, lv', r))
    | _ => none
  | .lstore k => match st with
    | .long x :: r => (sto2 lv k (.long x)).map (fun lv' => (pc + 2, lv', r))
    | _ => none
  | .astore_n k => match st with
    | .ref x :: r => (sto1 lv k (.ref x)).map (fun lv' => (pc + 1, lv', r))
    | _ => none
  | .astore k => match st with
    | .ref x :: r => (sto1 lv k (.ref x)).map (fun lv' => (pc + 2, lv', r))
    | _ => none
  | .iinc k n => match lv[k]? with
    | some (some (.int x)) => (sto1 lv k (.int (x + Int32.ofInt n))).map (fun lv' => (pc + 3, lv', st))
    | _ => none
  | .iadd => match st with
    | .int y :: .int x :: r => some (pc + 1, lv, .int (x + y) :: r)
    | _ => none
  | .isub => match st with
    | .int y :: .int x :: r => some (pc + 1, lv, .int (x - y) :: r)
    | _ => none
  | .imul => match st with
    | .int y :: .int x :: r => some (pc + 1, lv, .int (x * y) :: r)
    | _ => none
  | .iand => match st with
    | .int y :: .int x :: r => some (pc + 1, lv, .int (x &&& y) :: r)
    | _ => none
  | .ior => match st with
    | .int y :: .int x :: r => some (pc + 1, lv, .int (x ||| y) :: r)
    | _ => none
  | .ixor => match st with
    | .int y :: .int x :: r => some (pc + 1, lv, .int (x ^^^ y) :: r)
    | _ => none
  | .ishl => match st with
    | .int y :: .int x :: r => some (pc + 1, lv, .int (x <<< (y &&& 31)) :: r)
    | _ => none
  | .ishr => match st with
    | .int y :: .int x :: r => some (pc + 1, lv, .int (x >>> (y &&& 31)) :: r)
    | _ => none
  | .iushr => match st with
    | .int y :: .int x :: r => some (pc + 1, lv, .int (x.toUInt32 >>> (y.toUInt32 &&& Int32.toUInt32 31)).toInt32 :: r)
    | _ => none
  | .ineg => match st with
    | .int x :: r => some (pc + 1, lv, .int (-x) :: r)
    | _ => none
  | .ladd => match st with
    | .long y :: .long x :: r => some (pc + 1, lv, .long (x + y) :: r)
    | _ => none
  | .lsub => match st with
    | .long y :: .long x :: r => some (pc + 1, lv, .long (x - y) :: r)
    | _ => none
  | .lmul => match st with
    | .long y :: .long x :: r => some (pc + 1, lv, .long (x * y) :: r)
    | _ => none
  | .land => match st with
    | .long y :: .long x :: r => some (pc + 1, lv, .long (x &&& y) :: r)
    | _ => none
  | .lshl => match st with
    | .int y :: .long x :: r => some (pc + 1, lv, .long (x <<< (y.toInt64 &&& 63)) :: r)
    | _ => none
  | .lshr => match st with
    | .int y :: .long x :: r => some (pc + 1, lv, .long (x >>> (y.toInt64 &&& 63)) :: r)
    | _ => none
  | .lcmp => match st with
    | .long y :: .long x :: r => some (pc + 1, lv, .int (lg_cmp x y) :: r)
    | _ => none
  | .i2l => match st with
    | .int x :: r => some (pc + 1, lv, .long x.toInt64 :: r)
    | _ => none
  | .i2b => match st with
    | .int x :: r => some (pc + 1, lv, .int x.toInt8.toInt32 :: r)
    | _ => none
  | .i2s => match st with
    | .int x :: r => some (pc + 1, lv, .int x.toInt16.toInt32 :: r)
    | _ => none
  | .dup => match st with
    | v :: r => if v.category == 1 then some (pc + 1, lv, v :: v :: r) else none
    | _ => none
  | .dup2 => match st with
    | v :: w :: r => if v.category == 1 && w.category == 1 then some (pc + 1, lv, v :: w :: v :: w :: r) else none
    | _ => none
  | .pop => match st with
    | v :: r => if v.category == 1 then some (pc + 1, lv, r) else none
    | _ => none
  | .goto off => (tgt pc off).map (fun t => (t, lv, st))
  | _ => none
def sN (i : Instr) : Nat := match i with
  | .bipush _ => 2
  | .iload _ => 2
  | .lload _ => 2
  | .aload _ => 2
  | .istore _ => 2
  | .lstore _ => 2
  | .astore _ => 2
  | .sipush _ => 3
  | .iinc _ _ => 3
  | .goto _ => 3
  | _ => 1
theorem ldI_spec {lv : List (Option Value)} {i : Nat} {v : Value} (h : ldI lv i = some v) : ∃ x, v = .int x ∧ lv[i]? = some (some (.int x)) := by
  unfold ldI at h
  split at h
  · cases h; rename_i x hx; exact ⟨x, rfl, hx⟩
  · cases h
theorem ldL_spec {lv : List (Option Value)} {i : Nat} {v : Value} (h : ldL lv i = some v) : ∃ x, v = .long x ∧ lv[i]? = some (some (.long x)) := by
  unfold ldL at h
  split at h
  · cases h; rename_i x hx; exact ⟨x, rfl, hx⟩
  · cases h
theorem ldA_spec {lv : List (Option Value)} {i : Nat} {v : Value} (h : ldA lv i = some v) : ∃ x, v = .ref x ∧ lv[i]? = some (some (.ref x)) := by
  unfold ldA at h
  split at h
  · cases h; rename_i x hx; exact ⟨x, rfl, hx⟩
  · cases h
theorem sto1_spec {lv lv' : List (Option Value)} {i : Nat} {v : Value} (h : sto1 lv i v = some lv') : i < lv.length ∧ lv' = st1 lv i v := by
  unfold sto1 at h
  split at h
  · cases h; rename_i h1; exact ⟨h1, rfl⟩
  · cases h
theorem sto2_spec {lv lv' : List (Option Value)} {i : Nat} {v : Value} (h : sto2 lv i v = some lv') : i + 1 < lv.length ∧ lv' = st2 lv i v := by
  unfold sto2 at h
  split at h
  · cases h; rename_i h1; exact ⟨h1, rfl⟩
  · cases h
section JS
variable {M : MT} {d mc ms : Nat} {Q : Option Value → AH → Prop} {pc pc' : Nat} {lv lv' : List (Option Value)} {st st' : List Value} {hp : AH} {cs ss : Nat} {i : Instr}
theorem J_s (hd : decode M.by pc = .ok (i, sN i)) (hs : sA i pc lv st = some (pc', lv', st')) (k : J M d mc ms Q pc' lv' st' hp cs ss) : J M d mc ms Q pc lv st hp cs ss := by
  intro p l e s m args below meth c D cA A ad0 x H locs ls hE hl hP hD hS hL
  have hx := hE.1
  have hb := hE.2.1
  have K := fun ls' (hL' : jL M.ml (ad0 ++ x) lv' ls') => k p l e s m args below meth c D cA A ad0 x H locs ls' hE hl hP hD hS hL'
  cases i with
  | iconst n => cases hs; exact lv_iconst hx hb hd rfl (K ls hL)
  | bipush n => cases hs; exact lv_bipush hx hb hd rfl (K ls hL)
  | sipush n => cases hs; exact lv_sipush hx hb hd rfl (K ls hL)
  | lconst n => cases hs; exact lv_lconst hx hb hd rfl (K ls hL)
  | iload_n k =>
    obtain ⟨v, hv, he⟩ := Option.map_eq_some_iff.mp hs
    cases he
    obtain ⟨y, rfl, hy⟩ := ldI_spec hv
    exact lv_iload_n hx hb hd rfl (hL.2.2.2 _ _ hy) (K ls hL)
  | iload k =>
    obtain ⟨v, hv, he⟩ := Option.map_eq_some_iff.mp hs
    cases he
    obtain ⟨y, rfl, hy⟩ := ldI_spec hv
    exact lv_iload hx hb hd (hL.2.2.2 _ _ hy) (K ls hL)
  | lload_n k =>
    obtain ⟨v, hv, he⟩ := Option.map_eq_some_iff.mp hs
    cases he
    obtain ⟨y, rfl, hy⟩ := ldL_spec hv
    exact lv_lload_n hx hb hd rfl (hL.2.2.2 _ _ hy) (K ls hL)
  | lload k =>
    obtain ⟨v, hv, he⟩ := Option.map_eq_some_iff.mp hs
    cases he
    obtain ⟨y, rfl, hy⟩ := ldL_spec hv
    exact lv_lload hx hb hd (hL.2.2.2 _ _ hy) (K ls hL)
  | aload_n k =>
    obtain ⟨v, hv, he⟩ := Option.map_eq_some_iff.mp hs
    cases he
    obtain ⟨y, rfl, hy⟩ := ldA_spec hv
    exact lv_aload_n hx hb hd rfl (hL.2.2.2 _ _ hy) (K ls hL)
  | aload k =>
    obtain ⟨v, hv, he⟩ := Option.map_eq_some_iff.mp hs
    cases he
    obtain ⟨y, rfl, hy⟩ := ldA_spec hv
    exact lv_aload hx hb hd (hL.2.2.2 _ _ hy) (K ls hL)
  | istore_n k =>
    simp only [sA] at hs
    split at hs
    · obtain ⟨lv1, hv, he⟩ := Option.map_eq_some_iff.mp hs
      cases he
      obtain ⟨h1, rfl⟩ := sto1_spec hv
      exact lv_istore_n hx hb hd rfl (kl_has hL) (by rw [← hL.1]; exact h1) rfl (fun ls' h' => K ls' (jL_st1 hL h'))
    · cases hs
  | istore k =>
    simp only [sA] at hs
    split at hs
    · obtain ⟨lv1, hv, he⟩ := Option.map_eq_some_iff.mp hs
      cases he
      obtain ⟨h1, rfl⟩ := sto1_spec hv
      exact lv_istore hx hb hd (kl_has hL) (by rw [← hL.1]; exact h1) rfl (fun ls' h' => K ls' (jL_st1 hL h'))
    · cases hs
  | astore_n k =>
    simp only [sA] at hs
    split at hs
    · obtain ⟨lv1, hv, he⟩ := Option.map_eq_some_iff.mp hs
      cases he
      obtain ⟨h1, rfl⟩ := sto1_spec hv
      exact lv_astore_n hx hb hd rfl (kl_has hL) (by rw [← hL.1]; exact h1) rfl (fun ls' h' => K ls' (jL_st1 hL h'))
    · cases hs
  | astore k =>
    simp only [sA] at hs
    split at hs
    · obtain ⟨lv1, hv, he⟩ := Option.map_eq_some_iff.mp hs
      cases he
      obtain ⟨h1, rfl⟩ := sto1_spec hv
      exact lv_astore hx hb hd (kl_has hL) (by rw [← hL.1]; exact h1) rfl (fun ls' h' => K ls' (jL_st1 hL h'))
    · cases hs
  | lstore_n k =>
    simp only [sA] at hs
    split at hs
    · obtain ⟨lv1, hv, he⟩ := Option.map_eq_some_iff.mp hs
      cases he
      obtain ⟨h1, rfl⟩ := sto2_spec hv
      exact lv_lstore_n hx hb hd rfl (kl_has hL) (by rw [← hL.1]; exact h1) rfl (fun ls' h' => K ls' (jL_st2 hL h'))
    · cases hs
  | lstore k =>
    simp only [sA] at hs
    split at hs
    · obtain ⟨lv1, hv, he⟩ := Option.map_eq_some_iff.mp hs
      cases he
      obtain ⟨h1, rfl⟩ := sto2_spec hv
      exact lv_lstore hx hb hd (kl_has hL) (by rw [← hL.1]; exact h1) rfl (fun ls' h' => K ls' (jL_st2 hL h'))
    · cases hs
  | iinc k n =>
    simp only [sA] at hs
    split at hs
    · rename_i y hy
      obtain ⟨lv1, hv, he⟩ := Option.map_eq_some_iff.mp hs
      cases he
      obtain ⟨h1, rfl⟩ := sto1_spec hv
      obtain ⟨q, hq⟩ := List.getElem?_of_mem (kl_mem (ad := ad0 ++ x) hy)
      exact lv_iinc hx hb hd (kl_has hL) hq rfl (by rw [← hL.1]; exact h1) rfl (fun ls' h' => K ls' (jL_st1 hL h'))
    · cases hs
  | iadd => simp only [sA] at hs; split at hs <;> cases hs; exact lv_iadd hx hb hd (K ls hL)
  | isub => simp only [sA] at hs; split at hs <;> cases hs; exact lv_isub hx hb hd (K ls hL)
  | imul => simp only [sA] at hs; split at hs <;> cases hs; exact lv_imul hx hb hd (K ls hL)
  | iand => simp only [sA] at hs; split at hs <;> cases hs; exact lv_iand hx hb hd (K ls hL)
  | ior => simp only [sA] at hs; split at hs <;> cases hs; exact lv_ior hx hb hd (K ls hL)
  | ixor => simp only [sA] at hs; split at hs <;> cases hs; exact lv_ixor hx hb hd (K ls hL)
  | ishl => simp only [sA] at hs; split at hs <;> cases hs; exact lv_ishl hx hb hd (K ls hL)
  | ishr => simp only [sA] at hs; split at hs <;> cases hs; exact lv_ishr hx hb hd (K ls hL)
  | iushr => simp only [sA] at hs; split at hs <;> cases hs; exact lv_iushr hx hb hd rfl (K ls hL)
  | ineg => simp only [sA] at hs; split at hs <;> cases hs; exact lv_ineg hx hb hd (K ls hL)
  | ladd => simp only [sA] at hs; split at hs <;> cases hs; exact lv_ladd hx hb hd (K ls hL)
  | lsub => simp only [sA] at hs; split at hs <;> cases hs; exact lv_lsub hx hb hd (K ls hL)
  | lmul => simp only [sA] at hs; split at hs <;> cases hs; exact lv_lmul hx hb hd (K ls hL)
  | land => simp only [sA] at hs; split at hs <;> cases hs; exact lv_land hx hb hd (K ls hL)
  | lshl => simp only [sA] at hs; split at hs <;> cases hs; exact lv_lshl hx hb hd rfl (K ls hL)
  | lshr => simp only [sA] at hs; split at hs <;> cases hs; exact lv_lshr hx hb hd rfl (K ls hL)
  | lcmp => simp only [sA] at hs; split at hs <;> cases hs; exact W.lcmp hx hb hd (K ls hL)
  | i2l => simp only [sA] at hs; split at hs <;> cases hs; exact lv_i2l hx hb hd rfl (K ls hL)
  | i2b => simp only [sA] at hs; split at hs <;> cases hs; exact lv_i2b hx hb hd rfl (K ls hL)
  | i2s => simp only [sA] at hs; split at hs <;> cases hs; exact lv_i2s hx hb hd rfl (K ls hL)
  | dup =>
    simp only [sA] at hs
    split at hs
    · split at hs
      · cases hs; rename_i hc; exact lv_dup hx hb hd (by rw [cv_cat]; simpa using hc) (K ls hL)
      · cases hs
    · cases hs
  | dup2 =>
    simp only [sA] at hs
    split at hs
    · split at hs
      · cases hs; rename_i hc
        rw [Bool.and_eq_true] at hc
        exact lv_dup2_11 hx hb hd (by rw [cv_cat]; simpa using hc.1) (by rw [cv_cat]; simpa using hc.2) (K ls hL)
      · cases hs
    · cases hs
  | pop =>
    simp only [sA] at hs
    split at hs
    · split at hs
      · cases hs; rename_i v hc; exact lv_pop (va := cv (ad0 ++ x) v) hx hb hd (by rw [cv_cat]; simpa using hc) (K ls hL)
      · cases hs
    · cases hs
  | goto off =>
    obtain ⟨t, ht, he⟩ := Option.map_eq_some_iff.mp hs
    cases he
    exact lv_goto hx hb hd (tgt_spec ht) (K ls hL)
  | _ => cases hs
/-! branches -/
def cmpB (c : Jvm.ClassFile.Cond) (x y : Int32) : Bool := match c with
  | .eq => decide (x = y)
  | .ne => decide (¬ x = y)
  | .lt => decide (x < y)
  | .ge => decide (y ≤ x)
  | .gt => decide (y < x)
  | .le => decide (x ≤ y)
def bA (i : Instr) (pc : Nat) (st : List Value) : Option (Bool × Nat × List Value) := match i with
  | .ifCond c off => match st with
    | .int x :: r => (tgt pc off).map (fun t => (cmpB c x 0, t, r))
    | _ => none
  | .if_icmp c off => match st with
    | .int y :: .int x :: r => (tgt pc off).map (fun t => (cmpB c x y, t, r))
    | _ => none
  | _ => none
theorem J_b {b : Bool} {t : Nat} (hd : decode M.by pc = .ok (i, 3)) (hs : bA i pc st = some (b, t, st')) (kt : b = true → J M d mc ms Q t lv st' hp cs ss) (kf : b = false → J M d mc ms Q (pc + 3) lv st' hp cs ss) : J M d mc ms Q pc lv st hp cs ss := by
  intro p l e s m args below meth c D cA A ad0 x H locs ls hE hl hP hD hS hL
  have hx := hE.1
  have hb := hE.2.1
  have Kt := fun h => kt h p l e s m args below meth c D cA A ad0 x H locs ls hE hl hP hD hS hL
  have Kf := fun h => kf h p l e s m args below meth c D cA A ad0 x H locs ls hE hl hP hD hS hL
  cases i with
  | ifCond cd off =>
    simp only [bA] at hs
    split at hs
    · obtain ⟨t1, ht, he⟩ := Option.map_eq_some_iff.mp hs
      cases he
      have ht := tgt_spec ht
      cases cd
      · exact lv_if_eq hx hb hd ht (fun h => Kt (decide_eq_true h)) (fun h => Kf (decide_eq_false h))
      · exact lv_if_ne hx hb hd ht (fun h => Kt (decide_eq_true h)) (fun h => Kf (decide_eq_false (fun q => q h)))
      · exact lv_if_lt hx hb hd ht (fun h => Kt (decide_eq_true h)) (fun h => Kf (decide_eq_false h))
      · exact lv_if_ge hx hb hd ht (fun h => Kt (decide_eq_true h)) (fun h => Kf (decide_eq_false h))
      · exact lv_if_gt hx hb hd ht (fun h => Kt (decide_eq_true h)) (fun h => Kf (decide_eq_false h))
      · exact lv_if_le hx hb hd ht (fun h => Kt (decide_eq_true h)) (fun h => Kf (decide_eq_false h))
    · cases hs
  | if_icmp cd off =>
    simp only [bA] at hs
    split at hs
    · obtain ⟨t1, ht, he⟩ := Option.map_eq_some_iff.mp hs
      cases he
      have ht := tgt_spec ht
      cases cd
      · exact lv_icmp_eq hx hb hd ht (fun h => Kt (decide_eq_true h)) (fun h => Kf (decide_eq_false h))
      · exact lv_icmp_ne hx hb hd ht (fun h => Kt (decide_eq_true h)) (fun h => Kf (decide_eq_false (fun q => q h)))
      · exact lv_icmp_lt hx hb hd ht (fun h => Kt (decide_eq_true h)) (fun h => Kf (decide_eq_false h))
      · exact lv_icmp_ge hx hb hd ht (fun h => Kt (decide_eq_true h)) (fun h => Kf (decide_eq_false h))
      · exact lv_icmp_gt hx hb hd ht (fun h => Kt (decide_eq_true h)) (fun h => Kf (decide_eq_false h))
      · exact lv_icmp_le hx hb hd ht (fun h => Kt (decide_eq_true h)) (fun h => Kf (decide_eq_false h))
    · cases hs
  | _ => cases hs
end JS
