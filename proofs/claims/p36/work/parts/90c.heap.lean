/-! ===== the facts that a step over the heap tells; what it wants of an index or a value ===== -/
def ndR (i : Instr) (sa : List AVa) (ha : AHa) : List (AN × Int × Int) := match i with
  | .iaload => match sa with
    | .inl n :: .inr (.inl r) :: _ => match ha[r]? with
      | some (.inl (_, len, _, _)) => [(n, 0, (len : Int) - 1)]
      | _ => []
    | _ => []
  | .iastore => match sa with
    | .inl v :: .inl n :: .inr (.inl r) :: _ => match ha[r]? with
      | some (.inl (_, len, lo, hi)) => [(n, 0, (len : Int) - 1), (v, lo, hi)]
      | _ => []
    | _ => []
  | _ => []
def inR (B : BD) (q : AN × Int × Int) : Bool := decide (q.2.1 ≤ (bnd B q.1).1) && decide ((bnd B q.1).2 ≤ q.2.2)
def narA (B : BD) (l : List (AN × Int × Int)) : BD := l.foldl (fun B q => if inR B q = true then B else narL (narH B q.1 q.2.2) q.1 q.2.1) B
def ndG (B : BD) (l : List (AN × Int × Int)) : List FC := l.flatMap (fun q => if inR B q = true then [] else [(3, [q.1, (none, q.2.1)], []), (3, [(none, q.2.2), q.1], [])])
theorem narA_ok {PT : PTy} {B0 : BD} {ρ : Nat → Int} {α : Nat → Int → Int} (hB0 : okB B0 ρ) : ∀ (l : List (AN × Int × Int)) (B : BD), okB B ρ → (∀ q ∈ l, okN B0 q.1) → (∀ g ∈ ndG B0 l, hF PT ρ α g) → okB (narA B l) ρ ∧ (narA B l).length = B.length
  | [], B, hB, _, _ => ⟨hB, rfl⟩
  | q :: l, B, hB, hn, hg => by
    have hg2 : ∀ g ∈ ndG B0 l, hF PT ρ α g := fun g h => hg g (by unfold ndG at h ⊢; rw [List.flatMap_cons]; exact List.mem_append_right _ h)
    have hn2 : ∀ q ∈ l, okN B0 q.1 := fun x hx => hn x (List.mem_cons_of_mem _ hx)
    have hw : q.2.1 ≤ den ρ q.1 ∧ den ρ q.1 ≤ q.2.2 := by
      by_cases hi : inR B0 q = true
      · have hb := bnd_den hB0 (hn q List.mem_cons_self)
        unfold inR at hi
        rw [Bool.and_eq_true, decide_eq_true_eq, decide_eq_true_eq] at hi
        omega
      · have h1 := hg (3, [q.1, (none, q.2.1)], []) (by unfold ndG; rw [List.flatMap_cons, if_neg hi]; exact List.mem_append_left _ List.mem_cons_self)
        have h2 := hg (3, [(none, q.2.2), q.1], []) (by unfold ndG; rw [List.flatMap_cons, if_neg hi]; exact List.mem_append_left _ (List.mem_cons_of_mem _ List.mem_cons_self))
        rw [hF3] at h1 h2
        exact ⟨h1, h2⟩
    show okB (narA (if inR B q = true then B else narL (narH B q.1 q.2.2) q.1 q.2.1) l) ρ ∧ (narA (if inR B q = true then B else narL (narH B q.1 q.2.2) q.1 q.2.1) l).length = B.length
    split
    · exact narA_ok hB0 l B hB hn2 hg2
    · have := narA_ok (PT := PT) (α := α) hB0 l (narL (narH B q.1 q.2.2) q.1 q.2.1) (narL_den (narH_den hB hw.2) hw.1) hn2 hg2
      exact ⟨this.1, this.2.trans (by rw [narL_len, narH_len])⟩
theorem ndR_ok {B : BD} {ρ : Nat → Int} {i : Instr} {sa : List AVa} {ha : AHa} {st : List Value} (hS : rS B ρ sa st) : ∀ q ∈ ndR i sa ha, okN B q.1 := by
  intro q hq
  cases i with
  | iaload =>
    simp only [ndR] at hq
    split at hq
    · obtain ⟨v, vs, rfl, hv, -⟩ := rS_cons hS
      obtain ⟨x, rfl, hx⟩ := rV_int hv
      split at hq
      · have := List.mem_singleton.mp hq
        subst this
        exact hx.1
      · cases hq
    · cases hq
  | iastore =>
    simp only [ndR] at hq
    split at hq
    · obtain ⟨v, vs, rfl, hv, hr⟩ := rS_cons hS
      obtain ⟨u, us, rfl, hu, -⟩ := rS_cons hr
      obtain ⟨x, rfl, hx⟩ := rV_int hv
      obtain ⟨y, rfl, hy⟩ := rV_int hu
      split at hq
      · simp only [List.mem_cons, List.not_mem_nil, or_false] at hq
        rcases hq with rfl | rfl
        · exact hy.1
        · exact hx.1
      · cases hq
    · cases hq
  | _ => cases hq
def fH (B : BD) (i : Instr) (sa sa' : List AVa) (an : List Nat) (na : Nat) : List Nat × Nat × List FC := match i with
  | .iaload => match sa, sa' with
    | .inl n :: .inr (.inl r) :: _, .inl q :: _ => (an, na, if q.1 = some B.length then [(20, [q, n], [an.getD r 0])] else [])
    | _, _ => (an, na, [])
  | .baload => match sa, sa' with
    | .inl n :: .inr (.inl r) :: _, .inl q :: _ => (an, na, if q.1 = some B.length then [(20, [q, n], [an.getD r 0])] else [])
    | _, _ => (an, na, [])
  | .iastore => match sa with
    | .inl v :: .inl n :: .inr (.inl r) :: _ => (an.set r na, na + 1, [(21, [n, v], [na, an.getD r 0])])
    | _ => (an, na, [])
  | .bastore => match sa with
    | .inl v :: .inl n :: .inr (.inl r) :: _ => (an.set r na, na + 1, [(21, [n, v], [na, an.getD r 0])])
    | _ => (an, na, [])
  | .idiv => match sa, sa' with
    | .inl b :: .inl a :: _, .inl r :: _ => (an, na, if 0 ≤ (bnd B a).1 then mkF B 7 r [a, b] else [])
    | _, _ => (an, na, [])
  | .irem => match sa, sa' with
    | .inl b :: .inl a :: _, .inl r :: _ => (an, na, if 0 ≤ (bnd B a).1 then mkF B 8 r [a, b] else [])
    | _, _ => (an, na, [])
  | .invokestatic _ => match sa with
    | .inl n :: .inl dp :: .inr (.inl k1) :: .inl sp :: .inr (.inl k0) :: _ => (an.set k1 na, na + 1, [(22, [sp, dp, n], [na, an.getD k0 0, an.getD k1 0])])
    | _ => (an, na, [])
  | _ => (an, na, [])
theorem inB_lt {x : Int32} {n : Nat} (h : inB x n = true) : x.toNatClampNeg < n ∧ x.toInt = ((x.toNatClampNeg : Nat) : Int) := by
  unfold inB at h
  rw [Bool.not_eq_true', Bool.or_eq_false_iff, decide_eq_false_iff_not, decide_eq_false_iff_not] at h
  have h0 : ¬ x.toInt < 0 := fun q => h.1 (by rw [Int32.lt_iff_toInt_lt, Int32.toInt_zero]; exact q)
  refine ⟨Nat.not_le.mp h.2, ?_⟩
  show x.toInt = ((x.toInt.toNat : Nat) : Int)
  omega
theorem updI_set {xs : List Int32} {f : Int → Int} (h : ∀ i : Nat, i < xs.length → (xs.getD i 0).toInt = f (i : Int)) {k : Nat} (hk : k < xs.length) (v : Int32) {x y : Int} (hx : x = (k : Int)) (hy : y = v.toInt) : ∀ i : Nat, i < (xs.set k v).length → ((xs.set k v).getD i 0).toInt = updI f x y (i : Int) := by
  intro i hi
  rw [List.length_set] at hi
  unfold updI
  by_cases hik : i = k
  · subst hik
    rw [if_pos hx.symm, hy, List.getD_eq_getElem?_getD, List.getElem?_set_self hk]
    rfl
  · rw [if_neg (by omega), List.getD_eq_getElem?_getD, List.getElem?_set_ne (Ne.symm hik), ← List.getD_eq_getElem?_getD]
    exact h i hi
theorem remI_toInt {x y : Int32} (hx : 0 ≤ x.toInt) (hy : 1 ≤ y.toInt) : (x - x / y * y).toInt = x.toInt % y.toInt := by
  obtain ⟨j, hj, rfl, e1⟩ := nI_toInt' (x := x) hx
  obtain ⟨k, hk, rfl, e2⟩ := nI_toInt' (x := y) (by omega)
  have hk0 : 0 < k := by omega
  have hm := Nat.mod_lt j hk0
  rw [pk_rem hj hk0 hk, e1, e2, nI_toInt (by omega)]
  exact Int.natCast_emod j k
theorem divI_toInt {x y : Int32} (hx : 0 ≤ x.toInt) (hy : 1 ≤ y.toInt) : (x / y).toInt = x.toInt / y.toInt := by
  obtain ⟨j, hj, rfl, e1⟩ := nI_toInt' (x := x) hx
  obtain ⟨k, hk, rfl, e2⟩ := nI_toInt' (x := y) (by omega)
  have hk0 : 0 < k := by omega
  have hm := Nat.div_le_self j k
  rw [pk_div hj hk0 hk, e1, e2, nI_toInt (by omega)]
  exact Int.natCast_ediv j k
theorem cpy_set {xs ys : List Int32} {f g : Int → Int} (hf : ∀ i : Nat, i < xs.length → (xs.getD i 0).toInt = f (i : Int)) (hg : ∀ i : Nat, i < ys.length → (ys.getD i 0).toInt = g (i : Int)) {sp dp n : Nat} (h1 : sp + n ≤ xs.length) {x y z : Int} (hx : x = (sp : Int)) (hy : y = (dp : Int)) (hz : z = (n : Int)) : ∀ i : Nat, i < (cpyL xs ys sp dp n).length → ((cpyL xs ys sp dp n).getD i 0).toInt = cpyF f x g y z (i : Int) := by
  intro i hi
  rw [cpyL_length] at hi
  unfold cpyL cpyF
  rw [List.getD_eq_getElem?_getD, List.getElem?_map, List.getElem?_range hi]
  subst hx hy hz
  by_cases hc : dp ≤ i ∧ i < dp + n
  · have hc2 : (dp : Int) ≤ (i : Int) ∧ (i : Int) < (dp : Int) + (n : Int) := by omega
    rw [if_pos hc2]
    simp only [Option.map_some, Option.getD_some, if_pos hc]
    rw [hf (sp + (i - dp)) (by omega)]
    congr 1
    omega
  · have hc2 : ¬ ((dp : Int) ≤ (i : Int) ∧ (i : Int) < (dp : Int) + (n : Int)) := by omega
    rw [if_neg hc2]
    simp only [Option.map_some, Option.getD_some, if_neg hc]
    exact hg i hi
section FHOK
variable {PT : PTy} {B : BD} {ρ ρ' : Nat → Int} {d : Nat} {M : MT} {i : Instr} {pc pc' : Nat} {sa : List AVa} {ha : AHa} {st st' : List Value} {hp hp' : AH} {na : Nat} {α : Nat → Int → Int} {an : List Nat} {F : List FC} {o : OUT}
theorem EN_keep (e : ext B ρ o.1 ρ') (h : EN PT B ρ na α an hp F) : ∃ α', aext na α na α' ∧ EN PT o.1 ρ' na α' an hp ([] ++ F) := ⟨α, aext_rf, EN_ext e h⟩
theorem EN_load (e : ext B ρ o.1 ρ') (h : EN PT B ρ na α an hp F) {r : Nat} {ty : FieldType} {xs : List Int32} {n q : AN} {x : Int32} (hr : hp[r]? = some (.inl (ty, xs))) (hx : rN B ρ n x) (hi : inB x xs.length = true) (hq : rN o.1 ρ' q (xs.getD x.toNatClampNeg 0)) : ∃ α', aext na α na α' ∧ EN PT o.1 ρ' na α' an hp ((if q.1 = some B.length then [(20, [q, n], [an.getD r 0])] else []) ++ F) := by
  refine ⟨α, aext_rf, EN_add (EN_ext e h) ?_⟩
  split
  · have hrl : r < hp.length := (List.getElem?_eq_some_iff.mp hr).1
    obtain ⟨g1, g2⟩ := inB_lt hi
    have hx' := rN_ext e hx
    refine okF_one ⟨fun z hz => ?_, fun s hs => ?_, ?_⟩
    · simp only [List.mem_cons, List.not_mem_nil, or_false] at hz
      rcases hz with rfl | rfl
      · exact hq.1
      · exact hx'.1
    · have := List.mem_singleton.mp hs
      subst this
      exact an_lt h.2.1 hrl
    · rw [hF20, ← hq.2, ← hx'.2, g2]
      exact h.1 r ty xs hr _ g1
  · exact okF_nil
theorem EN_store (e : ext B ρ o.1 ρ') (h : EN PT B ρ na α an hp F) {r : Nat} {ty : FieldType} {xs : List Int32} {n v : AN} {x z : Int32} (hr : hp[r]? = some (.inl (ty, xs))) (hx : rN B ρ n x) (hz : rN B ρ v z) (hi : inB x xs.length = true) : ∃ α', aext na α (na + 1) α' ∧ EN PT o.1 ρ' (na + 1) α' (an.set r na) (hp.set r (.inl (ty, xs.set x.toNatClampNeg z))) ([(21, [n, v], [na, an.getD r 0])] ++ F) := by
  have hrl : r < hp.length := (List.getElem?_eq_some_iff.mp hr).1
  obtain ⟨g1, g2⟩ := inB_lt hi
  have hx' := rN_ext e hx
  have hz' := rN_ext e hz
  have hlt := an_lt h.2.1 hrl
  refine ⟨nwA α na (updI (α (an.getD r 0)) (den ρ n) (den ρ v)), nwA_ext _, EN_add (EN_ext e (EN_set h _ hrl (updI_set (h.1 r ty xs hr) g1 z (by rw [← hx.2]; exact g2) hz.2.symm))) ?_⟩
  refine okF_one ⟨fun q hq => ?_, fun s hs => ?_, ?_⟩
  · simp only [List.mem_cons, List.not_mem_nil, or_false] at hq
    rcases hq with rfl | rfl
    · exact hx'.1
    · exact hz'.1
  · simp only [List.mem_cons, List.not_mem_nil, or_false] at hs
    rcases hs with rfl | rfl
    · exact Nat.lt_succ_self _
    · exact Nat.lt_succ_of_lt hlt
  · rw [hF21, ← hx'.2, ← hz'.2]
    unfold nwA
    rw [if_pos rfl, if_neg (by omega), hx.2, hz.2]
set_option maxHeartbeats 1000000 in
theorem fH_ok (hB : okB B ρ) (h : aH1 d B M i pc sa ha = some o) (e : ext B ρ o.1 ρ') (g : hA d M i pc st hp = some (pc', st', hp')) (hS : rS B ρ sa st) (hS' : rS o.1 ρ' o.2.2.1 st') (hE : EN PT B ρ na α an hp F) : ∃ α', aext na α (fH B i sa o.2.2.1 an na).2.1 α' ∧ EN PT o.1 ρ' (fH B i sa o.2.2.1 an na).2.1 α' (fH B i sa o.2.2.1 an na).1 hp' ((fH B i sa o.2.2.1 an na).2.2 ++ F) := by
  cases i with
  | getfield idx =>
    have : hp' = hp := by
      simp only [hA] at g
      split at g
      · split at g
        · split at g
          · split at g
            · cases g; rfl
            · cases g
          · cases g
        · cases g
      · cases g
    subst this
    exact EN_keep e hE
  | putfield idx =>
    have : ∃ r c, hp' = hp.set r (.inr c) := by
      simp only [hA] at g
      split at g
      · split at g
        · split at g
          · cases g; exact ⟨_, _, rfl⟩
          · cases g
        · cases g
      · cases g
    obtain ⟨r, c, rfl⟩ := this
    exact ⟨α, aext_rf, EN_ext e (EN_obj hE r c)⟩
  | iaload =>
    simp only [aH1] at h
    split at h
    · rename_i n r s
      split at h
      · split at h
        · rename_i c hc q hq
          cases h
          obtain ⟨v, vs, rfl, hv, hr⟩ := rS_cons hS
          obtain ⟨u, us, rfl, hu, -⟩ := rS_cons hr
          obtain ⟨x, rfl, hx⟩ := rV_int hv
          cases rV_ref hu
          simp only [hA] at g
          split at g
          · rename_i xs hxs
            split at g
            · rename_i hin
              cases g
              obtain ⟨w, ws, hw, hv', -⟩ := rS_cons hS'
              cases hw
              exact EN_load e hE hxs hx hin hv'
            · cases g
          · cases g
        · cases h
      · cases h
    · cases h
  | baload =>
    simp only [aH1] at h
    split at h
    · rename_i n r s
      split at h
      · split at h
        · rename_i c hc q hq
          cases h
          obtain ⟨v, vs, rfl, hv, hr⟩ := rS_cons hS
          obtain ⟨u, us, rfl, hu, -⟩ := rS_cons hr
          obtain ⟨x, rfl, hx⟩ := rV_int hv
          cases rV_ref hu
          simp only [hA] at g
          split at g
          · rename_i xs hxs
            split at g
            · rename_i hin
              cases g
              obtain ⟨w, ws, hw, hv', -⟩ := rS_cons hS'
              cases hw
              exact EN_load e hE hxs hx hin hv'
            · cases g
          · cases g
        · cases h
      · cases h
    · cases h
  | iastore =>
    simp only [aH1] at h
    split at h
    · rename_i v0 n0 r s
      obtain ⟨v, vs, rfl, hv, hr⟩ := rS_cons hS
      obtain ⟨u, us, rfl, hu, hr2⟩ := rS_cons hr
      obtain ⟨t, ts, rfl, ht, -⟩ := rS_cons hr2
      obtain ⟨z, rfl, hz⟩ := rV_int hv
      obtain ⟨x, rfl, hx⟩ := rV_int hu
      cases rV_ref ht
      simp only [hA] at g
      split at g
      · rename_i xs hxs
        split at g
        · rename_i hin
          cases g
          exact EN_store e hE hxs hx hz hin
        · cases g
      · cases g
    · cases h
  | bastore =>
    simp only [aH1] at h
    split at h
    · rename_i v0 n0 r s
      split at h
      · split at h
        · rename_i hb01
          obtain ⟨v, vs, rfl, hv, hr⟩ := rS_cons hS
          obtain ⟨u, us, rfl, hu, hr2⟩ := rS_cons hr
          obtain ⟨t, ts, rfl, ht, -⟩ := rS_cons hr2
          obtain ⟨z, rfl, hz⟩ := rV_int hv
          obtain ⟨x, rfl, hx⟩ := rV_int hu
          cases rV_ref ht
          have hbz := bnd_ok hB hz
          have hz01 : z = 0 ∨ z = 1 := by
            have e0 : (0 : Int32).toInt = 0 := by decide
            have e1 : (1 : Int32).toInt = 1 := by decide
            rcases (show z.toInt = 0 ∨ z.toInt = 1 by omega) with q | q
            · left; exact Int32.toInt_inj.mp (by omega)
            · right; exact Int32.toInt_inj.mp (by omega)
          have hnar : vp_nar .boolean z = z := by rcases hz01 with q | q <;> subst q <;> decide
          simp only [hA] at g
          split at g
          · rename_i xs hxs
            split at g
            · rename_i hin
              rw [hnar] at g
              cases g
              exact EN_store e hE hxs hx hz hin
            · cases g
          · cases g
        · cases h
      · cases h
    · cases h
  | arraylength =>
    have : hp' = hp := by
      simp only [hA] at g
      split at g
      · split at g
        · cases g; rfl
        · cases g
      · cases g
    subst this
    exact EN_keep e hE
  | idiv =>
    simp only [aH1] at h
    split at h
    · rename_i b a s
      split at h
      · rename_i hb
        cases h
        obtain ⟨v, vs, rfl, hv, hr⟩ := rS_cons hS
        obtain ⟨u, us, rfl, hu, hr2⟩ := rS_cons hr
        obtain ⟨y, rfl, hy⟩ := rV_int hv
        obtain ⟨x, rfl, hx⟩ := rV_int hu
        simp only [hA] at g
        split at g
        · cases g
        · cases g
          obtain ⟨w, ws, hw, hv', -⟩ := rS_cons hS'
          cases hw
          have b1 := bnd_ok hB hx
          have b2 := bnd_ok hB hy
          refine ⟨α, aext_rf, EN_add (EN_ext e hE) ?_⟩
          show okF PT (divN B a b).1 na ρ' α (if 0 ≤ (bnd B a).1 then mkF B 7 (divN B a b).2 [a, b] else [])
          split
          · exact mkF2 e hv' hx hy (by decide) (divI_toInt (by omega) (by omega))
          · exact okF_nil
      · cases h
    · cases h
  | irem =>
    simp only [aH1] at h
    split at h
    · rename_i b a s
      split at h
      · rename_i hb
        cases h
        obtain ⟨v, vs, rfl, hv, hr⟩ := rS_cons hS
        obtain ⟨u, us, rfl, hu, hr2⟩ := rS_cons hr
        obtain ⟨y, rfl, hy⟩ := rV_int hv
        obtain ⟨x, rfl, hx⟩ := rV_int hu
        simp only [hA] at g
        split at g
        · cases g
        · cases g
          obtain ⟨w, ws, hw, hv', -⟩ := rS_cons hS'
          cases hw
          have b1 := bnd_ok hB hx
          have b2 := bnd_ok hB hy
          refine ⟨α, aext_rf, EN_add (EN_ext e hE) ?_⟩
          show okF PT (remN B a b).1 na ρ' α (if 0 ≤ (bnd B a).1 then mkF B 8 (remN B a b).2 [a, b] else [])
          split
          · exact mkF2 e hv' hx hy (by decide) (remI_toInt (by omega) (by omega))
          · exact okF_nil
      · cases h
    · cases h
  | ldc idx =>
    have : hp' = hp := by
      simp only [hA] at g
      split at g
      · cases g; rfl
      · cases g
    subst this
    exact EN_keep e hE
  | ldc_w idx =>
    have : hp' = hp := by
      simp only [hA] at g
      split at g
      · cases g; rfl
      · cases g
    subst this
    exact EN_keep e hE
  | ldc2_w idx =>
    have : hp' = hp := by
      simp only [hA] at g
      split at g
      · cases g; rfl
      · cases g
    subst this
    exact EN_keep e hE
  | invokestatic idx =>
    simp only [aH1] at h
    split at h
    · rename_i kd a1 a2 a3 a4 n dp k1 sp k0 s1 h1
      split at h
      · rename_i n0 lo0 hi0 n1 lo1 hi1 g0 g1
        split at h
        · rename_i hc
          obtain ⟨c1, c2, c3, c4, c5, c6, c7, c8, c9, c10, c11⟩ := hc
          cases h
          obtain ⟨v1, t1, rfl, r1, hr1⟩ := rS_cons hS
          obtain ⟨v2, t2, rfl, r2, hr2⟩ := rS_cons hr1
          obtain ⟨v3, t3, rfl, r3, hr3⟩ := rS_cons hr2
          obtain ⟨v4, t4, rfl, r4, hr4⟩ := rS_cons hr3
          obtain ⟨v5, t5, rfl, r5, hr5⟩ := rS_cons hr4
          obtain ⟨xn, rfl, en⟩ := rV_int r1
          obtain ⟨xd, rfl, ed⟩ := rV_int r2
          cases rV_ref r3
          obtain ⟨xp, rfl, ep⟩ := rV_int r4
          cases rV_ref r5
          simp only [hA, h1] at g
          split at g
          · rename_i xs ys hxs hys
            split at g
            · rename_i hcond
              obtain ⟨-, -, -, p1, p2, p3, p4, p5⟩ := hcond
              cases g
              have k1l : k1 < hp.length := (List.getElem?_eq_some_iff.mp hys).1
              have k0l : k0 < hp.length := (List.getElem?_eq_some_iff.mp hxs).1
              have l1 := an_lt hE.2.1 k1l
              have l0 := an_lt hE.2.1 k0l
              have nn : ∀ w : Int32, ¬ w < 0 → w.toInt = ((w.toNatClampNeg : Nat) : Int) := fun w hw => by
                rw [Int32.lt_iff_toInt_lt, Int32.toInt_zero] at hw
                show w.toInt = ((w.toInt.toNat : Nat) : Int)
                omega
              refine ⟨nwA α na (cpyF (α (an.getD k0 0)) (den ρ sp) (α (an.getD k1 0)) (den ρ dp) (den ρ n)), nwA_ext _, EN_add (EN_ext e (EN_set hE _ k1l (cpy_set (hE.1 k0 _ xs hxs) (hE.1 k1 _ ys hys) p4 (by rw [← ep.2]; exact nn _ p1) (by rw [← ed.2]; exact nn _ p2) (by rw [← en.2]; exact nn _ p3)))) ?_⟩
              refine okF_one ⟨fun q hq => ?_, fun s hs => ?_, ?_⟩
              · simp only [List.mem_cons, List.not_mem_nil, or_false] at hq
                rcases hq with rfl | rfl | rfl
                · exact (rN_ext e ep).1
                · exact (rN_ext e ed).1
                · exact (rN_ext e en).1
              · simp only [List.mem_cons, List.not_mem_nil, or_false] at hs
                rcases hs with rfl | rfl | rfl
                · exact Nat.lt_succ_self _
                · exact Nat.lt_succ_of_lt l0
                · exact Nat.lt_succ_of_lt l1
              · rw [hF22, den_ext e ep.1, den_ext e ed.1, den_ext e en.1]
                unfold nwA
                rw [if_pos rfl, if_neg (by omega), if_neg (by omega)]
            · cases g
          · cases g
        · cases h
      · cases h
    · cases h
  | _ => cases h
end FHOK
