/-! ===== one side of the law, exactly: an object within its general heap, its numbers and its arrays ===== -/
def SD (Bs : BD) (g : AHa) (ρ : Nat → Int) (α : Nat → Int → Int) (h : AH) : Prop := okB Bs ρ ∧ rH Bs ρ g h ∧ rAr (List.range g.length) α h
def argN : Nat → Nat → List AVa
  | _, 0 => []
  | p, n + 1 => .inl (some p, 0) :: argN (p + 1) n
theorem rS_args {B : BD} {ρ : Nat → Int} : ∀ (n p : Nat) (as : List Int32), as.length = n → (∀ i, i < n → p + i < B.length ∧ (as.getD i 0).toInt = ρ (p + i)) → rS B ρ (argN p n) (as.map .int)
  | 0, _, [], _, _ => trivial
  | n + 1, p, a :: as, hl, h => by
    have h0 := h 0 (by omega)
    refine ⟨⟨fun j hj => by cases hj; exact h0.1, ?_⟩, rS_args n (p + 1) as (by simpa using hl) (fun i hi => ?_)⟩
    · show a.toInt = ρ p + 0
      rw [Int.add_zero]
      exact h0.2
    · have := h (i + 1) (by omega)
      rw [List.getD_cons_succ] at this
      rw [show p + 1 + i = p + (i + 1) by omega]
      exact this
  | 0, _, _ :: _, hl, _ => by simp at hl
  | _ + 1, _, [], hl, _ => by simp at hl
def sgG (g h : AHa) : Nat → AN := fun j => ((colZ colC g h).lookup j).getD (none, 0)
/-- behind the call the object lies within its general heap -/
def pG (Bs : BD) (g : AHa) (o : XOUT) : Bool := bOk o.1 (sgG g o.2.2.1) Bs && zipB (cOkA o.1 (sgG g o.2.2.1) Bs.length) g o.2.2.1
theorem sideS {PT : PTy} {c : XC} {Bs : BD} {g : AHa} {N : MT} {n : Nat} {ρ : Nat → Int} {α : Nat → Int → Int} {h : AH} (hN : mtL[c.1]? = some N) (hd : c.2.1 ≤ 12) (hc : wfX c = true ∧ xcOk PT c) (hB : c.2.2.1 = Bs ++ List.replicate n ((-2147483648), 2147483647)) (hA : c.2.2.2.1 = .inr (.inl 0) :: argN Bs.length n) (hg : c.2.2.2.2.1 = g) (hchk : c.2.2.2.2.2.2.all (pG Bs g) = true) (hS : SD Bs g ρ α h) (as : List Int32) (hl : as.length = n) (hpre : ∀ r : Nat → Int, (∀ j, j < Bs.length → r j = ρ j) → ∀ f ∈ c.2.2.2.2.2.1, hF PT r α f) :
    Ct N 12 0 0 (.ref 0 :: as.map .int) h (fun v hp' => ∃ o ∈ c.2.2.2.2.2.2, ∃ r a r' a', (∀ j, j < Bs.length → r j = ρ j) ∧ (∀ i, i < n → r (Bs.length + i) = (as.getD i 0).toInt) ∧ (∀ s, s < g.length → a s = α s) ∧ rO o.1 r o.2.1 v ∧ hp'.length = g.length ∧ SD Bs g r' a' hp' ∧ (∀ j, r' j = den r (sgG g o.2.2.1 j)) ∧ (∀ k, k < g.length → a' k = a (o.2.2.2.1.getD k 0)) ∧ ∀ f ∈ o.2.2.2.2.2, hF PT r a f) := by
  obtain ⟨hwf, hx⟩ := hc
  obtain ⟨s1, s2, s3⟩ := hS
  have e : ext Bs ρ (Bs ++ List.replicate n ((-2147483648), 2147483647)) (fun j => if j < Bs.length then ρ j else (as.getD (j - Bs.length) 0).toInt) := ⟨by rw [List.length_append]; omega, fun j hj => if_pos hj⟩
  have hB1 : okB (Bs ++ List.replicate n ((-2147483648), 2147483647)) (fun j => if j < Bs.length then ρ j else (as.getD (j - Bs.length) 0).toInt) := by
    intro j b hj
    by_cases hl2 : j < Bs.length
    · rw [List.getElem?_append_left hl2] at hj
      simp only [if_pos hl2]
      exact s1 j b hj
    · rw [List.getElem?_append_right (by omega)] at hj
      have hb := List.eq_of_mem_replicate (List.mem_of_getElem? hj)
      subst hb
      simp only [if_neg hl2]
      exact ⟨int32_lo _, int32_hi _⟩
  have hSv : rS (Bs ++ List.replicate n ((-2147483648), 2147483647)) (fun j => if j < Bs.length then ρ j else (as.getD (j - Bs.length) 0).toInt) (.inr (.inl 0) :: argN Bs.length n) (.ref 0 :: as.map .int) := ⟨rfl, rS_args n Bs.length as hl (fun i hi => ⟨by rw [List.length_append, List.length_replicate]; omega, by simp only [if_neg (show ¬ Bs.length + i < Bs.length by omega), show Bs.length + i - Bs.length = i by omega]⟩)⟩
  have C := hx N hN (fun j => if j < Bs.length then ρ j else (as.getD (j - Bs.length) 0).toInt) α (.ref 0 :: as.map .int) h (by rw [hB]; exact hB1) (by rw [hB, hA]; exact hSv) (by rw [hB, hg]; exact rH_ext e s2) (by rw [hg]; exact s3) (hpre _ (fun j hj => if_pos hj))
  refine Ct_weak (Ct_deep C hd) (fun v hp' hq => ?_)
  obtain ⟨o, ho, r, a, g1, g2, g3, g4, g5, g6, g7⟩ := hq
  rw [hB] at g2
  rw [hg] at g3
  have hp := List.all_eq_true.mp hchk o ho
  unfold pG at hp
  rw [Bool.and_eq_true] at hp
  have hH2 := hOk_ok (Bt := Bs) g1 hp.2 g5
  have hr : ∀ j, j < Bs.length + n → r j = (if j < Bs.length then ρ j else (as.getD (j - Bs.length) 0).toInt) := fun j hj => g2.2 j (by rw [List.length_append, List.length_replicate]; exact hj)
  refine ⟨o, ho, r, a, ρt (sgG g o.2.2.1) r, fun k => a (o.2.2.2.1.getD k 0), fun j hj => by rw [hr j (by omega), if_pos hj], fun i hi => by rw [hr _ (by omega), if_neg (by omega), show Bs.length + i - Bs.length = i by omega], g3.2, g4, hH2.1.symm, ⟨bOk_ok g1 hp.1, hH2, ?_⟩, fun _ => rfl, fun _ _ => rfl, g7⟩
  intro k ty xs hk i hi
  have hk2 : k < hp'.length := (List.getElem?_eq_some_iff.mp hk).1
  have hk3 : k < g.length := by rw [hH2.1]; exact hk2
  have ek : (List.range g.length).getD k 0 = k := by rw [List.getD_eq_getElem?_getD, List.getElem?_range hk3]; rfl
  rw [ek]
  exact g6 k ty xs hk i hi
theorem den_of {r : Nat → Int} {n m : AN} (h : n = m) : den r n = den r m := by rw [h]
theorem rO_int {B : BD} {r : Nat → Int} {n : AN} {v : Option Value} (h : rO B r (some (.inl n)) v) : ∃ z : Int32, v = some (.int z) ∧ z.toInt = den r n := by
  match v, h with
  | some w, h =>
    obtain ⟨x, rfl, hx⟩ := rV_int h
    exact ⟨x, rfl, hx.2⟩
theorem rO_long {B : BD} {r : Nat → Int} {n : Option AN} {v : Option Value} (h : rO B r (some (.inr (.inr n))) v) : ∃ z : Int64, v = some (.long z) := by
  match v, h with
  | some w, h =>
    obtain ⟨x, rfl, hx⟩ := rV_long h
    exact ⟨x, rfl⟩
theorem SD_len {Bs : BD} {g : AHa} {ρ : Nat → Int} {α : Nat → Int → Int} {h : AH} (hS : SD Bs g ρ α h) : h.length = g.length := hS.2.1.1.symm
theorem SD_obj {Bs : BD} {g : AHa} {ρ : Nat → Int} {α : Nat → Int → Int} {h : AH} {ci : Nat} {fa : List AVa} (hS : SD Bs g ρ α h) (hg : g[(0 : Nat)]? = some (.inr (.inr (.inr (ci, fa))))) : ∃ fs, (h[(0 : Nat)]? : Option AC) = some (.inr (.inr (ci, fs))) := by
  obtain ⟨x, p0, c0⟩ := rH_at hS.2.1 (k := 0) hg
  obtain ⟨fs, rfl, -⟩ := rC_obj c0
  exact ⟨fs, p0⟩
/-- the arrays of a heap, as functions -/
def arF (h : AH) : Nat → Int → Int := fun k i => match h[k]? with
  | some (.inl (_, xs)) => (xs.getD i.toNat 0).toInt
  | _ => 0
theorem arF_ok (h : AH) : rAr (List.range h.length) (arF h) h := by
  intro k ty xs hk i hi
  have hk2 : k < h.length := (List.getElem?_eq_some_iff.mp hk).1
  rw [List.getD_eq_getElem?_getD (l := List.range h.length), List.getElem?_range hk2]
  show _ = arF h k (i : Int)
  unfold arF
  rw [hk]
  rfl
