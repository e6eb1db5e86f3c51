/-! ===== exactly: facts over names; arrays by name ===== -/
abbrev FC : Type := Nat × List AN × List Nat
abbrev PTy : Type := Nat → List Int → List (Int → Int) → Prop
def updI (f : Int → Int) (i v : Int) : Int → Int := fun j => if j = i then v else f j
def cpyF (f : Int → Int) (sp : Int) (g : Int → Int) (dp n : Int) : Int → Int := fun j => if dp ≤ j ∧ j < dp + n then f (sp + (j - dp)) else g j
def mAnd (x y : Int) : Int := (Int32.ofInt x &&& Int32.ofInt y).toInt
def mOr (x y : Int) : Int := (Int32.ofInt x ||| Int32.ofInt y).toInt
def mXor (x y : Int) : Int := (Int32.ofInt x ^^^ Int32.ofInt y).toInt
def mShl (x y : Int) : Int := (Int32.ofInt x <<< (Int32.ofInt y &&& 31)).toInt
def mShr (x y : Int) : Int := (Int32.ofInt x >>> (Int32.ofInt y &&& 31)).toInt
def mUsh (x y : Int) : Int := ((Int32.ofInt x).toUInt32 >>> ((Int32.ofInt y).toUInt32 &&& Int32.toUInt32 31)).toInt32.toInt
def mAdd (x y : Int) : Int := (Int32.ofInt x + Int32.ofInt y).toInt
def mMul (x y : Int) : Int := (Int32.ofInt x * Int32.ofInt y).toInt
def mSub (x y : Int) : Int := (Int32.ofInt x - Int32.ofInt y).toInt
def mI2b (x : Int) : Int := (Int32.ofInt x).toInt8.toInt32.toInt
def mI2s (x : Int) : Int := (Int32.ofInt x).toInt16.toInt32.toInt
def cmpI (a b : Int) : Int := if b < a then 1 else if a = b then 0 else -1
def z0 : Int → Int := fun _ => 0
/-- what a fact of the machine says -/
def hT (t : Nat) (l : List Int) (a : List (Int → Int)) : Prop := match t with
  | 0 => l.getD 0 0 = l.getD 1 0
  | 1 => ¬ l.getD 0 0 = l.getD 1 0
  | 2 => l.getD 0 0 < l.getD 1 0
  | 3 => l.getD 1 0 ≤ l.getD 0 0
  | 4 => l.getD 0 0 = l.getD 1 0 + l.getD 2 0
  | 5 => l.getD 0 0 = l.getD 1 0 - l.getD 2 0
  | 6 => l.getD 0 0 = l.getD 1 0 * l.getD 2 0
  | 7 => l.getD 0 0 = l.getD 1 0 / l.getD 2 0
  | 8 => l.getD 0 0 = l.getD 1 0 % l.getD 2 0
  | 9 => l.getD 0 0 = - l.getD 1 0
  | 10 => l.getD 0 0 = mAnd (l.getD 1 0) (l.getD 2 0)
  | 11 => l.getD 0 0 = mOr (l.getD 1 0) (l.getD 2 0)
  | 12 => l.getD 0 0 = mXor (l.getD 1 0) (l.getD 2 0)
  | 13 => l.getD 0 0 = mShl (l.getD 1 0) (l.getD 2 0)
  | 14 => l.getD 0 0 = mShr (l.getD 1 0) (l.getD 2 0)
  | 15 => l.getD 0 0 = mUsh (l.getD 1 0) (l.getD 2 0)
  | 16 => l.getD 0 0 = mAdd (l.getD 1 0) (l.getD 2 0)
  | 17 => l.getD 0 0 = mMul (l.getD 1 0) (l.getD 2 0)
  | 18 => l.getD 0 0 = mI2b (l.getD 1 0)
  | 19 => l.getD 0 0 = mI2s (l.getD 1 0)
  | 20 => l.getD 0 0 = (a.getD 0 z0) (l.getD 1 0)
  | 21 => a.getD 0 z0 = updI (a.getD 1 z0) (l.getD 0 0) (l.getD 1 0)
  | 22 => a.getD 0 z0 = cpyF (a.getD 1 z0) (l.getD 0 0) (a.getD 2 z0) (l.getD 1 0) (l.getD 2 0)
  | 23 => l.getD 0 0 = min (l.getD 1 0) (l.getD 2 0)
  | 24 => l.getD 0 0 = max (l.getD 1 0) (l.getD 2 0)
  | 25 => l.getD 0 0 < l.getD 1 0 ∨ l.getD 2 0 < l.getD 0 0
  | 26 => l.getD 0 0 + l.getD 1 0 ≤ l.getD 2 0
  | 27 => a.getD 0 z0 = a.getD 1 z0
  | 28 => l.getD 0 0 = cmpI (l.getD 1 0) (l.getD 2 0)
  | 29 => l.getD 0 0 = mSub (l.getD 1 0) (l.getD 2 0)
  | _ => True
def hF (PT : PTy) (ρ : Nat → Int) (α : Nat → Int → Int) (f : FC) : Prop := match Nat.ble 64 f.1 with
  | true => PT f.1 (f.2.1.map (den ρ)) (f.2.2.map α)
  | false => hT f.1 (f.2.1.map (den ρ)) (f.2.2.map α)
section HF
variable {PT : PTy} {ρ : Nat → Int} {α : Nat → Int → Int}
theorem hF_lo {f : FC} (h : f.1 < 64) : hF PT ρ α f = hT f.1 (f.2.1.map (den ρ)) (f.2.2.map α) := by
  unfold hF
  have e : Nat.ble 64 f.1 = false := by
    cases hb : Nat.ble 64 f.1 with
    | false => rfl
    | true => exact absurd (Nat.le_of_ble_eq_true hb) (by omega)
  rw [e]
theorem hF0 (a b : AN) (c : List Nat) : hF PT ρ α (0, [a, b], c) = (den ρ a = den ρ b) := rfl
theorem hF1 (a b : AN) (c : List Nat) : hF PT ρ α (1, [a, b], c) = ¬ (den ρ a = den ρ b) := rfl
theorem hF2 (a b : AN) (c : List Nat) : hF PT ρ α (2, [a, b], c) = (den ρ a < den ρ b) := rfl
theorem hF3 (a b : AN) (c : List Nat) : hF PT ρ α (3, [a, b], c) = (den ρ b ≤ den ρ a) := rfl
theorem hF4 (r a b : AN) (c : List Nat) : hF PT ρ α (4, [r, a, b], c) = (den ρ r = den ρ a + den ρ b) := rfl
theorem hF5 (r a b : AN) (c : List Nat) : hF PT ρ α (5, [r, a, b], c) = (den ρ r = den ρ a - den ρ b) := rfl
theorem hF6 (r a b : AN) (c : List Nat) : hF PT ρ α (6, [r, a, b], c) = (den ρ r = den ρ a * den ρ b) := rfl
theorem hF7 (r a b : AN) (c : List Nat) : hF PT ρ α (7, [r, a, b], c) = (den ρ r = den ρ a / den ρ b) := rfl
theorem hF8 (r a b : AN) (c : List Nat) : hF PT ρ α (8, [r, a, b], c) = (den ρ r = den ρ a % den ρ b) := rfl
theorem hF9 (r a : AN) (c : List Nat) : hF PT ρ α (9, [r, a], c) = (den ρ r = - den ρ a) := rfl
theorem hF10 (r a b : AN) (c : List Nat) : hF PT ρ α (10, [r, a, b], c) = (den ρ r = mAnd (den ρ a) (den ρ b)) := rfl
theorem hF11 (r a b : AN) (c : List Nat) : hF PT ρ α (11, [r, a, b], c) = (den ρ r = mOr (den ρ a) (den ρ b)) := rfl
theorem hF12 (r a b : AN) (c : List Nat) : hF PT ρ α (12, [r, a, b], c) = (den ρ r = mXor (den ρ a) (den ρ b)) := rfl
theorem hF13 (r a b : AN) (c : List Nat) : hF PT ρ α (13, [r, a, b], c) = (den ρ r = mShl (den ρ a) (den ρ b)) := rfl
theorem hF14 (r a b : AN) (c : List Nat) : hF PT ρ α (14, [r, a, b], c) = (den ρ r = mShr (den ρ a) (den ρ b)) := rfl
theorem hF15 (r a b : AN) (c : List Nat) : hF PT ρ α (15, [r, a, b], c) = (den ρ r = mUsh (den ρ a) (den ρ b)) := rfl
theorem hF16 (r a b : AN) (c : List Nat) : hF PT ρ α (16, [r, a, b], c) = (den ρ r = mAdd (den ρ a) (den ρ b)) := rfl
theorem hF17 (r a b : AN) (c : List Nat) : hF PT ρ α (17, [r, a, b], c) = (den ρ r = mMul (den ρ a) (den ρ b)) := rfl
theorem hF18 (r a : AN) (c : List Nat) : hF PT ρ α (18, [r, a], c) = (den ρ r = mI2b (den ρ a)) := rfl
theorem hF19 (r a : AN) (c : List Nat) : hF PT ρ α (19, [r, a], c) = (den ρ r = mI2s (den ρ a)) := rfl
theorem hF20 (r i : AN) (s : Nat) : hF PT ρ α (20, [r, i], [s]) = (den ρ r = α s (den ρ i)) := rfl
theorem hF21 (i v : AN) (s' s : Nat) : hF PT ρ α (21, [i, v], [s', s]) = (α s' = updI (α s) (den ρ i) (den ρ v)) := rfl
theorem hF22 (i j n : AN) (s' s t : Nat) : hF PT ρ α (22, [i, j, n], [s', s, t]) = (α s' = cpyF (α s) (den ρ i) (α t) (den ρ j) (den ρ n)) := rfl
theorem hF23 (r a b : AN) (c : List Nat) : hF PT ρ α (23, [r, a, b], c) = (den ρ r = min (den ρ a) (den ρ b)) := rfl
theorem hF24 (r a b : AN) (c : List Nat) : hF PT ρ α (24, [r, a, b], c) = (den ρ r = max (den ρ a) (den ρ b)) := rfl
theorem hF25 (r a b : AN) (c : List Nat) : hF PT ρ α (25, [r, a, b], c) = (den ρ r < den ρ a ∨ den ρ b < den ρ r) := rfl
theorem hF26 (r a b : AN) (c : List Nat) : hF PT ρ α (26, [r, a, b], c) = (den ρ r + den ρ a ≤ den ρ b) := rfl
theorem hF27 (s t : Nat) (l : List AN) : hF PT ρ α (27, l, [s, t]) = (α s = α t) := rfl
theorem hF28 (r a b : AN) (c : List Nat) : hF PT ρ α (28, [r, a, b], c) = (den ρ r = cmpI (den ρ a) (den ρ b)) := rfl
theorem hF29 (r a b : AN) (c : List Nat) : hF PT ρ α (29, [r, a, b], c) = (den ρ r = mSub (den ρ a) (den ρ b)) := rfl
theorem den_z (j : Nat) : den ρ (some j, 0) = ρ j := Int.add_zero _
theorem den_s (j : Nat) (c : Int) : den ρ (some j, c) = ρ j + c := rfl
theorem den_c (c : Int) : den ρ (none, c) = c := rfl
end HF
theorem den_ext {B B' : BD} {ρ ρ' : Nat → Int} (e : ext B ρ B' ρ') {a : AN} (h : okN B a) : den ρ' a = den ρ a := by
  unfold den
  cases hn : a.1 with
  | none => rfl
  | some j => simp only; rw [e.2 j (h j hn)]
def aext (na : Nat) (α : Nat → Int → Int) (na' : Nat) (α' : Nat → Int → Int) : Prop := na ≤ na' ∧ ∀ s, s < na → α' s = α s
theorem aext_rf {na : Nat} {α : Nat → Int → Int} : aext na α na α := ⟨Nat.le_refl _, fun _ _ => rfl⟩
theorem aext_tr {n1 n2 n3 : Nat} {a1 a2 a3 : Nat → Int → Int} (h1 : aext n1 a1 n2 a2) (h2 : aext n2 a2 n3 a3) : aext n1 a1 n3 a3 := ⟨Nat.le_trans h1.1 h2.1, fun s hs => (h2.2 s (Nat.lt_of_lt_of_le hs h1.1)).trans (h1.2 s hs)⟩
def okF1 (PT : PTy) (B : BD) (na : Nat) (ρ : Nat → Int) (α : Nat → Int → Int) (f : FC) : Prop := (∀ a ∈ f.2.1, okN B a) ∧ (∀ s ∈ f.2.2, s < na) ∧ hF PT ρ α f
def okF (PT : PTy) (B : BD) (na : Nat) (ρ : Nat → Int) (α : Nat → Int → Int) (F : List FC) : Prop := ∀ f ∈ F, okF1 PT B na ρ α f
/-- arrays: each cell's by the name that it has now -/
def rAr (an : List Nat) (α : Nat → Int → Int) (hp : AH) : Prop := ∀ (k : Nat) (ty : FieldType) (xs : List Int32), hp[k]? = some (.inl (ty, xs)) → ∀ i : Nat, i < xs.length → (xs.getD i 0).toInt = α (an.getD k 0) (i : Int)
def okAn (na : Nat) (an : List Nat) (n : Nat) : Prop := an.length = n ∧ ∀ s ∈ an, s < na
def EN (PT : PTy) (B : BD) (ρ : Nat → Int) (na : Nat) (α : Nat → Int → Int) (an : List Nat) (hp : AH) (F : List FC) : Prop := rAr an α hp ∧ okAn na an hp.length ∧ okF PT B na ρ α F
def nwA (α : Nat → Int → Int) (na : Nat) (f : Int → Int) : Nat → Int → Int := fun s => if s = na then f else α s
section ENV
variable {PT : PTy} {B B' : BD} {ρ ρ' : Nat → Int} {na na' : Nat} {α α' : Nat → Int → Int} {an : List Nat} {hp : AH} {F : List FC} {f : FC}
theorem okF1_ext (e : ext B ρ B' ρ') (ea : aext na α na' α') (h : okF1 PT B na ρ α f) : okF1 PT B' na' ρ' α' f := by
  refine ⟨fun a ha j hj => Nat.lt_of_lt_of_le (h.1 a ha j hj) e.1, fun s hs => Nat.lt_of_lt_of_le (h.2.1 s hs) ea.1, ?_⟩
  have h1 : f.2.1.map (den ρ') = f.2.1.map (den ρ) := List.map_congr_left (fun a ha => den_ext e (h.1 a ha))
  have h2 : f.2.2.map α' = f.2.2.map α := List.map_congr_left (fun s hs => ea.2 s (h.2.1 s hs))
  have h3 := h.2.2
  unfold hF at h3 ⊢
  rw [h1, h2]
  exact h3
theorem EN_ext (e : ext B ρ B' ρ') (h : EN PT B ρ na α an hp F) : EN PT B' ρ' na α an hp F := ⟨h.1, h.2.1, fun f hf => okF1_ext e aext_rf (h.2.2 f hf)⟩
theorem EN_add (h : EN PT B ρ na α an hp F) {l : List FC} (hl : okF PT B na ρ α l) : EN PT B ρ na α an hp (l ++ F) := ⟨h.1, h.2.1, fun f hf => by
  rcases List.mem_append.mp hf with q | q
  · exact hl f q
  · exact h.2.2 f q⟩
theorem okF_nil : okF PT B na ρ α [] := fun _ h => absurd h List.not_mem_nil
theorem okF_one (h : okF1 PT B na ρ α f) : okF PT B na ρ α [f] := fun g hg => by
  have := List.mem_singleton.mp hg
  subst this
  exact h
theorem an_lt (h : okAn na an hp.length) {k : Nat} (hk : k < hp.length) : an.getD k 0 < na := by
  have hk2 : k < an.length := by rw [h.1]; exact hk
  rw [List.getD_eq_getElem?_getD, List.getElem?_eq_getElem hk2]
  exact h.2 _ (List.getElem_mem hk2)
theorem nwA_ext (f : Int → Int) : aext na α (na + 1) (nwA α na f) := ⟨Nat.le_succ _, fun s hs => by unfold nwA; rw [if_neg (by omega)]⟩
theorem EN_set (h : EN PT B ρ na α an hp F) {r : Nat} {ty : FieldType} {ys : List Int32} (f : Int → Int) (hr : r < hp.length) (hf : ∀ i : Nat, i < ys.length → (ys.getD i 0).toInt = f (i : Int)) : EN PT B ρ (na + 1) (nwA α na f) (an.set r na) (hp.set r (.inl (ty, ys))) F := by
  have hl : r < an.length := by rw [h.2.1.1]; exact hr
  refine ⟨fun k ty' xs hk i hi => ?_, ⟨by rw [List.length_set, List.length_set]; exact h.2.1.1, fun s hs => ?_⟩, fun g hg => okF1_ext ext_rf (nwA_ext f) (h.2.2 g hg)⟩
  · by_cases hkr : k = r
    · subst hkr
      rw [List.getElem?_set_self hr] at hk
      cases hk
      rw [List.getD_eq_getElem?_getD (l := an.set k na), List.getElem?_set_self hl]
      show _ = nwA α na f na _
      unfold nwA
      rw [if_pos rfl]
      exact hf i hi
    · rw [List.getElem?_set_ne (Ne.symm hkr)] at hk
      have hk2 : k < hp.length := (List.getElem?_eq_some_iff.mp hk).1
      have e : (an.set r na).getD k 0 = an.getD k 0 := by rw [List.getD_eq_getElem?_getD, List.getD_eq_getElem?_getD, List.getElem?_set_ne (Ne.symm hkr)]
      rw [e]
      have := an_lt h.2.1 hk2
      unfold nwA
      rw [if_neg (by omega)]
      exact h.1 k ty' xs hk i hi
  · rcases List.mem_or_eq_of_mem_set hs with q | q
    · exact Nat.lt_succ_of_lt (h.2.1.2 s q)
    · rw [q]; exact Nat.lt_succ_self _
theorem EN_obj (h : EN PT B ρ na α an hp F) (r : Nat) (c : List Nat ⊕ (Nat × List Value)) : EN PT B ρ na α an (hp.set r (.inr c)) F := by
  refine ⟨fun k ty xs hk i hi => ?_, ⟨by rw [List.length_set]; exact h.2.1.1, h.2.1.2⟩, h.2.2⟩
  by_cases hkr : k = r
  · subst hkr
    by_cases hl : k < hp.length
    · rw [List.getElem?_set_self hl] at hk
      cases hk
    · rw [List.getElem?_eq_none (by rw [List.length_set]; omega)] at hk
      cases hk
  · rw [List.getElem?_set_ne (Ne.symm hkr)] at hk
    exact h.1 k ty xs hk i hi
end ENV
/-! ===== what is left to show: bounds, facts, and a fact that must follow ===== -/
abbrev VC : Type := BD × List FC × FC
def vcOk (PT : PTy) (v : VC) : Prop := ∀ (ρ : Nat → Int) (α : Nat → Int → Int), okB v.1 ρ → (∀ f ∈ v.2.1, hF PT ρ α f) → hF PT ρ α v.2.2
def gls (B : BD) (F gs : List FC) : List VC := (gs.filter (fun g => !F.any (fun f => decide (f = g)))).map (fun g => (B, F, g))
theorem gls_ok {PT : PTy} {B : BD} {F gs : List FC} {ρ : Nat → Int} {na : Nat} {α : Nat → Int → Int} (h : ∀ v ∈ gls B F gs, vcOk PT v) (hB : okB B ρ) (hf : okF PT B na ρ α F) : ∀ g ∈ gs, hF PT ρ α g := by
  intro g hg
  by_cases hm : F.any (fun f => decide (f = g)) = true
  · obtain ⟨f, h1, h2⟩ := List.any_eq_true.mp hm
    have h2 := of_decide_eq_true h2
    subst h2
    exact (hf f h1).2.2
  · refine h (B, F, g) (List.mem_map.mpr ⟨g, List.mem_filter.mpr ⟨hg, ?_⟩, rfl⟩) ρ α hB (fun f q => (hf f q).2.2)
    simp only [Bool.not_eq_true] at hm
    rw [hm]
    rfl
