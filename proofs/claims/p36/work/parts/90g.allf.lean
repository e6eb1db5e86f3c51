/-! ===== facts one behind the other ===== -/
def allF (PT : PTy) (ρ : Nat → Int) (α : Nat → Int → Int) : List FC → Prop
  | [] => True
  | f :: l => hF PT ρ α f ∧ allF PT ρ α l
theorem allF_ok {PT : PTy} {ρ : Nat → Int} {α : Nat → Int → Int} : ∀ {F : List FC}, (∀ f ∈ F, hF PT ρ α f) → allF PT ρ α F
  | [], _ => trivial
  | f :: l, h => ⟨h f List.mem_cons_self, allF_ok (fun g hg => h g (List.mem_cons_of_mem _ hg))⟩
theorem vc_of {PT : PTy} {B : BD} {F : List FC} {g : FC} (h : ∀ (ρ : Nat → Int) (α : Nat → Int → Int), okB B ρ → allF PT ρ α F → hF PT ρ α g) : vcOk PT (B, F, g) := fun ρ α hB hF => h ρ α hB (allF_ok hF)
theorem updI_at (f : Int → Int) (i v : Int) : updI f i v i = v := by unfold updI; rw [if_pos rfl]
theorem updI_ne {f : Int → Int} {i v j : Int} (h : ¬ j = i) : updI f i v j = f j := by unfold updI; rw [if_neg h]
def eqVs : List VC → List VC → Bool
  | [], [] => true
  | a :: l, b :: m => decide (a.1 = b.1) && (decide (a.2.1 = b.2.1) && (decide (a.2.2 = b.2.2) && eqVs l m))
  | _, _ => false
theorem eqVs_ok : ∀ {l m : List VC}, eqVs l m = true → l = m
  | [], [], _ => rfl
  | (a1, a2, a3) :: l, (b1, b2, b3) :: m, h => by
    simp only [eqVs, Bool.and_eq_true, decide_eq_true_eq] at h
    obtain ⟨h1, h2, h3, h4⟩ := h
    rw [h1, h2, h3, eqVs_ok h4]
def eqV (o : Option (List VC)) (L : List VC) : Bool := match o with
  | some l => eqVs l L
  | none => false
theorem vcs_by {PT : PTy} {o : Option (List VC)} (L : List VC) (h : eqV o L = true) (hV : ∀ v ∈ L, vcOk PT v) : vcs PT o := by
  unfold eqV at h
  split at h
  · rename_i l
    exact ⟨l, rfl, by rw [eqVs_ok h]; exact hV⟩
  · cases h
def HP0 (_ : PTy) : Prop := True
def gY2 : AHa := gY.set 1 (.inl (.int, 2, 0, 49))
theorem off_ (x c : Int) : x + c = x + 0 + c := by rw [Int.add_zero]
theorem bz_ {x a b : Int} (h : a ≤ x ∧ x ≤ b) : a ≤ x + 0 ∧ x + 0 ≤ b := by rw [Int.add_zero]; exact h
