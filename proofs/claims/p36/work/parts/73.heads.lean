/-- a loop's head: its pc, its template (bounds, locals, heap), its measure -/
abbrev HD : Type := Nat × BD × List (Option AVa) × AHa × List (Bool × AN)
def colV (t a : AVa) : List (Nat × AN) := match t, a with
  | .inl (some j, _), .inl n => [(j, n)]
  | .inr (.inr (some (some j, _))), .inr (.inr (some n)) => [(j, n)]
  | _, _ => []
def colZ {α β : Type} (f : α → β → List (Nat × AN)) : List α → List β → List (Nat × AN)
  | a :: as, b :: bs => f a b ++ colZ f as bs
  | _, _ => []
def colO (t a : Option AVa) : List (Nat × AN) := match t, a with
  | some t, some a => colV t a
  | _, _ => []
def colC (t a : ACa) : List (Nat × AN) := match t, a with
  | .inr (.inl (_, ts)), .inr (.inl (_, ns)) => colZ (fun t n => colV (.inl t) (.inl n)) ts ns
  | .inr (.inr (.inr (_, ft))), .inr (.inr (.inr (_, fa))) => colZ colV ft fa
  | _, _ => []
def sgm (lt la : List (Option AVa)) (ht ha : AHa) : Nat → AN := fun j => ((colZ colO lt la ++ colZ colC ht ha).lookup j).getD (none, 0)
def subM (σ : Nat → AN) (q : Bool × AN) : Bool × AN := (q.1, match q.2.1 with
  | none => q.2
  | some j => ((σ j).1, (σ j).2 + q.2.2))
theorem subM_den (σ : Nat → AN) (ρ : Nat → Int) (q : Bool × AN) : wgt ρ (subM σ q) = wgt (ρt σ ρ) q := by
  have : den ρ (subM σ q).2 = den (ρt σ ρ) q.2 := by
    unfold subM
    unfold den ρt
    cases h : q.2.1 with
    | none => simp only [h]
    | some j =>
      simp only
      unfold den
      cases (σ j).1 <;> simp only <;> omega
  unfold wgt
  rw [this]
  rfl
theorem subM_mu (σ : Nat → AN) (ρ : Nat → Int) : ∀ l : List (Bool × AN), mu ρ (l.map (subM σ)) = mu (ρt σ ρ) l
  | [] => rfl
  | q :: t => by
    rw [List.map_cons]
    show wgt ρ (subM σ q) * (2000 : Int) ^ (t.map (subM σ)).length + mu ρ (t.map (subM σ)) = wgt (ρt σ ρ) q * (2000 : Int) ^ t.length + mu (ρt σ ρ) t
    rw [subM_den, subM_mu σ ρ t, List.length_map]
theorem mu_ext {B B' : BD} {ρ ρ' : Nat → Int} (e : ext B ρ B' ρ') : ∀ {l : List (Bool × AN)}, l.all (wgtB B) = true → mu ρ' l = mu ρ l
  | [], _ => rfl
  | q :: t, h => by
    rw [List.all_cons, Bool.and_eq_true] at h
    have hq : okN B q.2 := by
      have := h.1
      unfold wgtB at this
      rw [Bool.and_eq_true] at this
      exact okNB_ok this.1
    have hd : den ρ' q.2 = den ρ q.2 := by
      unfold den
      cases hn : q.2.1 with
      | none => rfl
      | some j => simp only; rw [e.2 j (hq j hn)]
    show wgt ρ' q * _ + mu ρ' t = wgt ρ q * _ + mu ρ t
    rw [mu_ext e h.2]
    unfold wgt
    rw [hd]
/-- the first p names stand for themselves -/
def sgp (p : Nat) (σ : Nat → AN) : Nat → AN := fun j => if j < p then (some j, 0) else σ j
def rig (p : Nat) (σ : Nat → AN) : Bool := (List.range p).all (fun j => decide (σ j = (some j, 0)))
def hcut (H : List HD) (p : Nat) (i : HD) : CUT := fun pc => if H.any (fun q => q.1 == pc) = true then some (fun B la ha => H.any (fun q => q.1 == pc && (inT q.2.1 q.2.2.1 q.2.2.2.1 (sgp p (sgm q.2.2.1 la q.2.2.2.1 ha)) B la ha && (rig p (sgp p (sgm q.2.2.1 la q.2.2.2.1 ha)) && lexB B i.2.2.2.2 (q.2.2.2.2.map (subM (sgp p (sgm q.2.2.1 la q.2.2.2.1 ha)))))))) else none
/-- every head of a method, from every state within its template -/
theorem loops {O : ORA} (hO : oraOk O) {k d f p : Nat} {M : MT} (hM : mtL[k]? = some M) (H : List HD) (K : KT) (r : Nat → Int) (Q : Option Value → AH → Prop) (hlen : ∀ q ∈ H, p ≤ q.2.1.length) (hmu : ∀ q ∈ H, q.2.2.2.2.all (wgtB q.2.1) = true)
    (hai : ∀ q ∈ H, ai O f true (hcut H p q) d k q.1 q.2.1 q.2.2.1 [] q.2.2.2.1 K = true) (hQ : ∀ q ∈ H, ∀ ρ : Nat → Int, (∀ j, j < p → ρ j = r j) → aiEnd K q.2.1 ρ Q) :
    ∀ (n : Nat) (q : HD), q ∈ H → ∀ (ρ : Nat → Int) (lv : List (Option Value)) (hp : AH), mu ρ q.2.2.2.2 < n → okB q.2.1 ρ → (∀ j, j < p → ρ j = r j) → rL q.2.1 ρ q.2.2.1 lv → rH q.2.1 ρ q.2.2.2.1 hp → J M d 0 0 Q q.1 lv [] hp 0 0 := by
  intro n
  induction n with
  | zero =>
    intro q hq ρ lv hp hn hB
    have := mu_lt hB (hmu q hq)
    exact absurd hn (by omega)
  | succ n ih =>
    intro q hq ρ lv hp hn hB hr hL hH
    refine ai_ok hO f true (hcut H p q) d k q.1 q.2.1 q.2.2.1 [] q.2.2.2.1 K (hai q hq) M hM ρ lv [] hp Q hB hL trivial hH (hQ q hq ρ hr) ?_
    intro pc chk hc B' ρ' la' lv' ha' hp' h1 hB' he hL' hH'
    unfold hcut at hc
    split at hc
    · cases hc
      obtain ⟨q', hm, h1⟩ := List.any_eq_true.mp h1
      simp only [Bool.and_eq_true, beq_iff_eq] at h1
      obtain ⟨hpc, i1, i2, i3⟩ := h1
      obtain ⟨o1, o2, o3⟩ := inT_ok hB' hL' hH' i1
      rw [← hpc]
      refine ih q' hm _ lv' hp' ?_ o1 (fun j hj => ?_) o2 o3
      · have h5 := lexB_ok hB' i3
        rw [subM_mu, mu_ext he (hmu q hq)] at h5
        omega
      · have h6 := of_decide_eq_true (List.all_eq_true.mp i2 j (List.mem_range.mpr hj))
        unfold ρt
        rw [h6]
        show ρ' j + 0 = r j
        rw [Int.add_zero, he.2 j (Nat.lt_of_lt_of_le hj (hlen q hq)), hr j hj]
    · cases hc
