/-! ===== contracts with facts ===== -/
def sbF (τ : Nat → AN) (θ : Nat → Nat) (f : FC) : FC := (f.1, f.2.1.map (sbN τ), f.2.2.map θ)
theorem sbN_den {B1 B2 : BD} {r1 r2 : Nat → Int} {τ : Nat → AN} (h : sbOk B1 r1 B2 r2 τ) {n : AN} (hn : okN B1 n) : den r2 (sbN τ n) = den r1 n ∧ okN B2 (sbN τ n) := by
  unfold sbN
  cases e : n.1 with
  | none =>
    refine ⟨?_, fun j hj => by rw [e] at hj; cases hj⟩
    unfold den
    rw [e]
  | some j =>
    obtain ⟨g1, g2⟩ := h j (hn j e)
    refine ⟨?_, fun k hk => g1 k hk⟩
    unfold den at g2 ⊢
    rw [e]
    simp only
    rw [← g2]
    cases (τ j).1 <;> simp only <;> omega
theorem sbF_eq {PT : PTy} {B1 B2 : BD} {r1 r2 : Nat → Int} {α1 α2 : Nat → Int → Int} {τ : Nat → AN} {θ : Nat → Nat} (h : sbOk B1 r1 B2 r2 τ) {f : FC} (hn : ∀ a ∈ f.2.1, okN B1 a) (hα : ∀ s ∈ f.2.2, α2 (θ s) = α1 s) : hF PT r2 α2 (sbF τ θ f) = hF PT r1 α1 f := by
  have h1 : (f.2.1.map (sbN τ)).map (den r2) = f.2.1.map (den r1) := by
    rw [List.map_map]
    exact List.map_congr_left (fun a ha => (sbN_den h (hn a ha)).1)
  have h2 : (f.2.2.map θ).map α2 = f.2.2.map α1 := by
    rw [List.map_map]
    exact List.map_congr_left (fun s hs => hα s hs)
  unfold hF sbF
  simp only
  rw [h1, h2]
def wfF (n na : Nat) (F : List FC) : Bool := F.all (fun f => f.2.1.all (fun a => match a.1 with
  | none => true
  | some j => decide (j < n)) && f.2.2.all (fun s => decide (s < na)))
theorem wfF_ok {B : BD} {na : Nat} {F : List FC} (h : wfF B.length na F = true) : ∀ f ∈ F, (∀ a ∈ f.2.1, okN B a) ∧ (∀ s ∈ f.2.2, s < na) := by
  intro f hf
  have h1 := List.all_eq_true.mp h f hf
  rw [Bool.and_eq_true] at h1
  refine ⟨fun a ha j hj => ?_, fun s hs => of_decide_eq_true (List.all_eq_true.mp h1.2 s hs)⟩
  have h2 := List.all_eq_true.mp h1.1 a ha
  rw [hj] at h2
  exact of_decide_eq_true h2
/-- method, depth; before: bounds, arguments, heap (its arrays have their cells' numbers for names), facts; behind: alternatives -/
abbrev XC : Type := Nat × Nat × BD × List AVa × AHa × List FC × List XOUT
def xcOk (PT : PTy) (c : XC) : Prop := ∀ (NM : MT), mtL[c.1]? = some NM → ∀ (ρ : Nat → Int) (α : Nat → Int → Int) (av : List Value) (hp : AH), okB c.2.2.1 ρ → rS c.2.2.1 ρ c.2.2.2.1 av → rH c.2.2.1 ρ c.2.2.2.2.1 hp → rAr (List.range c.2.2.2.2.1.length) α hp → (∀ f ∈ c.2.2.2.2.2.1, hF PT ρ α f) →
  Ct NM c.2.1 0 0 av hp (fun v hp' => ∃ o ∈ c.2.2.2.2.2.2, ∃ ρ' α', okB o.1 ρ' ∧ ext c.2.2.1 ρ o.1 ρ' ∧ aext c.2.2.2.2.1.length α o.2.2.2.2.1 α' ∧ rO o.1 ρ' o.2.1 v ∧ rH o.1 ρ' o.2.2.1 hp' ∧ rAr o.2.2.2.1 α' hp' ∧ (∀ f ∈ o.2.2.2.2.2, hF PT ρ' α' f))
/-- what must be right in a contract's own text -/
def wfX (c : XC) : Bool := wfF c.2.2.1.length c.2.2.2.2.1.length c.2.2.2.2.2.1 && c.2.2.2.2.2.2.all (fun o => decide (o.2.2.1.length = c.2.2.2.2.1.length) && (decide (o.2.2.2.1.length = c.2.2.2.2.1.length) && (o.2.2.2.1.all (fun s => decide (s < o.2.2.2.2.1)) && (decide (c.2.2.2.2.1.length ≤ o.2.2.2.2.1) && (decide (c.2.2.1.length ≤ o.1.length) && wfF o.1.length o.2.2.2.2.1 o.2.2.2.2.2)))))
def thC (n : Nat) (an : List Nat) (na : Nat) : Nat → Nat := fun s => if s < n then an.getD s 0 else na + (s - n)
def oraX (L : List XC) : XORA := fun d N B as ha an na => match L.find? (fun c => c.1 == N && (decide (c.2.1 ≤ d) && inTa c.2.2.1 c.2.2.2.1 c.2.2.2.2.1 (sgA c.2.2.2.1 as c.2.2.2.2.1 ha) B as ha)) with
  | some c => some (c.2.2.2.2.2.1.map (sbF (sgA c.2.2.2.1 as c.2.2.2.2.1 ha) (fun s => an.getD s 0)), c.2.2.2.2.2.2.map (fun o => (nrw (sgA c.2.2.2.1 as c.2.2.2.2.1 ha) 0 c.2.2.1 o.1 B ++ o.1.drop c.2.2.1.length, o.2.1.map (sbV (tauC c.2.2.1.length (sgA c.2.2.2.1 as c.2.2.2.2.1 ha) B.length)), o.2.2.1.map (sbC (tauC c.2.2.1.length (sgA c.2.2.2.1 as c.2.2.2.2.1 ha) B.length)), o.2.2.2.1.map (thC c.2.2.2.2.1.length an na), na + (o.2.2.2.2.1 - c.2.2.2.2.1.length), o.2.2.2.2.2.map (sbF (tauC c.2.2.1.length (sgA c.2.2.2.1 as c.2.2.2.2.1 ha) B.length) (thC c.2.2.2.2.1.length an na)))))
  | none => none
/-- what the first contract of a method wants of its arguments -/
def ndZ (B : BD) : List AVa → List AVa → List (AN × Int × Int)
  | .inl (some j, _) :: ts, .inl n :: as => (match B[j]? with
    | some b => [(n, b.1, b.2)]
    | none => []) ++ ndZ B ts as
  | _ :: ts, _ :: as => ndZ B ts as
  | _, _ => []
def ndL (L : List XC) : XND := fun N as => match L.find? (fun c => c.1 == N) with
  | some c => ndZ c.2.2.1 c.2.2.2.1 as
  | none => []
set_option maxHeartbeats 2000000 in
theorem oraX_ok {PT : PTy} {L : List XC} (hL : ∀ c ∈ L, wfX c = true ∧ xcOk PT c) : xoOk PT (oraX L) := by
  intro d N NM B as ha an na gs L2 h hN ρ α av hp hB hS hH hA hAn hgs
  unfold oraX at h
  split at h
  · rename_i c hf
    have hm := List.mem_of_find?_eq_some hf
    have hfs := List.find?_some hf
    simp only [Bool.and_eq_true, beq_iff_eq, decide_eq_true_eq] at hfs
    obtain ⟨hcN, hd, hin⟩ := hfs
    cases h
    generalize hσ : sgA c.2.2.2.1 as c.2.2.2.2.1 ha = σ at hin hgs ⊢
    unfold inTa at hin
    rw [Bool.and_eq_true, Bool.and_eq_true] at hin
    obtain ⟨i1, i2, i3⟩ := hin
    obtain ⟨hwf, hxc⟩ := hL c hm
    unfold wfX at hwf
    rw [Bool.and_eq_true] at hwf
    have wf0 := wfF_ok (B := c.2.2.1) hwf.1
    have hlen : c.2.2.2.2.1.length = hp.length := (zipB_len i3).trans hH.1
    have hsb0 : sbOk c.2.2.1 (ρt σ ρ) B ρ σ := fun j hj => by
      have h7 := List.all_eq_true.mp i1 j (List.mem_range.mpr hj)
      rw [Bool.and_eq_true] at h7
      exact ⟨okNB_ok h7.1, rfl⟩
    have C := hxc NM (by rw [hcN]; exact hN) (ρt σ ρ) (fun s => α (an.getD s 0)) av hp (bOk_ok hB i1) (zip_rS hB i2 hS) (hOk_ok hB i3 hH) (fun k ty xs hk i hi => by
        have hk2 : k < hp.length := (List.getElem?_eq_some_iff.mp hk).1
        have e : (List.range c.2.2.2.2.1.length).getD k 0 = k := by rw [List.getD_eq_getElem?_getD, List.getElem?_range (by omega)]; rfl
        rw [e]
        exact hA k ty xs hk i hi) (fun f hf => by
        have h1 := hgs (sbF σ (fun s => an.getD s 0) f) (List.mem_map.mpr ⟨f, hf, rfl⟩)
        rw [sbF_eq (α1 := fun s => α (an.getD s 0)) hsb0 (wf0 f hf).1 (fun s _ => rfl)] at h1
        exact h1)
    refine Ct_weak (Ct_deep C hd) (fun v hp' hq => ?_)
    obtain ⟨o, ho, r', a', g1, g2, ga, g3, g4, g5, g6⟩ := hq
    have hwo := List.all_eq_true.mp hwf.2 o ho
    simp only [Bool.and_eq_true, decide_eq_true_eq] at hwo
    obtain ⟨w1, w2, w3, w4, w5, w6⟩ := hwo
    have wf1 := wfF_ok (B := o.1) w6
    obtain ⟨n1, n2⟩ := nrw_ok (σ := σ) (ρ := ρ) (Bt := c.2.2.1) (Bp := o.1) (B := B) (j := 0) hB (fun i q hi hq => by
      have := g1 i q hq
      rw [g2.2 i hi] at this
      rw [Nat.zero_add]
      exact this)
    have hth : ∀ s, s < o.2.2.2.2.1 → (fun s => if s < na then α s else a' (c.2.2.2.2.1.length + (s - na))) (thC c.2.2.2.2.1.length an na s) = a' s := fun s hs => by
      unfold thC
      by_cases hl : s < c.2.2.2.2.1.length
      · rw [if_pos hl]
        have hlt := an_lt hAn (k := s) (by omega)
        simp only [if_pos hlt]
        rw [ga.2 s hl]
      · rw [if_neg hl]
        have hnl : ¬ na + (s - c.2.2.2.2.1.length) < na := by omega
        simp only [if_neg hnl]
        congr 1
        omega
    have hanl : ∀ s ∈ o.2.2.2.1, s < o.2.2.2.2.1 := fun s hs => of_decide_eq_true (List.all_eq_true.mp w3 s hs)
    have hl' : hp'.length = c.2.2.2.2.1.length := by rw [← g4.1, w1]
    have hsb : sbOk o.1 r' (nrw σ 0 c.2.2.1 o.1 B ++ o.1.drop c.2.2.1.length) (fun k => if k < B.length then ρ k else r' (c.2.2.1.length + (k - B.length))) (tauC c.2.2.1.length σ B.length) := by
      intro j hj
      unfold tauC
      by_cases hl : j < c.2.2.1.length
      · rw [if_pos hl]
        have h7 := List.all_eq_true.mp i1 j (List.mem_range.mpr hl)
        rw [Bool.and_eq_true] at h7
        have hok := okNB_ok h7.1
        refine ⟨fun k hk => by have := hok k hk; rw [List.length_append, n2]; omega, ?_⟩
        rw [g2.2 j hl]
        show _ = den ρ (σ j)
        unfold den
        cases e : (σ j).1 with
        | none => rfl
        | some k => simp only; rw [if_pos (hok k e)]
      · rw [if_neg hl]
        refine ⟨fun k hk => by cases hk; rw [List.length_append, n2, List.length_drop]; omega, ?_⟩
        show (if B.length + (j - c.2.2.1.length) < B.length then _ else _) + 0 = r' j
        rw [if_neg (by omega), Int.add_zero]
        congr 1
        omega
    have thlt : ∀ s, s < o.2.2.2.2.1 → thC c.2.2.2.2.1.length an na s < na + (o.2.2.2.2.1 - c.2.2.2.2.1.length) := fun s hs => by
      unfold thC
      by_cases hl : s < c.2.2.2.2.1.length
      · rw [if_pos hl]
        have := an_lt hAn (k := s) (by omega)
        omega
      · rw [if_neg hl]
        omega
    refine ⟨_, List.mem_map_of_mem ho, fun k => if k < B.length then ρ k else r' (c.2.2.1.length + (k - B.length)), fun s => if s < na then α s else a' (c.2.2.2.2.1.length + (s - na)), ?_, ⟨by show _ ≤ (_ ++ _ : BD).length; rw [List.length_append, n2]; omega, fun j hj => if_pos hj⟩, ⟨by show na ≤ na + _; omega, fun s hs => if_pos hs⟩, ?_, sbH_ok hsb g4, ?_, ?_, ?_⟩
    · intro k b hk
      simp only at hk
      by_cases hl : k < B.length
      · rw [List.getElem?_append_left (by rw [n2]; exact hl)] at hk
        simp only [if_pos hl]
        exact n1 k b hk
      · rw [List.getElem?_append_right (by rw [n2]; omega), n2, List.getElem?_drop] at hk
        simp only [if_neg hl]
        exact g1 _ b hk
    · generalize o.2.1 = ra at g3
      match ra, v, g3 with
      | none, none, _ => exact trivial
      | some q, some w, g3 => exact sbV_ok hsb g3
    · intro k ty xs hk i hi
      have hk2 : k < hp'.length := (List.getElem?_eq_some_iff.mp hk).1
      have hk3 : k < o.2.2.2.1.length := by omega
      have e : (o.2.2.2.1.map (thC c.2.2.2.2.1.length an na)).getD k 0 = thC c.2.2.2.2.1.length an na (o.2.2.2.1.getD k 0) := by
        rw [List.getD_eq_getElem?_getD, List.getD_eq_getElem?_getD, List.getElem?_map, List.getElem?_eq_getElem hk3]; rfl
      have hmem : o.2.2.2.1.getD k 0 ∈ o.2.2.2.1 := by
        rw [List.getD_eq_getElem?_getD, List.getElem?_eq_getElem hk3]; exact List.getElem_mem hk3
      show _ = (fun s => if s < na then α s else a' (c.2.2.2.2.1.length + (s - na))) ((o.2.2.2.1.map (thC c.2.2.2.2.1.length an na)).getD k 0) _
      rw [e, hth _ (hanl _ hmem)]
      exact g5 k ty xs hk i hi
    · refine ⟨by show (o.2.2.2.1.map _).length = _; rw [List.length_map]; omega, fun s hs => ?_⟩
      obtain ⟨t, ht, rfl⟩ := List.mem_map.mp hs
      exact thlt t (hanl t ht)
    · intro f hf
      obtain ⟨f0, hf0, rfl⟩ := List.mem_map.mp hf
      refine ⟨fun a ha => ?_, fun s hs => ?_, ?_⟩
      · obtain ⟨a0, ha0, rfl⟩ := List.mem_map.mp ha
        exact (sbN_den hsb ((wf1 f0 hf0).1 a0 ha0)).2
      · obtain ⟨s0, hs0, rfl⟩ := List.mem_map.mp hs
        exact thlt s0 ((wf1 f0 hf0).2 s0 hs0)
      · rw [sbF_eq (α1 := a') hsb (wf1 f0 hf0).1 (fun s hs => hth s ((wf1 f0 hf0).2 s hs))]
        exact g6 f0 hf0
  · cases h
/-! ===== heads, and a contract out of a method's evaluation ===== -/
abbrev XH : Type := Nat × BD × List (Option AVa) × AHa × List Nat × Nat × List FC × List (Bool × AN)
def thH (pa : Nat) (ant an : List Nat) : Nat → Nat := fun s => if s < pa then s else ((ant.zip an).lookup s).getD 0
def anOk (θ : Nat → Nat) (ant an : List Nat) : Bool := zipB (fun t a => decide (θ t = a)) ant an
def fstS {γ : Type} (f : γ → Option (List VC)) : List γ → Option (List VC)
  | [] => none
  | q :: l => match f q with
    | some L => some L
    | none => fstS f l
theorem fstS_some {γ : Type} {f : γ → Option (List VC)} : ∀ {l : List γ} {L : List VC}, fstS f l = some L → ∃ q ∈ l, f q = some L
  | [], _, h => by cases h
  | q :: l, L, h => by
    unfold fstS at h
    split at h
    · rename_i L1 h1
      cases h
      exact ⟨q, List.mem_cons_self, h1⟩
    · obtain ⟨p, h1, h2⟩ := fstS_some h
      exact ⟨p, List.mem_cons_of_mem _ h1, h2⟩
def lexO (ms : Option (List (Bool × AN))) (B : BD) (l : List (Bool × AN)) : Bool := match ms with
  | none => true
  | some m => lexB B m l
/-- bounds that a template wants of the names that stand for its own -/
def ndH (B : BD) (σ : Nat → AN) (Bt : BD) : List (AN × Int × Int) := (List.range Bt.length).filterMap (fun j => match Bt[j]? with
  | some b => if okNB B (σ j) = true then some (σ j, b.1, b.2) else none
  | none => none)
theorem ndH_ok {B : BD} {σ : Nat → AN} {Bt : BD} : ∀ q ∈ ndH B σ Bt, okN B q.1 := by
  intro q hq
  obtain ⟨j, -, h⟩ := List.mem_filterMap.mp hq
  split at h
  · split at h
    · rename_i hk
      cases h
      exact okNB_ok hk
    · cases h
  · cases h
def xh1 (p pa : Nat) (ms : Option (List (Bool × AN))) (B : BD) (la : List (Option AVa)) (ha : AHa) (an : List Nat) (na : Nat) (F : List FC) (q : XH) : Option (List VC) :=
  if (inT q.2.1 q.2.2.1 q.2.2.2.1 (sgp p (sgm q.2.2.1 la q.2.2.2.1 ha)) (narA B (ndH B (sgp p (sgm q.2.2.1 la q.2.2.2.1 ha)) q.2.1)) la ha && (anOk (thH pa q.2.2.2.2.1 an) q.2.2.2.2.1 an && lexO ms (narA B (ndH B (sgp p (sgm q.2.2.1 la q.2.2.2.1 ha)) q.2.1)) (q.2.2.2.2.2.2.2.map (subM (sgp p (sgm q.2.2.1 la q.2.2.2.1 ha)))))) = true then some (gls B F (ndG B (ndH B (sgp p (sgm q.2.2.1 la q.2.2.2.1 ha)) q.2.1) ++ q.2.2.2.2.2.2.1.map (sbF (sgp p (sgm q.2.2.1 la q.2.2.2.1 ha)) (thH pa q.2.2.2.2.1 an)))) else none
def xcutH (H : List XH) (p pa : Nat) (ms : Option (List (Bool × AN))) : XCUT := fun pc => if H.any (fun q => q.1 == pc) = true then some (fun B la ha an na F => fstS (xh1 p pa ms B la ha an na F) (H.filter (fun q => q.1 == pc))) else none
/-- what must be right in a head's own text -/
def wfH (p pa n : Nat) (q : XH) : Bool := decide (p ≤ q.2.1.length) && (decide (pa ≤ q.2.2.2.2.2.1) && (q.2.2.2.2.2.2.2.all (wgtB q.2.1) && (wfF q.2.1.length q.2.2.2.2.2.1 q.2.2.2.2.2.2.1 && (decide (q.2.2.2.2.1.length = n) && (decide (q.2.2.2.1.length = n) && q.2.2.2.2.1.all (fun s => decide (s < q.2.2.2.2.2.1)))))))
theorem anOk_rA {θ : Nat → Nat} {ant an : List Nat} (h : anOk θ ant an = true) {α : Nat → Int → Int} {hp : AH} (hA : rAr an α hp) (hl : an.length = hp.length) : rAr ant (fun s => α (θ s)) hp := by
  intro k ty xs hk i hi
  have hk2 : k < hp.length := (List.getElem?_eq_some_iff.mp hk).1
  have hk3 : k < ant.length := by have := zipB_len h; omega
  obtain ⟨a, h1, h2⟩ := zipB_at k h (List.getElem?_eq_getElem hk3)
  have h2 := of_decide_eq_true h2
  have e1 : ant.getD k 0 = ant[k] := by rw [List.getD_eq_getElem?_getD, List.getElem?_eq_getElem hk3]; rfl
  have e2 : an.getD k 0 = a := by rw [List.getD_eq_getElem?_getD, h1]; rfl
  show _ = α (θ (ant.getD k 0)) _
  rw [e1, h2, ← e2]
  exact hA k ty xs hk i hi
theorem sbσ {B Bt : BD} {ρ : Nat → Int} {σ : Nat → AN} (h : bOk B σ Bt = true) : sbOk Bt (ρt σ ρ) B ρ σ := fun j hj => by
  have h7 := List.all_eq_true.mp h j (List.mem_range.mpr hj)
  rw [Bool.and_eq_true] at h7
  exact ⟨okNB_ok h7.1, rfl⟩
section LPX
variable {PT : PTy} {R : XND} {O : XORA} {k d f p pa n0 : Nat} {M : MT}
/-- facts of before that hold throughout -/
def okPre (PT : PTy) (p pa : Nat) (P : List FC) (r : Nat → Int) (ra : Nat → Int → Int) : Prop := ∀ f ∈ P, hF PT r ra f
theorem pre_at {P : List FC} {r ρ : Nat → Int} {ra α : Nat → Int → Int} {B : BD} {na : Nat} (hP : okPre PT p pa P r ra) (hw : wfF p pa P = true) (hr : ∀ j, j < p → ρ j = r j) (ha : ∀ s, s < pa → α s = ra s) (hp : p ≤ B.length) (hpa : pa ≤ na) : okF PT B na ρ α P := by
  intro f hf
  have h1 := List.all_eq_true.mp hw f hf
  rw [Bool.and_eq_true] at h1
  have hn : ∀ a ∈ f.2.1, ∀ j, a.1 = some j → j < p := fun a ha j hj => by
    have h2 := List.all_eq_true.mp h1.1 a ha
    rw [hj] at h2
    exact of_decide_eq_true h2
  have hs : ∀ s ∈ f.2.2, s < pa := fun s hs => of_decide_eq_true (List.all_eq_true.mp h1.2 s hs)
  refine ⟨fun a ha j hj => Nat.lt_of_lt_of_le (hn a ha j hj) hp, fun s q => Nat.lt_of_lt_of_le (hs s q) hpa, ?_⟩
  have e1 : f.2.1.map (den ρ) = f.2.1.map (den r) := List.map_congr_left (fun a ha => by
    unfold den
    cases hj : a.1 with
    | none => rfl
    | some j => simp only; rw [hr j (hn a ha j hj)])
  have e2 : f.2.2.map α = f.2.2.map ra := List.map_congr_left (fun s q => ha s (hs s q))
  have h3 := hP f hf
  unfold hF at h3 ⊢
  rw [e1, e2]
  exact h3
theorem xh_ok {B : BD} {la : List (Option AVa)} {ha : AHa} {an : List Nat} {na : Nat} {F : List FC} {q : XH} {L : List VC} {ms : Option (List (Bool × AN))} (h : xh1 p pa ms B la ha an na F q = some L) (hw : wfH p pa n0 q = true) (hV : ∀ v ∈ L, vcOk PT v) {ρ : Nat → Int} {α : Nat → Int → Int} {lv : List (Option Value)} {hp : AH} (hB : okB B ρ) (hL : rL B ρ la lv) (hH : rH B ρ ha hp) (hE : EN PT B ρ na α an hp F) :
    ∃ (σ : Nat → AN) (θ : Nat → Nat), okB q.2.1 (ρt σ ρ) ∧ rL q.2.1 (ρt σ ρ) q.2.2.1 lv ∧ rH q.2.1 (ρt σ ρ) q.2.2.2.1 hp ∧ rAr q.2.2.2.2.1 (fun s => α (θ s)) hp ∧ (∀ j, j < p → σ j = (some j, 0)) ∧ (∀ s, s < pa → θ s = s) ∧ (∀ f ∈ q.2.2.2.2.2.2.1, hF PT (ρt σ ρ) (fun s => α (θ s)) f) ∧ (∀ m, ms = some m → ∃ B', okB B' ρ ∧ lexB B' m (q.2.2.2.2.2.2.2.map (subM σ)) = true) := by
  unfold xh1 at h
  split at h
  · rename_i hc
    cases h
    rw [Bool.and_eq_true, Bool.and_eq_true] at hc
    obtain ⟨c1, c2, c3⟩ := hc
    unfold wfH at hw
    simp only [Bool.and_eq_true, decide_eq_true_eq] at hw
    obtain ⟨w1, w2, w3, w4, w5, w6, w7⟩ := hw
    have hg := gls_ok hV hB hE.2.2
    obtain ⟨hBn, hln⟩ := narA_ok (PT := PT) (α := α) hB _ B hB ndH_ok (fun g hg1 => hg g (List.mem_append_left _ hg1))
    have en : ext B ρ (narA B (ndH B (sgp p (sgm q.2.2.1 la q.2.2.2.1 ha)) q.2.1)) ρ := ⟨by rw [hln]; exact Nat.le_refl _, fun _ _ => rfl⟩
    obtain ⟨o1, o2, o3⟩ := inT_ok hBn (rL_ext en hL) (rH_ext en hH) c1
    have hbo : bOk (narA B (ndH B (sgp p (sgm q.2.2.1 la q.2.2.2.1 ha)) q.2.1)) (sgp p (sgm q.2.2.1 la q.2.2.2.1 ha)) q.2.1 = true := by
      unfold inT at c1
      rw [Bool.and_eq_true, Bool.and_eq_true] at c1
      exact c1.2.1
    have wf := wfF_ok (B := q.2.1) w4
    refine ⟨sgp p (sgm q.2.2.1 la q.2.2.2.1 ha), thH pa q.2.2.2.2.1 an, o1, o2, o3, anOk_rA c2 hE.1 hE.2.1.1, fun j hj => ?_, fun s hs => ?_, fun f hf => ?_, fun m hm => ?_⟩
    · unfold sgp; rw [if_pos hj]
    · unfold thH; rw [if_pos hs]
    · have h1 := hg _ (List.mem_append_right _ (List.mem_map.mpr ⟨f, hf, rfl⟩))
      rw [sbF_eq (α1 := fun s => α (thH pa q.2.2.2.2.1 an s)) (sbσ hbo) (wf f hf).1 (fun s _ => rfl)] at h1
      exact h1
    · subst hm
      exact ⟨_, hBn, c3⟩
  · cases h
theorem loopsX (hO : xoOk PT O) (hM : mtL[k]? = some M) (H : List XH) (K : XK) (P : List FC) (hwP : wfF p pa P = true) (r : Nat → Int) (ra : Nat → Int → Int) (hP : okPre PT p pa P r ra) (Q : Option Value → AH → Prop) (hw : ∀ q ∈ H, wfH p pa n0 q = true)
    (hai : ∀ q ∈ H, ∃ L, ax R O f true (xcutH H p pa (some q.2.2.2.2.2.2.2)) d k q.1 q.2.1 q.2.2.1 [] q.2.2.2.1 q.2.2.2.2.1 q.2.2.2.2.2.1 (q.2.2.2.2.2.2.1 ++ P) K = some L ∧ ∀ v ∈ L, vcOk PT v) (hQ : ∀ q ∈ H, ∀ (ρ : Nat → Int) (α : Nat → Int → Int), (∀ j, j < p → ρ j = r j) → (∀ s, s < pa → α s = ra s) → axEnd PT K q.2.1 ρ q.2.2.2.2.2.1 α Q) :
    ∀ (n : Nat) (q : XH), q ∈ H → ∀ (ρ : Nat → Int) (α : Nat → Int → Int) (lv : List (Option Value)) (hp : AH), mu ρ q.2.2.2.2.2.2.2 < n → okB q.2.1 ρ → (∀ j, j < p → ρ j = r j) → (∀ s, s < pa → α s = ra s) → rL q.2.1 ρ q.2.2.1 lv → rH q.2.1 ρ q.2.2.2.1 hp → rAr q.2.2.2.2.1 α hp → (∀ f ∈ q.2.2.2.2.2.2.1, hF PT ρ α f) → J M d 0 0 Q q.1 lv [] hp 0 0 := by
  intro n
  induction n with
  | zero =>
    intro q hq ρ α lv hp hn hB
    have h1 := hw q hq
    unfold wfH at h1
    simp only [Bool.and_eq_true] at h1
    have := mu_lt hB h1.2.2.1
    exact absurd hn (by omega)
  | succ n ih =>
    intro q hq ρ α lv hp hn hB hr hra hL hH hA hI
    have h1 := hw q hq
    unfold wfH at h1
    simp only [Bool.and_eq_true, decide_eq_true_eq] at h1
    obtain ⟨w1, w2, w3, w4, w5, w6, w7⟩ := h1
    have wf := wfF_ok (B := q.2.1) w4
    obtain ⟨L, hax, hV⟩ := hai q hq
    have hE : EN PT q.2.1 ρ q.2.2.2.2.2.1 α q.2.2.2.2.1 hp (q.2.2.2.2.2.2.1 ++ P) := ⟨hA, ⟨by rw [w5, ← w6]; exact hH.1, fun s hs => of_decide_eq_true (List.all_eq_true.mp w7 s hs)⟩, fun f hf => by
      rcases List.mem_append.mp hf with z | z
      · exact ⟨(wf f z).1, (wf f z).2, hI f z⟩
      · exact pre_at hP hwP hr hra w1 w2 f z⟩
    refine ax_ok hO f true _ d k q.1 q.2.1 q.2.2.1 [] q.2.2.2.1 _ _ _ K L hax hV M hM ρ α lv [] hp Q hB hL trivial hH hE (hQ q hq ρ α hr hra) ?_
    intro pc chk hc B' ρ' la' lv' ha' hp' an' na' α' F' L' h1 hV' hB' he hea hL' hH' hE'
    unfold xcutH at hc
    split at hc
    · cases hc
      obtain ⟨q', hm, h1⟩ := fstS_some h1
      obtain ⟨hm, hpc⟩ := List.mem_filter.mp hm
      have hpc : q'.1 = pc := by simpa using hpc
      obtain ⟨σ, θ, o1, o2, o3, o4, o5, o6, o7, o8⟩ := xh_ok h1 (hw q' hm) hV' hB' hL' hH' hE'
      rw [← hpc]
      refine ih q' hm _ _ lv' hp' ?_ o1 (fun j hj => ?_) (fun s hs => ?_) o2 o3 o4 o7
      · obtain ⟨B9, o9, o8⟩ := o8 _ rfl
        have h5 := lexB_ok o9 o8
        rw [subM_mu, mu_ext he w3] at h5
        omega
      · unfold ρt
        rw [o5 j hj]
        show ρ' j + 0 = r j
        rw [Int.add_zero, he.2 j (Nat.lt_of_lt_of_le hj w1), hr j hj]
      · show α' (θ s) = ra s
        rw [o6 s hs, hea.2 s (Nat.lt_of_lt_of_le hs w2), hra s hs]
    · cases hc
end LPX
theorem rO_ext {B B' : BD} {ρ ρ' : Nat → Int} (e : ext B ρ B' ρ') {a : Option AVa} {v : Option Value} (h : rO B ρ a v) : rO B' ρ' a v := by
  match a, v, h with
  | none, none, _ => exact trivial
  | some a, some v, h => exact rV_ext e h
def xk1 (p pa : Nat) (B : BD) (a : Option AVa) (ha : AHa) (an : List Nat) (na : Nat) (F : List FC) (o : XOUT) : Option (List VC) :=
  if (bOk (narA B (ndH B (sgO p (o.1, o.2.1, o.2.2.1) a ha) o.1)) (sgO p (o.1, o.2.1, o.2.2.1) a ha) o.1 && (vOkO (narA B (ndH B (sgO p (o.1, o.2.1, o.2.2.1) a ha) o.1)) (sgO p (o.1, o.2.1, o.2.2.1) a ha) o.1.length o.2.1 a && (zipB (cOkA (narA B (ndH B (sgO p (o.1, o.2.1, o.2.2.1) a ha) o.1)) (sgO p (o.1, o.2.1, o.2.2.1) a ha) o.1.length) o.2.2.1 ha && anOk (thH pa o.2.2.2.1 an) o.2.2.2.1 an))) = true then some (gls B F (ndG B (ndH B (sgO p (o.1, o.2.1, o.2.2.1) a ha) o.1) ++ o.2.2.2.2.2.map (sbF (sgO p (o.1, o.2.1, o.2.2.1) a ha) (thH pa o.2.2.2.1 an)))) else none
def kX (c : XC) : XK := fun B a ha an na F => fstS (xk1 c.2.2.1.length c.2.2.2.2.1.length B a ha an na F) c.2.2.2.2.2.2
def qX (PT : PTy) (c : XC) (r : Nat → Int) (ra : Nat → Int → Int) : Option Value → AH → Prop := fun v hp' => ∃ o ∈ c.2.2.2.2.2.2, ∃ ρ' α', okB o.1 ρ' ∧ ext c.2.2.1 r o.1 ρ' ∧ aext c.2.2.2.2.1.length ra o.2.2.2.2.1 α' ∧ rO o.1 ρ' o.2.1 v ∧ rH o.1 ρ' o.2.2.1 hp' ∧ rAr o.2.2.2.1 α' hp' ∧ (∀ f ∈ o.2.2.2.2.2, hF PT ρ' α' f)
theorem kX_end {PT : PTy} (c : XC) (hwf : wfX c = true) {Bt : BD} {ρ r : Nat → Int} {na : Nat} {α ra : Nat → Int → Int} (hl : c.2.2.1.length ≤ Bt.length) (hla : c.2.2.2.2.1.length ≤ na) (hr : ∀ j, j < c.2.2.1.length → ρ j = r j) (hra : ∀ s, s < c.2.2.2.2.1.length → α s = ra s) : axEnd PT (kX c) Bt ρ na α (qX PT c r ra) := by
  intro B' ρ' a v ha' hp' an' na' α' F' L' h hV hB' he hea hO hH hE
  unfold kX at h
  obtain ⟨o, ho, h⟩ := fstS_some h
  unfold xk1 at h
  split at h
  · rename_i hc
    cases h
    rw [Bool.and_eq_true, Bool.and_eq_true, Bool.and_eq_true] at hc
    obtain ⟨h1, h2, h3, h4⟩ := hc
    unfold wfX at hwf
    rw [Bool.and_eq_true] at hwf
    have hwo := List.all_eq_true.mp hwf.2 o ho
    simp only [Bool.and_eq_true, decide_eq_true_eq] at hwo
    obtain ⟨w1, w2, w3, w4, w5, w6⟩ := hwo
    have wf := wfF_ok (B := o.1) w6
    have hg := gls_ok hV hB' hE.2.2
    obtain ⟨hBn, hln⟩ := narA_ok (PT := PT) (α := α') hB' _ B' hB' ndH_ok (fun g hg1 => hg g (List.mem_append_left _ hg1))
    have en : ext B' ρ' (narA B' (ndH B' (sgO c.2.2.1.length (o.1, o.2.1, o.2.2.1) a ha') o.1)) ρ' := ⟨by rw [hln]; exact Nat.le_refl _, fun _ _ => rfl⟩
    have hO := rO_ext en hO
    have hH := rH_ext en hH
    refine ⟨o, ho, ρt (sgO c.2.2.1.length (o.1, o.2.1, o.2.2.1) a ha') ρ', fun s => α' (thH c.2.2.2.2.1.length o.2.2.2.1 an' s), bOk_ok hBn h1, ⟨w5, fun j hj => ?_⟩, ⟨w4, fun s hs => ?_⟩, ?_, hOk_ok hBn h3 hH, anOk_rA h4 hE.1 hE.2.1.1, fun f hf => ?_⟩
    · unfold ρt sgO sgp
      rw [if_pos hj]
      show ρ' j + 0 = r j
      rw [Int.add_zero, he.2 j (by omega), hr j hj]
    · show α' (thH c.2.2.2.2.1.length o.2.2.2.1 an' s) = ra s
      unfold thH
      rw [if_pos hs, hea.2 s (by omega), hra s hs]
    · unfold vOkO at h2
      generalize narA B' (ndH B' (sgO c.2.2.1.length (o.1, o.2.1, o.2.2.1) a ha') o.1) = Bn at h2 hBn hO
      generalize sgO c.2.2.1.length (o.1, o.2.1, o.2.2.1) a ha' = σ at h2 ⊢
      generalize o.2.1 = t at h2 ⊢
      match t, a, v, hO, h2 with
      | none, none, none, _, _ => exact trivial
      | some t, some a', some w, hO, h2 => exact vOk_ok hBn h2 hO
    · have h5 := hg _ (List.mem_append_right _ (List.mem_map.mpr ⟨f, hf, rfl⟩))
      rw [sbF_eq (α1 := fun s => α' (thH c.2.2.2.2.1.length o.2.2.2.1 an' s)) (sbσ h1) (wf f hf).1 (fun s _ => rfl)] at h5
      exact h5
  · cases h
def hdX (R : XND) (O : XORA) (f : Nat) (c : XC) (H : List XH) (q : XH) : Option (List VC) := ax R O f true (xcutH H c.2.2.1.length c.2.2.2.2.1.length (some q.2.2.2.2.2.2.2)) c.2.1 c.1 q.1 q.2.1 q.2.2.1 [] q.2.2.2.1 q.2.2.2.2.1 q.2.2.2.2.2.1 (q.2.2.2.2.2.2.1 ++ c.2.2.2.2.2.1) (kX c)
def enX (R : XND) (O : XORA) (f : Nat) (c : XC) (H : List XH) (ml : Nat) : Option (List VC) := ax R O f true (xcutH H c.2.2.1.length c.2.2.2.2.1.length none) c.2.1 c.1 0 c.2.2.1 (entA c.2.2.2.1 ml) [] c.2.2.2.2.1 (List.range c.2.2.2.2.1.length) c.2.2.2.2.1.length c.2.2.2.2.2.1 (kX c)
def vcs (PT : PTy) (o : Option (List VC)) : Prop := ∃ L, o = some L ∧ ∀ v ∈ L, vcOk PT v
theorem xctr {PT : PTy} {L : List XC} (hL : ∀ c ∈ L, wfX c = true ∧ xcOk PT c) (c : XC) (f : Nat) (M : MT) (hM : mtL[c.1]? = some M) (H : List XH) (hwf : wfX c = true) (hw : H.all (wfH c.2.2.1.length c.2.2.2.2.1.length c.2.2.2.2.1.length) = true) (hsum : (c.2.2.2.1.map catA).sum ≤ M.ml) (hent : vcs PT (enX (ndL L) (oraX L) f c H M.ml)) (hai : ∀ q ∈ H, vcs PT (hdX (ndL L) (oraX L) f c H q)) : wfX c = true ∧ xcOk PT c := by
  refine ⟨hwf, ?_⟩
  intro NM hN ρ α av hp hB hS hH hA hP
  rw [hM] at hN
  cases hN
  have hwP : wfF c.2.2.1.length c.2.2.2.2.1.length c.2.2.2.2.2.1 = true := by
    unfold wfX at hwf
    rw [Bool.and_eq_true] at hwf
    exact hwf.1
  have hw' : ∀ q ∈ H, wfH c.2.2.1.length c.2.2.2.2.1.length c.2.2.2.2.1.length q = true := fun q hq => List.all_eq_true.mp hw q hq
  have hQ : ∀ q ∈ H, ∀ (ρ1 : Nat → Int) (α1 : Nat → Int → Int), (∀ j, j < c.2.2.1.length → ρ1 j = ρ j) → (∀ s, s < c.2.2.2.2.1.length → α1 s = α s) → axEnd PT (kX c) q.2.1 ρ1 q.2.2.2.2.2.1 α1 (qX PT c ρ α) := fun q hq ρ1 α1 h1 h2 => by
    have h3 := hw' q hq
    unfold wfH at h3
    simp only [Bool.and_eq_true, decide_eq_true_eq] at h3
    exact kX_end c hwf h3.1 h3.2.1 h1 h2
  have C : Ct M c.2.1 0 0 av hp (qX PT c ρ α) := by
    refine Ct_of_J (mt_ok hM).1 (fun ad => by rw [lg_len, cat_sum hS]; exact hsum) ?_
    obtain ⟨L0, hax, hV⟩ := hent
    have hE : EN PT c.2.2.1 ρ c.2.2.2.2.1.length α (List.range c.2.2.2.2.1.length) hp c.2.2.2.2.2.1 := ⟨hA, ⟨by rw [List.length_range]; exact hH.1, fun s hs => List.mem_range.mp hs⟩, pre_at hP hwP (fun _ _ => rfl) (fun _ _ => rfl) (Nat.le_refl _) (Nat.le_refl _)⟩
    refine ax_ok (oraX_ok hL) f true _ c.2.1 c.1 0 c.2.2.1 (entA c.2.2.2.1 M.ml) [] c.2.2.2.2.1 _ _ _ (kX c) L0 hax hV M hM ρ α _ [] hp _ hB (entA_ok hS _) trivial hH hE (kX_end c hwf (Nat.le_refl _) (Nat.le_refl _) (fun _ _ => rfl) (fun _ _ => rfl)) ?_
    intro pc chk hc B' ρ' la' lv' ha' hp' an' na' α' F' L' h1 hV' hB' he hea hL' hH' hE'
    unfold xcutH at hc
    split at hc
    · cases hc
      obtain ⟨q, hm, h1⟩ := fstS_some h1
      obtain ⟨hm, hpc⟩ := List.mem_filter.mp hm
      have hpc : q.1 = pc := by simpa using hpc
      obtain ⟨σ, θ, o1, o2, o3, o4, o5, o6, o7, -⟩ := xh_ok h1 (hw' q hm) hV' hB' hL' hH' hE'
      rw [← hpc]
      refine loopsX (oraX_ok hL) hM H (kX c) c.2.2.2.2.2.1 hwP ρ α hP _ hw' hai hQ ((mu (ρt σ ρ') q.2.2.2.2.2.2.2).toNat + 1) q hm _ _ lv' hp' ?_ o1 (fun j hj => ?_) (fun s hs => ?_) o2 o3 o4 o7
      · have h3 := hw' q hm
        unfold wfH at h3
        simp only [Bool.and_eq_true] at h3
        have := mu_lt o1 h3.2.2.1
        omega
      · unfold ρt
        rw [o5 j hj]
        show ρ' j + 0 = ρ j
        rw [Int.add_zero, he.2 j hj]
      · show α' (θ s) = α s
        rw [o6 s hs, hea.2 s hs]
    · cases hc
  exact Ct_weak C (fun v hp' hq => hq)
/-! how what is left is closed: a list of them, one by one -/
theorem vcs_of {PT : PTy} {o : Option (List VC)} (L : List VC) (h : o = some L) (hV : ∀ v ∈ L, vcOk PT v) : vcs PT o := ⟨L, h, hV⟩
theorem vn {PT : PTy} : ∀ v ∈ ([] : List VC), vcOk PT v := fun _ h => absurd h List.not_mem_nil
theorem vc {PT : PTy} {a : VC} {l : List VC} (h : vcOk PT a) (t : ∀ v ∈ l, vcOk PT v) : ∀ v ∈ a :: l, vcOk PT v := fun x hx => by
  rcases List.mem_cons.mp hx with rfl | q
  · exact h
  · exact t x q
theorem xl0 {PT : PTy} : ∀ c ∈ ([] : List XC), wfX c = true ∧ xcOk PT c := fun _ h => absurd h List.not_mem_nil
theorem xl {PT : PTy} {c : XC} {L : List XC} (hc : wfX c = true ∧ xcOk PT c) (h : ∀ x ∈ L, wfX x = true ∧ xcOk PT x) : ∀ x ∈ c :: L, wfX x = true ∧ xcOk PT x := fun x hx => by
  rcases List.mem_cons.mp hx with rfl | q
  · exact hc
  · exact h x q
