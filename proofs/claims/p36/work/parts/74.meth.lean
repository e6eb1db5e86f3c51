/-! ===== a method with loops, from its entry ===== -/
def hcut0 (H : List HD) (p : Nat) : CUT := fun pc => if H.any (fun q => q.1 == pc) = true then some (fun B la ha => H.any (fun q => q.1 == pc && (inT q.2.1 q.2.2.1 q.2.2.2.1 (sgp p (sgm q.2.2.1 la q.2.2.2.1 ha)) B la ha && rig p (sgp p (sgm q.2.2.1 la q.2.2.2.1 ha))))) else none
theorem meth {O : ORA} (hO : oraOk O) {k d f p : Nat} {M : MT} (hM : mtL[k]? = some M) (H : List HD) (K : KT) (r : Nat → Int) (Q : Option Value → AH → Prop) (hlen : ∀ q ∈ H, p ≤ q.2.1.length) (hmu : ∀ q ∈ H, q.2.2.2.2.all (wgtB q.2.1) = true)
    (hai : ∀ q ∈ H, ai O f true (hcut H p q) d k q.1 q.2.1 q.2.2.1 [] q.2.2.2.1 K = true) (hQ : ∀ q ∈ H, ∀ ρ : Nat → Int, (∀ j, j < p → ρ j = r j) → aiEnd K q.2.1 ρ Q)
    {B0 : BD} {as : List AVa} {ha : AHa} (hp0 : p ≤ B0.length) (hent : ai O f true (hcut0 H p) d k 0 B0 (entA as M.ml) [] ha K = true) (hsum : (as.map catA).sum ≤ M.ml)
    {ρ : Nat → Int} {av : List Value} {hp : AH} (hB : okB B0 ρ) (hr : ∀ j, j < p → ρ j = r j) (hS : rS B0 ρ as av) (hH : rH B0 ρ ha hp) (hQ0 : aiEnd K B0 ρ Q) : Ct M d 0 0 av hp Q := by
  refine Ct_of_J (mt_ok hM).1 (fun ad => by rw [lg_len, cat_sum hS]; exact hsum) ?_
  refine ai_ok hO f true (hcut0 H p) d k 0 B0 (entA as M.ml) [] ha K hent M hM ρ _ [] hp Q hB (entA_ok hS _) trivial hH hQ0 ?_
  intro pc chk hc B' ρ' la' lv' ha' hp' h1 hB' he hL' hH'
  unfold hcut0 at hc
  split at hc
  · cases hc
    obtain ⟨q, hm, h1⟩ := List.any_eq_true.mp h1
    simp only [Bool.and_eq_true, beq_iff_eq] at h1
    obtain ⟨hpc, i1, i2⟩ := h1
    obtain ⟨o1, o2, o3⟩ := inT_ok hB' hL' hH' i1
    rw [← hpc]
    refine loops hO hM H K r Q hlen hmu hai hQ ((mu (ρt (sgp p (sgm q.2.2.1 la' q.2.2.2.1 ha')) ρ') q.2.2.2.2).toNat + 1) q hm _ lv' hp' ?_ o1 (fun j hj => ?_) o2 o3
    · have := mu_lt o1 (hmu q hm)
      omega
    · have h6 := of_decide_eq_true (List.all_eq_true.mp i2 j (List.mem_range.mpr hj))
      unfold ρt
      rw [h6]
      show ρ' j + 0 = r j
      rw [Int.add_zero, he.2 j (Nat.lt_of_lt_of_le hj hp0), hr j hj]
  · cases hc
