/-! ===== the abstract evaluator speaks true ===== -/
def oraOk (O : ORA) : Prop := ∀ (d N : Nat) (NM : MT) (B : BD) (as : List AVa) (ha : AHa) (L : List (BD × Option AVa × AHa)), O d N B as ha = some L → mtL[N]? = some NM → ∀ (ρ : Nat → Int) (av : List Value) (hp : AH), okB B ρ → rS B ρ as av → rH B ρ ha hp → Ct NM d 0 0 av hp (fun v hp' => ∃ o ∈ L, ∃ ρ', okB o.1 ρ' ∧ ext B ρ o.1 ρ' ∧ rO o.1 ρ' o.2.1 v ∧ rH o.1 ρ' o.2.2 hp')
theorem noORA_ok : oraOk noORA := fun d N NM B as ha L h => by cases h
/-- what is known where the evaluator goes on: its end, and its cuts -/
def aiEnd (K : KT) (B : BD) (ρ : Nat → Int) (Q : Option Value → AH → Prop) : Prop := ∀ (B' : BD) (ρ' : Nat → Int) (a : Option AVa) (v : Option Value) (ha' : AHa) (hp' : AH), K B' a ha' = true → okB B' ρ' → ext B ρ B' ρ' → rO B' ρ' a v → rH B' ρ' ha' hp' → Q v hp'
def aiCut (cut : CUT) (M : MT) (d : Nat) (B : BD) (ρ : Nat → Int) (Q : Option Value → AH → Prop) : Prop := ∀ (pc : Nat) (chk : BD → List (Option AVa) → AHa → Bool), cut pc = some chk → ∀ (B' : BD) (ρ' : Nat → Int) (la' : List (Option AVa)) (lv' : List (Option Value)) (ha' : AHa) (hp' : AH), chk B' la' ha' = true → okB B' ρ' → ext B ρ B' ρ' → rL B' ρ' la' lv' → rH B' ρ' ha' hp' → J M d 0 0 Q pc lv' [] hp' 0 0
theorem aiEnd_ext {K : KT} {B B1 : BD} {ρ ρ1 : Nat → Int} {Q : Option Value → AH → Prop} (h : aiEnd K B ρ Q) (e : ext B ρ B1 ρ1) : aiEnd K B1 ρ1 Q := fun B' ρ' a v ha' hp' h1 h2 h3 h4 h5 => h B' ρ' a v ha' hp' h1 h2 (ext_tr e h3) h4 h5
theorem aiCut_ext {cut : CUT} {M : MT} {d : Nat} {B B1 : BD} {ρ ρ1 : Nat → Int} {Q : Option Value → AH → Prop} (h : aiCut cut M d B ρ Q) (e : ext B ρ B1 ρ1) : aiCut cut M d B1 ρ1 Q := fun pc chk hc B' ρ' la' lv' ha' hp' h1 h2 h3 h4 h5 => h pc chk hc B' ρ' la' lv' ha' hp' h1 h2 (ext_tr e h3) h4 h5
set_option maxHeartbeats 4000000 in
theorem ai_ok {O : ORA} (hO : oraOk O) : ∀ (f : Nat) (go : Bool) (cut : CUT) (d k pc : Nat) (B : BD) (la : List (Option AVa)) (sa : List AVa) (ha : AHa) (K : KT), ai O f go cut d k pc B la sa ha K = true →
    ∀ (M : MT), mtL[k]? = some M → ∀ (ρ : Nat → Int) (lv : List (Option Value)) (st : List Value) (hp : AH) (Q : Option Value → AH → Prop), okB B ρ → rL B ρ la lv → rS B ρ sa st → rH B ρ ha hp → aiEnd K B ρ Q → aiCut cut M d B ρ Q → J M d 0 0 Q pc lv st hp 0 0 := by
  intro f
  induction f with
  | zero => intro go cut d k pc B la sa ha K h; simp only [ai] at h; cases h
  | succ f ih =>
    intro go cut d k pc B la sa ha K h M' hM' ρ lv st hp Q hB hL hS hH hK hC
    simp only [ai, frN_eq, frB_eq, frBi_eq, frT_eq, frTi_eq, frS_eq, frH_eq, frHi_eq] at h
    split at h
    · rename_i chk hchk
      rw [Bool.and_eq_true, decide_eq_true_eq] at h
      obtain ⟨rfl, h⟩ := h
      cases rS_nil hS
      have hcut : cut pc = some chk := by
        split at hchk
        · cases hchk
        · exact hchk
      exact hC pc chk hcut B ρ la lv ha hp h hB ext_rf hL hH
    · split at h
      · rename_i M i len hM hc
        rw [hM] at hM'; cases hM'
        obtain ⟨hd, hn⟩ := cd_at hM hc
        split at h
        · rename_i B1 pc1 la1 sa1 hs
          obtain ⟨ρ1, lv1, st1, g1, g2, g3, g4, g5⟩ := aS_ok hB hL hS hs
          have hl := sA_len g3 hn
          subst hl
          exact J_s hd g3 (ih _ _ _ _ _ _ _ _ _ _ h _ hM ρ1 lv1 st1 hp Q g1 g4 g5 (rH_ext g2 hH) (aiEnd_ext hK g2) (aiCut_ext hC g2))
        · split at h
          · rename_i bt bf t s hs
            rw [Bool.and_eq_true] at h
            obtain ⟨b, sv, g1, g2, g3, g4⟩ := aBr_ok hB hS hs
            have hl := bA_len g1 hn
            subst hl
            refine J_b hd g1 (fun q => ?_) (fun q => ?_)
            · obtain ⟨B1, e1, e2, e3⟩ := g3 q
              have h1 := h.1
              rw [e1] at h1
              exact ih _ _ _ _ _ _ _ _ _ _ h1 _ hM ρ lv sv hp Q e2 (rL_ext e3 hL) (rS_ext e3 g2) (rH_ext e3 hH) (aiEnd_ext hK e3) (aiCut_ext hC e3)
            · obtain ⟨B1, e1, e2, e3⟩ := g4 q
              have h1 := h.2
              rw [e1] at h1
              exact ih _ _ _ _ _ _ _ _ _ _ h1 _ hM ρ lv sv hp Q e2 (rL_ext e3 hL) (rS_ext e3 g2) (rH_ext e3 hH) (aiEnd_ext hK e3) (aiCut_ext hC e3)
          · split at h
            · rename_i o hs
              obtain ⟨ρ1, st1, hp1, g1, g2, g3, g4, g5⟩ := aH1_ok (d := d) hB hS hH hs
              exact J_h hd hn g3 (ih _ _ _ _ _ _ _ _ _ _ h _ hM ρ1 lv st1 hp1 Q g1 (rL_ext g2 hL) g4 g5 (aiEnd_ext hK g2) (aiCut_ext hC g2))
            · split at h
              · rename_i L hs
                have hall : ∀ q ∈ L, ∃ o, q = some o := fun q hq => by
                  have := List.all_eq_true.mp h q hq
                  cases q with
                  | none => cases this
                  | some o => exact ⟨o, rfl⟩
                obtain ⟨o, ho, ρ1, st1, hp1, g1, g2, g3, g4, g5⟩ := aF_ok (d := d) (M := M') hB hS hH hs hall
                have h1 := List.all_eq_true.mp h (some o) ho
                exact J_h hd hn g3 (ih _ _ _ _ _ _ _ _ _ _ h1 _ hM ρ1 lv st1 hp1 Q g1 (rL_ext g2 hL) g4 g5 (aiEnd_ext hK g2) (aiCut_ext hC g2))
              · split at h
                · rename_i a hs
                  obtain ⟨v, g1, g2⟩ := rAa_ok hB hS hs
                  exact J_r hd hn g1 (Nat.le_refl _) (Nat.le_refl _) (hK B ρ a v ha hp h hB ext_rf g2 hH)
                · split at h
                  · rename_i N as s hk
                    obtain ⟨av, sv, g1, g2, g3⟩ := kAa_ok hS hH hk
                    split at h
                    · rename mtL[N]? = some _ => hN
                      rw [Bool.and_eq_true, decide_eq_true_eq] at h
                      obtain ⟨hsum, h⟩ := h
                      have hcat : catB sv = true := by unfold catB; rw [cat_sum g3]; exact decide_eq_true hsum.1
                      split at h
                      · rename_i L hor
                        have C := hO _ _ _ _ _ _ _ hor hN ρ av hp hB g2 hH
                        refine J_k (c' := 0) (s' := 0) hd hn g1 hN hcat (Nat.le_refl _) (Nat.le_refl _) (Or.inl (fun v2 hp2 hq => ?_)) C (fun v2 hp2 hq => ?_)
                        · obtain ⟨o, ho, ρ1, -, -, -, e4⟩ := hq
                          have h1 := List.all_eq_true.mp h o ho
                          rw [Bool.and_eq_true, decide_eq_true_eq] at h1
                          rw [← e4.1, h1.1, hH.1]
                        · obtain ⟨o, ho, ρ1, e1, e2, e3, e4⟩ := hq
                          have h1 := List.all_eq_true.mp h o ho
                          rw [Bool.and_eq_true, decide_eq_true_eq] at h1
                          exact ih _ _ _ _ _ _ _ _ _ _ h1.2 _ hM ρ1 lv _ hp2 Q e1 (rL_ext e2 hL) (rO_list e3 (rS_ext e2 g3)) e4 (aiEnd_ext hK e2) (aiCut_ext hC e2)
                      · have j := ih _ _ _ _ _ _ _ _ _ _ h _ hN ρ _ [] hp (fun v2 hp2 => ∃ (B' : BD) (ρ' : Nat → Int) (a : Option AVa) (ha' : AHa), (decide (ha'.length = ha.length) && ai O f false cut _ k (pc + 3) B' la (a.toList ++ s) ha' K) = true ∧ okB B' ρ' ∧ ext B ρ B' ρ' ∧ rO B' ρ' a v2 ∧ rH B' ρ' ha' hp2) hB (entA_ok g2 _) trivial hH (fun B' ρ' a v ha' hp' q1 q2 q3 q4 q5 => ⟨B', ρ', a, ha', q1, q2, q3, q4, q5⟩) (fun pc chk hc => by cases hc)
                        have C := Ct_of_J (mt_ok hN).1 (fun ad => by rw [lg_len, cat_sum g2]; exact hsum.2) j
                        refine J_k (c' := 0) (s' := 0) hd hn g1 hN hcat (Nat.le_refl _) (Nat.le_refl _) (Or.inl (fun v2 hp2 hq => ?_)) C (fun v2 hp2 hq => ?_)
                        · obtain ⟨B1, ρ1, a, ha1, e0, e1, e2, e3, e4⟩ := hq
                          rw [Bool.and_eq_true, decide_eq_true_eq] at e0
                          rw [← e4.1, e0.1, hH.1]
                        · obtain ⟨B1, ρ1, a, ha1, e0, e1, e2, e3, e4⟩ := hq
                          rw [Bool.and_eq_true, decide_eq_true_eq] at e0
                          exact ih _ _ _ _ _ _ _ _ _ _ e0.2 _ hM ρ1 lv _ hp2 Q e1 (rL_ext e2 hL) (rO_list e3 (rS_ext e2 g3)) e4 (aiEnd_ext hK e2) (aiCut_ext hC e2)
                    · cases h
                  · split at h
                    · rename_i B1 n s hx
                      rw [Bool.and_eq_true, decide_eq_true_eq] at h
                      obtain ⟨ρ1, z, sv, g1, g2, g3, g4, g5⟩ := xAa_ok hB hS hx
                      have g4' : rV B1 ρ1 (.inl n) (.int z) := g4
                      exact J_x hd hn g3 (by unfold catB; rw [cat_sum g5]; exact decide_eq_true h.1.1) h.1.2 (Nat.le_refl _) (Nat.le_refl _) (ih _ _ _ _ _ _ _ _ _ _ h.2 _ hM ρ1 lv _ hp Q g1 (rL_ext g2 hL) ⟨g4', g5⟩ (rH_ext g2 hH) (aiEnd_ext hK g2) (aiCut_ext hC g2))
                    · cases h
      · cases h
