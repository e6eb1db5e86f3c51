/-! ===== it speaks true, where all that is left to show holds ===== -/
def xoOk (PT : PTy) (O : XORA) : Prop := ∀ (d N : Nat) (NM : MT) (B : BD) (as : List AVa) (ha : AHa) (an : List Nat) (na : Nat) (gs : List FC) (L : List XOUT), O d N B as ha an na = some (gs, L) → mtL[N]? = some NM → ∀ (ρ : Nat → Int) (α : Nat → Int → Int) (av : List Value) (hp : AH), okB B ρ → rS B ρ as av → rH B ρ ha hp → rAr an α hp → okAn na an hp.length → (∀ g ∈ gs, hF PT ρ α g) →
  Ct NM d 0 0 av hp (fun v hp' => ∃ o ∈ L, ∃ ρ' α', okB o.1 ρ' ∧ ext B ρ o.1 ρ' ∧ aext na α o.2.2.2.2.1 α' ∧ rO o.1 ρ' o.2.1 v ∧ rH o.1 ρ' o.2.2.1 hp' ∧ rAr o.2.2.2.1 α' hp' ∧ okAn o.2.2.2.2.1 o.2.2.2.1 hp'.length ∧ okF PT o.1 o.2.2.2.2.1 ρ' α' o.2.2.2.2.2)
def axEnd (PT : PTy) (K : XK) (B : BD) (ρ : Nat → Int) (na : Nat) (α : Nat → Int → Int) (Q : Option Value → AH → Prop) : Prop := ∀ (B' : BD) (ρ' : Nat → Int) (a : Option AVa) (v : Option Value) (ha' : AHa) (hp' : AH) (an' : List Nat) (na' : Nat) (α' : Nat → Int → Int) (F' : List FC) (L' : List VC), K B' a ha' an' na' F' = some L' → (∀ v ∈ L', vcOk PT v) → okB B' ρ' → ext B ρ B' ρ' → aext na α na' α' → rO B' ρ' a v → rH B' ρ' ha' hp' → EN PT B' ρ' na' α' an' hp' F' → Q v hp'
def axCut (PT : PTy) (cut : XCUT) (M : MT) (d : Nat) (B : BD) (ρ : Nat → Int) (na : Nat) (α : Nat → Int → Int) (Q : Option Value → AH → Prop) : Prop := ∀ (pc : Nat) (chk : BD → List (Option AVa) → AHa → List Nat → Nat → List FC → Option (List VC)), cut pc = some chk → ∀ (B' : BD) (ρ' : Nat → Int) (la' : List (Option AVa)) (lv' : List (Option Value)) (ha' : AHa) (hp' : AH) (an' : List Nat) (na' : Nat) (α' : Nat → Int → Int) (F' : List FC) (L' : List VC), chk B' la' ha' an' na' F' = some L' → (∀ v ∈ L', vcOk PT v) → okB B' ρ' → ext B ρ B' ρ' → aext na α na' α' → rL B' ρ' la' lv' → rH B' ρ' ha' hp' → EN PT B' ρ' na' α' an' hp' F' → J M d 0 0 Q pc lv' [] hp' 0 0
section AXX
variable {PT : PTy} {K : XK} {cut : XCUT} {M : MT} {d : Nat} {B B1 : BD} {ρ ρ1 : Nat → Int} {na n1 : Nat} {α α1 : Nat → Int → Int} {Q : Option Value → AH → Prop}
theorem axEnd_ext (h : axEnd PT K B ρ na α Q) (e : ext B ρ B1 ρ1) (ea : aext na α n1 α1) : axEnd PT K B1 ρ1 n1 α1 Q := fun B' ρ' a v ha' hp' an' na' α' F' L' h1 h2 h3 h4 h5 h6 h7 h8 => h B' ρ' a v ha' hp' an' na' α' F' L' h1 h2 h3 (ext_tr e h4) (aext_tr ea h5) h6 h7 h8
theorem axCut_ext (h : axCut PT cut M d B ρ na α Q) (e : ext B ρ B1 ρ1) (ea : aext na α n1 α1) : axCut PT cut M d B1 ρ1 n1 α1 Q := fun pc chk hc B' ρ' la' lv' ha' hp' an' na' α' F' L' h1 h2 h3 h4 h5 h6 h7 h8 => h pc chk hc B' ρ' la' lv' ha' hp' an' na' α' F' L' h1 h2 h3 (ext_tr e h4) (aext_tr ea h5) h6 h7 h8
end AXX
set_option maxHeartbeats 8000000 in
theorem ax_ok {PT : PTy} {R : XND} {O : XORA} (hO : xoOk PT O) : ∀ (f : Nat) (go : Bool) (cut : XCUT) (d k pc : Nat) (B : BD) (la : List (Option AVa)) (sa : List AVa) (ha : AHa) (an : List Nat) (na : Nat) (F : List FC) (K : XK) (L : List VC), ax R O f go cut d k pc B la sa ha an na F K = some L → (∀ v ∈ L, vcOk PT v) →
    ∀ (M : MT), mtL[k]? = some M → ∀ (ρ : Nat → Int) (α : Nat → Int → Int) (lv : List (Option Value)) (st : List Value) (hp : AH) (Q : Option Value → AH → Prop), okB B ρ → rL B ρ la lv → rS B ρ sa st → rH B ρ ha hp → EN PT B ρ na α an hp F → axEnd PT K B ρ na α Q → axCut PT cut M d B ρ na α Q → J M d 0 0 Q pc lv st hp 0 0 := by
  intro f
  induction f with
  | zero => intro go cut d k pc B la sa ha an na F K L h; simp only [ax] at h; cases h
  | succ f ih =>
    intro go cut d k pc B la sa ha an na F K L h hV M' hM' ρ α lv st hp Q hB hL hS hH hE hK hC
    simp only [ax, frN_eq, frB_eq, frBi_eq, frT_eq, frTi_eq, frS_eq, frH_eq, frHi_eq, frNs_eq, apF_eq] at h
    split at h
    · rename_i chk hchk
      split at h
      · cases rS_nil hS
        have hcut : cut pc = some chk := by
          split at hchk
          · cases hchk
          · exact hchk
        exact hC pc chk hcut B ρ la lv ha hp an na α F L h hV hB ext_rf aext_rf hL hH hE
      · cases h
    · split at h
      · rename_i M i len hM hc
        rw [hM] at hM'; cases hM'
        obtain ⟨hd, hn⟩ := cd_at hM hc
        split at h
        · rename_i B1 pc1 la1 sa1 hs
          obtain ⟨ρ1, lv1, st1, g1, g2, g3, g4, g5⟩ := aSx_ok hB hL hS hs
          have hl := sA_len g3 hn
          subst hl
          have hE1 := EN_add (EN_ext g2 hE) (fS_ok (PT := PT) (na := na) (α := α) hs hB hS g2 g3 g5)
          exact J_s hd g3 (ih _ _ _ _ _ _ _ _ _ _ _ _ _ _ h hV _ hM ρ1 α lv1 st1 hp Q g1 g4 g5 (rH_ext g2 hH) hE1 (axEnd_ext hK g2 aext_rf) (axCut_ext hC g2 aext_rf))
        · split at h
          · rename_i bt bf t s hs
            obtain ⟨x, y, hx, hy, rfl⟩ := opA_some h
            obtain ⟨b, sv, g1, g2, g3, g4⟩ := aBr_ok hB hS hs
            have hl := bA_len g1 hn
            subst hl
            refine J_b hd g1 (fun q => ?_) (fun q => ?_)
            · obtain ⟨B1, e1, e2, e3⟩ := g3 q
              rw [e1] at hx
              subst q
              have hE1 := EN_ext e3 (EN_add hE (fBr_ok hS g1))
              exact ih _ _ _ _ _ _ _ _ _ _ _ _ _ _ hx (fun v hv => hV v (List.mem_append_left _ hv)) _ hM ρ α lv sv hp Q e2 (rL_ext e3 hL) (rS_ext e3 g2) (rH_ext e3 hH) hE1 (axEnd_ext hK e3 aext_rf) (axCut_ext hC e3 aext_rf)
            · obtain ⟨B1, e1, e2, e3⟩ := g4 q
              rw [e1] at hy
              subst q
              have hE1 := EN_ext e3 (EN_add hE (fBr_ok hS g1))
              exact ih _ _ _ _ _ _ _ _ _ _ _ _ _ _ hy (fun v hv => hV v (List.mem_append_right _ hv)) _ hM ρ α lv sv hp Q e2 (rL_ext e3 hL) (rS_ext e3 g2) (rH_ext e3 hH) hE1 (axEnd_ext hK e3 aext_rf) (axCut_ext hC e3 aext_rf)
          · split at h
            · rename_i o hs
              obtain ⟨x, y, hx, hy, rfl⟩ := opA_some h
              cases hx
              have hgl := gls_ok (fun v hv => hV v (List.mem_append_left _ hv)) hB hE.2.2
              obtain ⟨hBn, hln⟩ := narA_ok (PT := PT) (α := α) hB _ B hB (ndR_ok hS) hgl
              have en : ext B ρ (narA B (ndR i sa ha)) ρ := ⟨by rw [hln]; exact Nat.le_refl _, fun _ _ => rfl⟩
              obtain ⟨ρ1, st1, hp1, g1, g2, g3, g4, g5⟩ := aH1_ok (d := d) hBn (rS_ext en hS) (rH_ext en hH) hs
              obtain ⟨α1, ea, hE1⟩ := fH_ok hBn hs g2 g3 (rS_ext en hS) g4 (EN_ext en hE)
              have e2 := ext_tr en g2
              exact J_h hd hn g3 (ih _ _ _ _ _ _ _ _ _ _ _ _ _ _ hy (fun v hv => hV v (List.mem_append_right _ hv)) _ hM ρ1 α1 lv st1 hp1 Q g1 (rL_ext e2 hL) g4 g5 hE1 (axEnd_ext hK e2 ea) (axCut_ext hC e2 ea))
            · split at h
              · rename_i gs s k0 k1 sp dp n hs
                obtain ⟨x, y, hx, hy, rfl⟩ := opA_some h
                cases hx
                have hgl := gls_ok (fun v hv => hV v (List.mem_append_left _ hv)) hB hE.2.2
                obtain ⟨st1, hp1, α1, g1, g2, g3, ea, hE1⟩ := aCp_ok (pc := pc) hs hS hH hE hgl
                exact J_h hd hn g1 (ih _ _ _ _ _ _ _ _ _ _ _ _ _ _ hy (fun v hv => hV v (List.mem_append_right _ hv)) _ hM ρ α1 lv st1 hp1 Q hB hL g2 g3 hE1 (axEnd_ext hK ext_rf ea) (axCut_ext hC ext_rf ea))
              split at h
              · rename_i Lf hs
                have hall : ∀ q ∈ Lf, ∃ o, q = some o := fun q hq => by
                  obtain ⟨x, h1, -⟩ := allA_some h q hq
                  cases q with
                  | none => cases h1
                  | some o => exact ⟨o, rfl⟩
                obtain ⟨o, l, st1, ho, g1, g2, g3, g4, g5, g6⟩ := aFx_ok (PT := PT) (d := d) (M := M') (na := na) (α := α) hB hS hH hs hall
                obtain ⟨x, h1, h2⟩ := allA_some h (some (o, l)) ho
                have hE1 := EN_ext g2 (EN_add hE g6)
                have hH1 := rH_ext g2 hH
                rw [← g5] at hH1
                exact J_h hd hn g3 (ih _ _ _ _ _ _ _ _ _ _ _ _ _ _ h1 (fun v hv => hV v (h2 v hv)) _ hM ρ α lv st1 hp Q g1 (rL_ext g2 hL) g4 hH1 hE1 (axEnd_ext hK g2 aext_rf) (axCut_ext hC g2 aext_rf))
              · split at h
                · rename_i a hs
                  obtain ⟨v, g1, g2⟩ := rAa_ok hB hS hs
                  exact J_r hd hn g1 (Nat.le_refl _) (Nat.le_refl _) (hK B ρ a v ha hp an na α F L h hV hB ext_rf aext_rf g2 hH hE)
                · split at h
                  · rename_i N as s hk
                    obtain ⟨av, sv, g1, g2, g3⟩ := kAa_ok hS hH hk
                    split at h
                    · rename mtL[N]? = some _ => hN
                      split at h
                      · rename_i hsum
                        have hcat : catB sv = true := by unfold catB; rw [cat_sum g3]; exact decide_eq_true hsum.1
                        split at h
                        · rename_i gs Lo hor
                          obtain ⟨x, y, hx, hy, rfl⟩ := opA_some h
                          cases hx
                          have hgl := gls_ok (fun v hv => hV v (List.mem_append_left _ hv)) hB hE.2.2
                          obtain ⟨hBn, hln⟩ := narA_ok (PT := PT) (α := α) hB _ B hB (ndC_ok g2) (fun g hg => hgl g (List.mem_append_left _ hg))
                          have en : ext B ρ (narA B (ndC R N as)) ρ := ⟨by rw [hln]; exact Nat.le_refl _, fun _ _ => rfl⟩
                          have C := hO _ _ _ _ _ _ _ _ _ _ hor hN ρ α av hp hBn (rS_ext en g2) (rH_ext en hH) hE.1 hE.2.1 (fun g hg => hgl g (List.mem_append_right _ hg))
                          refine J_k (c' := 0) (s' := 0) hd hn g1 hN hcat (Nat.le_refl _) (Nat.le_refl _) (Or.inl (fun v2 hp2 hq => ?_)) C (fun v2 hp2 hq => ?_)
                          · obtain ⟨o, ho, ρ1, α1, -, -, -, -, e4, -⟩ := hq
                            obtain ⟨x, h1, -⟩ := allA_some hy o ho
                            split at h1
                            · rename_i hlen
                              rw [← e4.1, hlen, hH.1]
                            · cases h1
                          · obtain ⟨o, ho, ρ1, α1, e1, e2, ea, e3, e4, e5, e6, e7⟩ := hq
                            have e2 := ext_tr en e2
                            obtain ⟨x, h1, h2⟩ := allA_some hy o ho
                            split at h1
                            · have hE1 : EN PT o.1 ρ1 o.2.2.2.2.1 α1 o.2.2.2.1 hp2 (o.2.2.2.2.2 ++ F) := ⟨e5, e6, fun f hf => by
                                rcases List.mem_append.mp hf with q | q
                                · exact e7 f q
                                · exact okF1_ext e2 ea (hE.2.2 f q)⟩
                              exact ih _ _ _ _ _ _ _ _ _ _ _ _ _ _ h1 (fun v hv => hV v (List.mem_append_right _ (h2 v hv))) _ hM ρ1 α1 lv _ hp2 Q e1 (rL_ext e2 hL) (rO_list e3 (rS_ext e2 g3)) e4 hE1 (axEnd_ext hK e2 ea) (axCut_ext hC e2 ea)
                            · cases h1
                        · have j := ih _ _ _ _ _ _ _ _ _ _ _ _ _ _ h hV _ hN ρ α _ [] hp (fun v2 hp2 => ∃ (B' : BD) (ρ' : Nat → Int) (a : Option AVa) (ha' : AHa) (an' : List Nat) (na' : Nat) (α' : Nat → Int → Int) (F' : List FC) (L' : List VC), (if ha'.length = ha.length then ax R O f false cut _ k (pc + 3) B' la (a.toList ++ s) ha' an' na' F' K else none) = some L' ∧ (∀ v ∈ L', vcOk PT v) ∧ okB B' ρ' ∧ ext B ρ B' ρ' ∧ aext na α na' α' ∧ rO B' ρ' a v2 ∧ rH B' ρ' ha' hp2 ∧ EN PT B' ρ' na' α' an' hp2 F') hB (entA_ok g2 _) trivial hH hE (fun B' ρ' a v ha' hp' an' na' α' F' L' q1 q2 q3 q4 q5 q6 q7 q8 => ⟨B', ρ', a, ha', an', na', α', F', L', q1, q2, q3, q4, q5, q6, q7, q8⟩) (fun pc chk hc => by cases hc)
                          have C := Ct_of_J (mt_ok hN).1 (fun ad => by rw [lg_len, cat_sum g2]; exact hsum.2) j
                          refine J_k (c' := 0) (s' := 0) hd hn g1 hN hcat (Nat.le_refl _) (Nat.le_refl _) (Or.inl (fun v2 hp2 hq => ?_)) C (fun v2 hp2 hq => ?_)
                          · obtain ⟨B1, ρ1, a, ha1, an1, na1, α1, F1, L1, e0, -, -, -, -, -, e7, -⟩ := hq
                            split at e0
                            · rename_i hlen
                              rw [← e7.1, hlen, hH.1]
                            · cases e0
                          · obtain ⟨B1, ρ1, a, ha1, an1, na1, α1, F1, L1, e0, e1, e2, e3, e4, e5, e6, e7⟩ := hq
                            split at e0
                            · exact ih _ _ _ _ _ _ _ _ _ _ _ _ _ _ e0 e1 _ hM ρ1 α1 lv _ hp2 Q e2 (rL_ext e3 hL) (rO_list e5 (rS_ext e3 g3)) e6 e7 (axEnd_ext hK e3 e4) (axCut_ext hC e3 e4)
                            · cases e0
                      · cases h
                    · cases h
                  · split at h
                    · rename_i B1 n s hx
                      split at h
                      · rename_i hsum
                        obtain ⟨ρ1, z, sv, g1, g2, g3, g4, g5, g6⟩ := xAf_ok (PT := PT) (na := na) (α := α) hB hS hx
                        have g4' : rV B1 ρ1 (.inl n) (.int z) := g4
                        exact J_x hd hn g3 (by unfold catB; rw [cat_sum g5]; exact decide_eq_true hsum.1) hsum.2 (Nat.le_refl _) (Nat.le_refl _) (ih _ _ _ _ _ _ _ _ _ _ _ _ _ _ h hV _ hM ρ1 α lv _ hp Q g1 (rL_ext g2 hL) ⟨g4', g5⟩ (rH_ext g2 hH) (EN_add (EN_ext g2 hE) g6) (axEnd_ext hK g2 aext_rf) (axCut_ext hC g2 aext_rf))
                      · cases h
                    · cases h
      · cases h
