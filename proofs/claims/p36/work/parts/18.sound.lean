theorem J_x {M : MT} {d mc ms pc len cs ss : Nat} {lv : List (Option Value)} {st st' : List Value} {hp : AH} {i : Instr} {v : Value} {Q : Option Value → AH → Prop} (hd : decode M.by pc = .ok (i, len)) (hn : lnB i len = true) (hx : xA M.cn i st = (some v, st')) (hcat : catB st' = true) (hd0 : 0 < d) (h1 : cs ≤ mc) (h2 : ss ≤ ms) (k : J M d mc ms Q (pc + 3) lv (v :: st') hp cs ss) : J M d mc ms Q pc lv st hp cs ss := by
  obtain ⟨d', rfl⟩ : ∃ d', d = d' + 1 := ⟨d - 1, by omega⟩
  have hcat' : (st'.map (fun v => v.category)).sum ≤ 8 := by simpa [catB] using hcat
  cases i with
  | invokestatic idx =>
    have hl : len = 3 := by simpa [lnB] using hn
    subst hl
    simp only [xA] at hx
    split at hx
    · rename_i kd e0 y x st1 h0
      have hr := mRes_row h0
      split at hx
      · rename_i hk
        subst hk
        cases hx
        simp [mRowB] at hr
        exact J_min hd (chkW_in hr.1) (chkW_in hr.2.1) (chkW_in hr.2.2) hcat' h1 h2 k
      · split at hx
        · rename_i hk
          subst hk
          cases hx
          simp [mRowB] at hr
          exact J_max hd (chkW_in hr.1) (chkW_in hr.2.1) (chkW_in hr.2.2) hcat' h1 h2 k
        · cases hx
    · cases hx
  | _ => cases hx
theorem J_a {M : MT} {d mc ms pc len cs ss n c' s' : Nat} {lv : List (Option Value)} {st st' : List Value} {hp : AH} {cl : List AC} {i : Instr} {Q : Option Value → AH → Prop} (hd : decode M.by pc = .ok (i, len)) (hn : lnB i len = true) (ha : aA M.cn i st hp = some (n, st', cl, c', s')) (hk1 : okH hp = true) (hk2 : okL hp.length lv = true) (hk3 : st'.all (okV hp.length) = true) (h1 : cs + c' ≤ mc) (h2 : ss + s' ≤ ms) (k : J M d mc ms Q (pc + n) lv (.ref hp.length :: st') (hp ++ cl) (cs + c') (ss + s')) : J M d mc ms Q pc lv st hp cs ss := by
  unfold aA at ha
  split at ha
  · rename_i idx
    have hl : len = 3 := by simpa [lnB] using hn
    subst hl
    split at ha
    · rename_i ci e0 h0
      split at ha
      · rename_i C T N hc
        cases ha
        have hr := tab_row nwB_ok (by decide) h0
        unfold nwRowB at hr
        simp only [hc, Bool.and_eq_true] at hr
        exact J_new hd (chkW_in hr.1) (chkW_in hr.2.1) (chkW_in hr.2.2) hc h1 h2 hk1 hk2 hk3 k
      · cases ha
    · cases ha
  · have hl : len = 2 := by simpa [lnB] using hn
    subst hl
    split at ha
    · split at ha
      · rename_i hc; cases ha; exact J_newa hd rfl (Or.inl rfl) wArrI_in hc.1 rfl hc.2 h1 h2 hk1 hk2 hk3 k
      · cases ha
    · cases ha
  · have hl : len = 2 := by simpa [lnB] using hn
    subst hl
    split at ha
    · split at ha
      · rename_i hc; cases ha; exact J_newa hd rfl (Or.inr rfl) wArrZ_in hc.1 rfl hc.2 h1 h2 hk1 hk2 hk3 k
      · cases ha
    · cases ha
  · rename_i idx
    have hl : len = 4 := by simpa [lnB] using hn
    subst hl
    split at ha
    · rename_i w kk nn st1 h0
      split at ha
      · rename_i hc
        cases ha
        have hr := tab_row mnB_ok (by decide) h0
        unfold mnRowB at hr
        refine J_mna hd (chkW_in hr) wArrI_in hc.1 hc.2.1 rfl rfl hc.2.2.1 hc.2.2.2 h1 h2 hk1 hk2 hk3 ?_
        rw [← Nat.add_assoc, ← Nat.add_assoc] at k
        exact k
      · cases ha
    · cases ha
  · cases ha
def oOk (O : OR) : Prop := ∀ (d N : Nat) (NM : MT) (as : List Value) (hp : AH) (v : Option Value) (hp' : AH), O d N as hp = some (v, hp') → mtL[N]? = some NM → hp'.length = hp.length ∧ Ct NM d 0 0 as hp (fun v2 hp2 => v2 = v ∧ hp2 = hp')
theorem noO_ok : oOk noO := fun d N NM as hp v hp' h => by cases h
set_option maxHeartbeats 4000000 in
theorem ev_J {O : OR} (hO : oOk O) : ∀ (f d k pc : Nat) (lv : List (Option Value)) (st : List Value) (hp : AH) (cs ss : Nat) (v : Option Value) (hp' : AH) (c' s' : Nat), ev O f d k pc lv st hp cs ss = some (v, hp', c', s') → cs ≤ c' ∧ ss ≤ s' ∧ ∀ M, mtL[k]? = some M → ∀ mc ms, c' ≤ mc → s' ≤ ms → J M d mc ms (fun v2 hp2 => v2 = v ∧ hp2 = hp') pc lv st hp cs ss := by
  intro f
  induction f with
  | zero => intro d k pc lv st hp cs ss v hp' c' s' h; simp only [ev] at h; cases h
  | succ f ih =>
    intro d k pc lv st hp cs ss v hp' c' s' h
    simp only [ev] at h
    split at h
    · rename_i M i len hM hc
      obtain ⟨hd, hn⟩ := cd_at hM hc
      split at h
      · rename_i pc1 lv1 st1 hs
        obtain ⟨a, b, c⟩ := ih _ _ _ _ _ _ _ _ _ _ _ _ h
        refine ⟨a, b, fun M' hM' mc ms h1 h2 => ?_⟩
        rw [hM] at hM'; cases hM'
        have hl := sA_len hs hn
        subst hl
        exact J_s hd hs (c M hM mc ms h1 h2)
      · split at h
        · rename_i bb t st1 hs
          have hl := bA_len hs hn
          subst hl
          split at h
          · rename_i hb
            obtain ⟨a, b, c⟩ := ih _ _ _ _ _ _ _ _ _ _ _ _ h
            refine ⟨a, b, fun M' hM' mc ms h1 h2 => ?_⟩
            rw [hM] at hM'; cases hM'
            exact J_b hd hs (fun _ => c M hM mc ms h1 h2) (fun q => by rw [hb] at q; cases q)
          · rename_i hb
            obtain ⟨a, b, c⟩ := ih _ _ _ _ _ _ _ _ _ _ _ _ h
            refine ⟨a, b, fun M' hM' mc ms h1 h2 => ?_⟩
            rw [hM] at hM'; cases hM'
            exact J_b hd hs (fun q => absurd q hb) (fun _ => c M hM mc ms h1 h2)
        · split at h
          · rename_i pc1 st1 hp1 hs
            obtain ⟨a, b, c⟩ := ih _ _ _ _ _ _ _ _ _ _ _ _ h
            refine ⟨a, b, fun M' hM' mc ms h1 h2 => ?_⟩
            rw [hM] at hM'; cases hM'
            exact J_h hd hn hs (c M hM mc ms h1 h2)
          · split at h
            · rename_i v1 hs
              cases h
              refine ⟨Nat.le_refl _, Nat.le_refl _, fun M' hM' mc ms h1 h2 => ?_⟩
              rw [hM] at hM'; cases hM'
              exact J_r hd hn hs h1 h2 ⟨rfl, rfl⟩
            · split at h
              · rename_i N as st1 hk
                split at h
                · rename mtL[N]? = some _ => hN
                  split at h
                  · rename_i v1 hp1 hor
                    split at h
                    · rename_i hc1
                      obtain ⟨a, b, c⟩ := ih _ _ _ _ _ _ _ _ _ _ _ _ h
                      obtain ⟨o1, o2⟩ := hO _ _ _ _ _ _ _ hor hN
                      refine ⟨a, b, fun M' hM' mc ms h1 h2 => ?_⟩
                      rw [hM] at hM'; cases hM'
                      refine J_k (c' := 0) (s' := 0) hd hn hk hN hc1 (by omega) (by omega) (Or.inl (fun v2 hp2 hq => by rw [hq.2]; exact o1)) o2 (fun v2 hp2 hq => ?_)
                      obtain ⟨rfl, rfl⟩ := hq
                      exact c M hM mc ms h1 h2
                    · cases h
                  · split at h
                    · rename_i hc1
                      split at h
                      · rename_i v1 hp1 c1 s1 hev
                        split at h
                        · rename_i hok
                          obtain ⟨a1, b1, j1⟩ := ih _ _ _ _ _ _ _ _ _ _ _ _ hev
                          obtain ⟨a, b, c⟩ := ih _ _ _ _ _ _ _ _ _ _ _ _ h
                          refine ⟨by omega, by omega, fun M' hM' mc ms h1 h2 => ?_⟩
                          rw [hM] at hM'; cases hM'
                          have C : Ct _ _ c1 s1 as hp (fun v2 hp2 => v2 = v1 ∧ hp2 = hp1) := Ct_of_J (mt_ok hN).1 (fun ad => by rw [lg_len]; exact hc1.2) (j1 _ hN c1 s1 (Nat.le_refl _) (Nat.le_refl _))
                          refine J_k hd hn hk hN hc1.1 (by omega) (by omega) ?_ C (fun v2 hp2 hq => ?_)
                          · rcases hok with hok | hok
                            · exact Or.inl (fun v2 hp2 hq => by rw [hq.2]; exact hok)
                            · exact Or.inr hok
                          · obtain ⟨rfl, rfl⟩ := hq
                            exact c M hM mc ms h1 h2
                        · cases h
                      · cases h
                    · cases h
                · cases h
              · split at h
                · rename_i v1 st1 hx
                  split at h
                  · rename_i hc1
                    obtain ⟨a, b, c⟩ := ih _ _ _ _ _ _ _ _ _ _ _ _ h
                    refine ⟨a, b, fun M' hM' mc ms h1 h2 => ?_⟩
                    rw [hM] at hM'; cases hM'
                    exact J_x hd hn hx hc1.1 hc1.2 (by omega) (by omega) (c M hM mc ms h1 h2)
                  · cases h
                · split at h
                  · rename_i n st1 cl c1 s1 ha
                    split at h
                    · rename_i hc1
                      obtain ⟨a, b, c⟩ := ih _ _ _ _ _ _ _ _ _ _ _ _ h
                      refine ⟨by omega, by omega, fun M' hM' mc ms h1 h2 => ?_⟩
                      rw [hM] at hM'; cases hM'
                      exact J_a hd hn ha hc1.1 hc1.2.1 hc1.2.2 (by omega) (by omega) (c M hM mc ms h1 h2)
                    · cases h
                  · cases h
    · cases h
/-- a contract by evaluation -/
theorem Ct_ev {O : OR} (hO : oOk O) {f d k c' s' : Nat} {M : MT} {as : List Value} {hp hp' : AH} {v : Option Value} (hM : mtL[k]? = some M) (hs : (as.map (fun v => v.category)).sum ≤ M.ml) (h : ev O f d k 0 (entL as M.ml) [] hp 0 0 = some (v, hp', c', s')) : Ct M d c' s' as hp (fun v2 hp2 => v2 = v ∧ hp2 = hp') :=
  Ct_of_J (mt_ok hM).1 (fun ad => by rw [lg_len]; exact hs) ((ev_J hO _ _ _ _ _ _ _ _ _ _ _ _ _ h).2.2 M hM c' s' (Nat.le_refl _) (Nat.le_refl _))
