/-! the evaluator with named ints -/
def rAs (rt : Option FieldType) (i : Instr) (st : List SV) : Option (Option SV) := match i with
  | .ireturn => match st with
    | [v] => match rt with
      | some .int => if intS v = true then some (some v) else none
      | some .boolean => match v with
        | .inl (.int x) => if x = 0 ∨ x = 1 then some (some (.inl (.int x))) else none
        | _ => none
      | _ => none
    | _ => none
  | .lreturn => match st with
    | [.inl (.long x)] => match rt with
      | some .long => some (some (.inl (.long x)))
      | _ => none
    | _ => none
  | .areturn => match st with
    | [.inl (.ref x)] => match rt with
      | some (.object _) => some (some (.inl (.ref x)))
      | some (.array _) => some (some (.inl (.ref x)))
      | _ => none
    | _ => none
  | .return_ => match st with
    | [] => match rt with
      | none => some none
      | _ => none
    | _ => none
  | _ => none
theorem rAs_eq {ρ : Nat → Int32} {rt : Option FieldType} {i : Instr} {st : List SV} {v : Option SV} (h : rAs rt i st = some v) : rA rt i (st.map (sv ρ)) = some (v.map (sv ρ)) := by
  cases i with
  | ireturn =>
    simp only [rAs] at h
    split at h
    · split at h
      · split at h
        · rename_i hi
          cases h
          obtain ⟨x, hx⟩ := intS_spec hi ρ
          simp only [List.map_cons, List.map_nil, hx, rA, Option.map_some]
        · cases h
      · split at h
        · split at h
          · rename_i hx; cases h; simp only [List.map_cons, List.map_nil, sv, rA, if_pos hx, Option.map_some]
          · cases h
        · cases h
      · cases h
    · cases h
  | lreturn =>
    simp only [rAs] at h
    split at h
    · split at h
      · cases h; rfl
      · cases h
    · cases h
  | areturn =>
    simp only [rAs] at h
    split at h
    · split at h
      · cases h; rfl
      · cases h; rfl
      · cases h
    · cases h
  | return_ =>
    simp only [rAs] at h
    split at h
    · split at h
      · cases h; rfl
      · cases h
    · cases h
  | _ => cases h
def kAs (cn : Nat) (i : Instr) (st : List SV) (hp : List SC) : Option (Nat × List SV × List SV) := match i with
  | .invokestatic idx => match mRes cn idx with
    | some (kd, N, _) => if (kd = 0 ∨ kd = 1) ∧ npL.getD N 0 ≤ st.length then some (N, (st.take (npL.getD N 0)).reverse, st.drop (npL.getD N 0)) else none
    | none => none
  | .invokevirtual idx => match mRes cn idx with
    | some (kd, N, _) => match st.drop (npL.getD N 0) with
      | .inl (.ref r) :: st' => match hp[r]?, mtL[N]? with
        | some (.inr (.inr (ci, _))), some M => if kd = 2 ∧ ci = M.cn ∧ ci < 8 then some (N, .inl (.ref r) :: (st.take (npL.getD N 0)).reverse, st') else none
        | _, _ => none
      | _ => none
    | none => none
  | _ => none
theorem kAs_eq {ρ : Nat → Int32} {cn : Nat} {i : Instr} {st as st' : List SV} {hp : List SC} {N : Nat} (h : kAs cn i st hp = some (N, as, st')) : kA cn i (st.map (sv ρ)) (hp.map (sc ρ)) = some (N, as.map (sv ρ), st'.map (sv ρ)) := by
  cases i with
  | invokestatic idx =>
    simp only [kAs] at h
    split at h
    · rename_i kd N0 a1 h0
      split at h
      · rename_i hc
        cases h
        have hc2 : (kd = 0 ∨ kd = 1) ∧ npL.getD N 0 ≤ (st.map (sv ρ)).length := ⟨hc.1, by rw [List.length_map]; exact hc.2⟩
        simp only [kA, h0, if_pos hc2, List.map_reverse, List.map_take, List.map_drop]
      · cases h
    · cases h
  | invokevirtual idx =>
    simp only [kAs] at h
    split at h
    · rename_i kd N0 a1 h0
      split at h
      · rename_i r st1 hdrop
        split at h
        · rename_i ci fs M0 g0 g1
          split at h
          · rename_i hc
            cases h
            have e : (st.map (sv ρ)).drop (npL.getD N 0) = .ref r :: st'.map (sv ρ) := by rw [← List.map_drop, hdrop]; rfl
            have e0 := sc_get (ρ := ρ) g0
            simp only [sc] at e0
            simp only [kA, h0, e, e0, g1, if_pos hc, List.map_cons, sv, List.map_reverse, List.map_take]
          · cases h
        · cases h
      · cases h
    · cases h
  | _ => cases h
def xAs (cn : Nat) (i : Instr) (st : List SV) : Option SV × List SV := match i with
  | .invokestatic idx => match mRes cn idx, st with
    | some (kd, _), .inl (.int y) :: .inl (.int x) :: st' => if kd = 7 then (some (.inl (.int (if y < x then y else x))), st') else if kd = 8 then (some (.inl (.int (if x < y then y else x))), st') else (none, [])
    | _, _ => (none, [])
  | _ => (none, [])
theorem xAs_eq {ρ : Nat → Int32} {cn : Nat} {i : Instr} {st st' : List SV} {v : SV} (h : xAs cn i st = (some v, st')) : xA cn i (st.map (sv ρ)) = (some (sv ρ v), st'.map (sv ρ)) := by
  cases i with
  | invokestatic idx =>
    simp only [xAs] at h
    split at h
    · rename_i kd e0 y x st1 h0
      split at h
      · rename_i hk; cases h; simp only [List.map_cons, sv, xA, h0, if_pos hk]
      · rename_i hk1
        split at h
        · rename_i hk; cases h; simp only [List.map_cons, sv, xA, h0, if_neg hk1, if_pos hk]
        · cases h
    · cases h
  | _ => cases h
def lvas : Nat → List SV → List (Nat × SV)
  | _, [] => []
  | i, v :: vs => (i, v) :: lvas (if catS v = 2 then i + 2 else i + 1) vs
def entS (as : List SV) (n : Nat) : List (Option SV) := (List.range n).map (fun i => (lvas 0 as).lookup i)
theorem lvas_eq (ρ : Nat → Int32) : ∀ (as : List SV) (i : Nat), lv_args i (as.map (sv ρ)) = (lvas i as).map (fun q => (q.1, sv ρ q.2))
  | [], _ => rfl
  | v :: as, i => by
    simp only [List.map_cons, lv_args, lvas, catS_eq]
    rw [lvas_eq ρ as]
theorem lookup_map {α β : Type} (f : α → β) (i : Nat) : ∀ l : List (Nat × α), (l.map (fun q => (q.1, f q.2))).lookup i = (l.lookup i).map f
  | [] => rfl
  | (a, x) :: l => by
    rw [List.map_cons, List.lookup_cons, List.lookup_cons, lookup_map f i l]
    cases h : i == a <;> simp only [h] <;> rfl
theorem entS_eq (ρ : Nat → Int32) (as : List SV) (n : Nat) : lvr ρ (entS as n) = entL (as.map (sv ρ)) n := by
  unfold lvr entS entL
  rw [List.map_map]
  apply List.map_congr_left
  intro i _
  simp only [Function.comp]
  rw [lvas_eq, lookup_map]
def evs (I : List (Int32 × Int32)) : Nat → Nat → Nat → Nat → List (Option SV) → List SV → List SC → Option (Option SV × List SC)
  | 0, _, _, _, _, _, _ => none
  | f + 1, d, k, pc, lv, st, hp => match mtL[k]?, (cdL.getD k [])[pc]? with
    | some M, some (some (i, _)) => match sAs i pc lv st with
      | some (pc', lv', st') => evs I f d k pc' lv' st' hp
      | none => match bAs I i pc st with
        | some (b, t, st') => if b = true then evs I f d k t lv st' hp else evs I f d k (pc + 3) lv st' hp
        | none => match hAs I d M i pc st hp with
          | some (pc', st', hp') => evs I f d k pc' lv st' hp'
          | none => match rAs M.rt i st with
            | some v => some (v, hp)
            | none => match kAs M.cn i st hp with
              | some (N, as, st') => match d, mtL[N]? with
                | d' + 1, some NM => if (st'.map catS).sum ≤ 8 ∧ (as.map catS).sum ≤ NM.ml then (match evs I f d' N 0 (entS as NM.ml) [] hp with
                  | some (v, hp') => if hp'.length = hp.length then evs I f (d' + 1) k (pc + 3) lv (v.toList ++ st') hp' else none
                  | none => none) else none
                | _, _ => none
              | none => match xAs M.cn i st with
                | (some v, st') => if (st'.map catS).sum ≤ 8 ∧ 0 < d then evs I f d k (pc + 3) lv (v :: st') hp else none
                | (none, _) => none
    | _, _ => none
set_option maxHeartbeats 4000000 in
theorem evs_J {I : List (Int32 × Int32)} {ρ : Nat → Int32} (hI : inI I ρ) : ∀ (f d k pc : Nat) (lv : List (Option SV)) (st : List SV) (hp : List SC) (v : Option SV) (hp' : List SC), evs I f d k pc lv st hp = some (v, hp') → ∀ M, mtL[k]? = some M → J M d 0 0 (fun v2 hp2 => v2 = v.map (sv ρ) ∧ hp2 = hp'.map (sc ρ)) pc (lvr ρ lv) (st.map (sv ρ)) (hp.map (sc ρ)) 0 0 := by
  intro f
  induction f with
  | zero => intro d k pc lv st hp v hp' h; simp only [evs] at h; cases h
  | succ f ih =>
    intro d k pc lv st hp v hp' h M' hM'
    simp only [evs] at h
    split at h
    · rename_i M i len hM hc
      rw [hM] at hM'; cases hM'
      obtain ⟨hd, hn⟩ := cd_at hM hc
      split at h
      · rename_i pc1 lv1 st1 hs
        have hs' := sAs_eq (ρ := ρ) hs
        have hl := sA_len hs' hn
        subst hl
        exact J_s hd hs' (ih _ _ _ _ _ _ _ _ h _ hM)
      · split at h
        · rename_i bb t st1 hs
          have hs' := bAs_eq hI hs
          have hl := bA_len hs' hn
          subst hl
          split at h
          · rename_i hb
            exact J_b hd hs' (fun _ => ih _ _ _ _ _ _ _ _ h _ hM) (fun q => by rw [hb] at q; cases q)
          · rename_i hb
            exact J_b hd hs' (fun q => absurd q hb) (fun _ => ih _ _ _ _ _ _ _ _ h _ hM)
        · split at h
          · rename_i pc1 st1 hp1 hs
            exact J_h hd hn (hAs_eq hI hs) (ih _ _ _ _ _ _ _ _ h _ hM)
          · split at h
            · rename_i v1 hs
              cases h
              exact J_r hd hn (rAs_eq hs) (Nat.le_refl _) (Nat.le_refl _) ⟨rfl, rfl⟩
            · split at h
              · rename_i N as st1 hk
                split at h
                · rename mtL[N]? = some _ => hN
                  split at h
                  · rename_i hc1
                    split at h
                    · rename_i v1 hp1 hev
                      split at h
                      · rename_i hlen
                        have j1 := ih _ _ _ _ _ _ _ _ hev _ hN
                        rw [entS_eq] at j1
                        have C : Ct _ _ 0 0 (as.map (sv ρ)) (hp.map (sc ρ)) (fun v2 hp2 => v2 = v1.map (sv ρ) ∧ hp2 = hp1.map (sc ρ)) := Ct_of_J (mt_ok hN).1 (fun ad => by rw [lg_len, cat_map]; exact hc1.2) j1
                        refine J_k (c' := 0) (s' := 0) hd hn (kAs_eq hk) hN (by unfold catB; rw [cat_map]; exact decide_eq_true hc1.1) (Nat.le_refl _) (Nat.le_refl _) (Or.inl (fun v2 hp2 hq => by rw [hq.2, List.length_map, List.length_map]; exact hlen)) C (fun v2 hp2 hq => ?_)
                        obtain ⟨rfl, rfl⟩ := hq
                        have j2 := ih _ _ _ _ _ _ _ _ h _ hM
                        rw [List.map_append] at j2
                        have e2 : (v1.map (sv ρ)).toList = v1.toList.map (sv ρ) := by cases v1 <;> rfl
                        rw [e2]
                        exact j2
                      · cases h
                    · cases h
                  · cases h
                · cases h
              · split at h
                · rename_i v1 st1 hx
                  split at h
                  · rename_i hc1
                    exact J_x hd hn (xAs_eq hx) (by unfold catB; rw [cat_map]; exact decide_eq_true hc1.1) hc1.2 (Nat.le_refl _) (Nat.le_refl _) (ih _ _ _ _ _ _ _ _ h _ hM)
                  · cases h
                · cases h
    · cases h
theorem Ct_evs {I : List (Int32 × Int32)} {ρ : Nat → Int32} (hI : inI I ρ) {f d k : Nat} {M : MT} {as : List SV} {hp hp' : List SC} {v : Option SV} (hM : mtL[k]? = some M) (hs : (as.map catS).sum ≤ M.ml) (h : evs I f d k 0 (entS as M.ml) [] hp = some (v, hp')) : Ct M d 0 0 (as.map (sv ρ)) (hp.map (sc ρ)) (fun v2 hp2 => v2 = v.map (sv ρ) ∧ hp2 = hp'.map (sc ρ)) := by
  have j := evs_J hI _ _ _ _ _ _ _ _ _ h M hM
  rw [entS_eq] at j
  exact Ct_of_J (mt_ok hM).1 (fun ad => by rw [lg_len, cat_map]; exact hs) j
