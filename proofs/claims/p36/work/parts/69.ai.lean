/-! ===== the abstract evaluator ===== -/
def xAa (B : BD) (cn : Nat) (i : Instr) (sa : List AVa) : Option (BD × AN × List AVa) := match i with
  | .invokestatic idx => match mRes cn idx, sa with
    | some (kd, _), .inl b :: .inl a :: s =>
      if kd = 7 then some ((newN B (min (bnd B a).1 (bnd B b).1) (min (bnd B a).2 (bnd B b).2)).1, (newN B (min (bnd B a).1 (bnd B b).1) (min (bnd B a).2 (bnd B b).2)).2, s)
      else if kd = 8 then some ((newN B (max (bnd B a).1 (bnd B b).1) (max (bnd B a).2 (bnd B b).2)).1, (newN B (max (bnd B a).1 (bnd B b).1) (max (bnd B a).2 (bnd B b).2)).2, s)
      else none
    | _, _ => none
  | _ => none
theorem xAa_ok {B B' : BD} {ρ : Nat → Int} (hB : okB B ρ) {cn : Nat} {i : Instr} {sa s : List AVa} {st : List Value} (hS : rS B ρ sa st) {n : AN} (h : xAa B cn i sa = some (B', n, s)) : ∃ ρ' z sv, okB B' ρ' ∧ ext B ρ B' ρ' ∧ xA cn i st = (some (.int z), sv) ∧ rN B' ρ' n z ∧ rS B' ρ' s sv := by
  cases i with
  | invokestatic idx =>
    simp only [xAa] at h
    split at h
    · rename_i kd e0 b a s1 h0
      obtain ⟨v, vs, rfl, hv, hr⟩ := rS_cons hS
      obtain ⟨u, us, rfl, hu, hr2⟩ := rS_cons hr
      obtain ⟨y, rfl, hy⟩ := rV_int hv
      obtain ⟨x, rfl, hx⟩ := rV_int hu
      have b1 := bnd_ok hB hx
      have b2 := bnd_ok hB hy
      split at h
      · rename_i hk
        cases h
        obtain ⟨ρ', g1, g2, g3⟩ := newN_ok hB (lo := min (bnd B a).1 (bnd B b).1) (hi := min (bnd B a).2 (bnd B b).2) (x := if y < x then y else x) (by split <;> omega) (by
          split
          · rename_i q; rw [Int32.lt_iff_toInt_lt] at q; omega
          · rename_i q; rw [Int32.lt_iff_toInt_lt] at q; omega)
        exact ⟨ρ', _, us, g1, g2, by simp only [xA, h0, if_pos hk], g3, rS_ext g2 hr2⟩
      · rename_i hk1
        split at h
        · rename_i hk
          cases h
          obtain ⟨ρ', g1, g2, g3⟩ := newN_ok hB (lo := max (bnd B a).1 (bnd B b).1) (hi := max (bnd B a).2 (bnd B b).2) (x := if x < y then y else x) (by
            split
            · rename_i q; rw [Int32.lt_iff_toInt_lt] at q; omega
            · rename_i q; rw [Int32.lt_iff_toInt_lt] at q; omega) (by split <;> omega)
          exact ⟨ρ', _, us, g1, g2, by simp only [xA, h0, if_neg hk1, if_pos hk], g3, rS_ext g2 hr2⟩
        · cases h
    · cases h
  | _ => cases h
def aBr (B : BD) (i : Instr) (pc : Nat) (sa : List AVa) : Option (Option BD × Option BD × Nat × List AVa) := match i with
  | .ifCond c off => match sa with
    | .inl a :: s => (tgt pc off).map (fun t => (cmpT B c a (none, 0), cmpF B c a (none, 0), t, s))
    | _ => none
  | .if_icmp c off => match sa with
    | .inl b :: .inl a :: s => (tgt pc off).map (fun t => (cmpT B c a b, cmpF B c a b, t, s))
    | _ => none
  | _ => none
theorem aBr_ok {B : BD} {ρ : Nat → Int} (hB : okB B ρ) {i : Instr} {pc : Nat} {sa s : List AVa} {st : List Value} (hS : rS B ρ sa st) {bt bf : Option BD} {t : Nat} (h : aBr B i pc sa = some (bt, bf, t, s)) : ∃ b sv, bA i pc st = some (b, t, sv) ∧ rS B ρ s sv ∧ (b = true → ∃ B', bt = some B' ∧ okB B' ρ ∧ ext B ρ B' ρ) ∧ (b = false → ∃ B', bf = some B' ∧ okB B' ρ ∧ ext B ρ B' ρ) := by
  cases i with
  | ifCond c off =>
    simp only [aBr] at h
    split at h
    · obtain ⟨t1, ht, he⟩ := Option.map_eq_some_iff.mp h
      cases he
      obtain ⟨v, vs, rfl, hv, hr⟩ := rS_cons hS
      obtain ⟨x, rfl, hx⟩ := rV_int hv
      have h0 : rN B ρ (none, 0) 0 := ⟨fun j hj => (by cases hj), Int32.toInt_zero⟩
      exact ⟨_, vs, by simp only [bA, ht]; rfl, hr, fun q => cmpT_ok hB hx h0 q, fun q => cmpF_ok hB hx h0 q⟩
    · cases h
  | if_icmp c off =>
    simp only [aBr] at h
    split at h
    · obtain ⟨t1, ht, he⟩ := Option.map_eq_some_iff.mp h
      cases he
      obtain ⟨v, vs, rfl, hv, hr⟩ := rS_cons hS
      obtain ⟨u, us, rfl, hu, hr2⟩ := rS_cons hr
      obtain ⟨y, rfl, hy⟩ := rV_int hv
      obtain ⟨x, rfl, hx⟩ := rV_int hu
      exact ⟨_, us, by simp only [bA, ht]; rfl, hr2, fun q => cmpT_ok hB hx hy q, fun q => cmpF_ok hB hx hy q⟩
    · cases h
  | _ => cases h
abbrev KT : Type := BD → Option AVa → AHa → Bool
abbrev CUT : Type := Nat → Option (BD → List (Option AVa) → AHa → Bool)
/-- what a call may come to: alternatives -/
abbrev ORA : Type := Nat → Nat → BD → List AVa → AHa → Option (List (BD × Option AVa × AHa))
def noCut : CUT := fun _ => none
def noORA : ORA := fun _ _ _ _ _ => none
def ai (O : ORA) : Nat → Bool → CUT → Nat → Nat → Nat → BD → List (Option AVa) → List AVa → AHa → KT → Bool
  | 0, _, _, _, _, _, _, _, _, _, _ => false
  | f + 1, go, cut, d, k, pc, B, la, sa, ha, K => match (if go = true then none else cut pc) with
    | some chk => decide (sa = []) && chk B la ha
    | none => match mtL[k]?, (cdL.getD k [])[pc]? with
      | some M, some (some (i, _)) => match aS B i pc la sa with
        | some (B', pc', la', sa') => frN pc' (fun pc' => frBi (chB i) B' (fun B' => frTi (chL i) la' (fun la' => frS sa' (fun sa' => ai O f false cut d k pc' B' la' sa' ha K))))
        | none => match aBr B i pc sa with
          | some (bt, bf, t, s) => (match bt with
            | none => true
            | some B' => frN t (fun t => frB B' (fun B' => ai O f false cut d k t B' la s ha K))) && (match bf with
            | none => true
            | some B' => frN (pc + 3) (fun t => frB B' (fun B' => ai O f false cut d k t B' la s ha K)))
          | none => match aH1 d B M i pc sa ha with
            | some o => frN o.2.1 (fun t => frBi (chB i) o.1 (fun B' => frS o.2.2.1 (fun sa' => frHi (chH i) o.2.2.2 (fun ha' => ai O f false cut d k t B' la sa' ha' K))))
            | none => match aF B i pc sa ha with
              | some L => L.all (fun q => match q with
                | some o => frN o.2.1 (fun t => frB o.1 (fun B' => frS o.2.2.1 (fun sa' => ai O f false cut d k t B' la sa' o.2.2.2 K)))
                | none => false)
              | none => match rAa B M.rt i sa with
                | some a => K B a ha
                | none => match kAa M.cn i sa ha with
                  | some (N, as, s) => match d, mtL[N]? with
                    | d' + 1, some NM => decide ((s.map catA).sum ≤ 8 ∧ (as.map catA).sum ≤ NM.ml) && frS s (fun s => frS as (fun as => match O d' N B as ha with
                      | some L => L.all (fun o => decide (o.2.2.length = ha.length) && frN (pc + 3) (fun t => frB o.1 (fun B' => frS (o.2.1.toList ++ s) (fun sa' => frH o.2.2 (fun ha' => ai O f false cut (d' + 1) k t B' la sa' ha' K)))))
                      | none => frT (entA as NM.ml) (fun la0 => ai O f true noCut d' N 0 B la0 [] ha (fun B' a ha' => decide (ha'.length = ha.length) && frN (pc + 3) (fun t => frS (a.toList ++ s) (fun sa' => ai O f false cut (d' + 1) k t B' la sa' ha' K))))))
                    | _, _ => false
                  | none => match xAa B M.cn i sa with
                    | some (B', n, s) => decide ((s.map catA).sum ≤ 8 ∧ 0 < d) && frN (pc + 3) (fun t => frB B' (fun B' => frS (.inl n :: s) (fun sa' => ai O f false cut d k t B' la sa' ha K)))
                    | none => false
      | _, _ => false
