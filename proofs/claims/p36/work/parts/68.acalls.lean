/-! ===== ends of methods, calls, Math's two, over names ===== -/
def rO (B : BD) (ρ : Nat → Int) (a : Option AVa) (v : Option Value) : Prop := match a, v with
  | none, none => True
  | some a, some v => rV B ρ a v
  | _, _ => False
theorem rO_list {B : BD} {ρ : Nat → Int} {a : Option AVa} {v : Option Value} (h : rO B ρ a v) {s : List AVa} {vs : List Value} (hs : rS B ρ s vs) : rS B ρ (a.toList ++ s) (v.toList ++ vs) := by
  match a, v, h with
  | none, none, _ => exact hs
  | some a, some v, h => exact ⟨h, hs⟩
def rAa (B : BD) (rt : Option FieldType) (i : Instr) (sa : List AVa) : Option (Option AVa) := match i with
  | .ireturn => match sa with
    | [.inl n] => match rt with
      | some .int => some (some (.inl n))
      | some .boolean => if 0 ≤ (bnd B n).1 ∧ (bnd B n).2 ≤ 1 then some (some (.inl n)) else none
      | _ => none
    | _ => none
  | .lreturn => match sa with
    | [.inr (.inr o)] => match rt with
      | some .long => some (some (.inr (.inr o)))
      | _ => none
    | _ => none
  | .areturn => match sa with
    | [.inr (.inl r)] => match rt with
      | some (.object _) => some (some (.inr (.inl r)))
      | some (.array _) => some (some (.inr (.inl r)))
      | _ => none
    | _ => none
  | .return_ => match sa with
    | [] => match rt with
      | none => some none
      | _ => none
    | _ => none
  | _ => none
theorem rS_nil {B : BD} {ρ : Nat → Int} {st : List Value} (h : rS B ρ [] st) : st = [] := by
  match st, h with
  | [], _ => rfl
theorem rAa_ok {B : BD} {ρ : Nat → Int} (hB : okB B ρ) {rt : Option FieldType} {i : Instr} {sa : List AVa} {st : List Value} (hS : rS B ρ sa st) {a : Option AVa} (h : rAa B rt i sa = some a) : ∃ v, rA rt i st = some v ∧ rO B ρ a v := by
  cases i with
  | ireturn =>
    simp only [rAa] at h
    split at h
    · obtain ⟨v, vs, rfl, hv, hr⟩ := rS_cons hS
      obtain ⟨x, rfl, hx⟩ := rV_int hv
      cases rS_nil hr
      split at h
      · cases h; exact ⟨_, rfl, hx⟩
      · split at h
        · rename_i hb
          cases h
          have := bnd_ok hB hx
          have e0 : (0 : Int32).toInt = 0 := by decide
          have e1 : (1 : Int32).toInt = 1 := by decide
          have hx01 : x = 0 ∨ x = 1 := by
            rcases (show x.toInt = 0 ∨ x.toInt = 1 by omega) with q | q
            · left; exact Int32.toInt_inj.mp (by omega)
            · right; exact Int32.toInt_inj.mp (by omega)
          exact ⟨some (.int x), by simp only [rA, if_pos hx01], hx⟩
        · cases h
      · cases h
    · cases h
  | lreturn =>
    simp only [rAa] at h
    split at h
    · obtain ⟨v, vs, rfl, hv, hr⟩ := rS_cons hS
      obtain ⟨x, rfl, hx⟩ := rV_long hv
      cases rS_nil hr
      split at h
      · cases h; exact ⟨_, rfl, hx⟩
      · cases h
    · cases h
  | areturn =>
    simp only [rAa] at h
    split at h
    · obtain ⟨v, vs, rfl, hv, hr⟩ := rS_cons hS
      cases rV_ref hv
      cases rS_nil hr
      split at h
      · cases h; exact ⟨_, rfl, rfl⟩
      · cases h; exact ⟨_, rfl, rfl⟩
      · cases h
    · cases h
  | return_ =>
    simp only [rAa] at h
    split at h
    · cases rS_nil hS
      split at h
      · cases h; exact ⟨none, rfl, trivial⟩
      · cases h
    · cases h
  | _ => cases h
theorem rS_take {B : BD} {ρ : Nat → Int} : ∀ (n : Nat) {as : List AVa} {vs : List Value}, rS B ρ as vs → rS B ρ (as.take n) (vs.take n)
  | 0, _, _, _ => trivial
  | _ + 1, [], [], _ => trivial
  | n + 1, _ :: _, _ :: _, h => ⟨h.1, rS_take n h.2⟩
  | _ + 1, [], _ :: _, h => h.elim
  | _ + 1, _ :: _, [], h => h.elim
theorem rS_drop {B : BD} {ρ : Nat → Int} : ∀ (n : Nat) {as : List AVa} {vs : List Value}, rS B ρ as vs → rS B ρ (as.drop n) (vs.drop n)
  | 0, _, _, h => h
  | _ + 1, [], [], _ => trivial
  | n + 1, _ :: _, _ :: _, h => rS_drop n h.2
  | _ + 1, [], _ :: _, h => h.elim
  | _ + 1, _ :: _, [], h => h.elim
theorem rS_app {B : BD} {ρ : Nat → Int} : ∀ {as bs : List AVa} {vs ws : List Value}, rS B ρ as vs → rS B ρ bs ws → rS B ρ (as ++ bs) (vs ++ ws)
  | [], _, [], _, _, h => h
  | _ :: _, _, _ :: _, _, h, h2 => ⟨h.1, rS_app h.2 h2⟩
  | [], _, _ :: _, _, h, _ => h.elim
  | _ :: _, _, [], _, h, _ => h.elim
theorem rS_rev {B : BD} {ρ : Nat → Int} : ∀ {as : List AVa} {vs : List Value}, rS B ρ as vs → rS B ρ as.reverse vs.reverse
  | [], [], _ => trivial
  | a :: as, v :: vs, h => by
    rw [List.reverse_cons, List.reverse_cons]
    exact rS_app (rS_rev h.2) ⟨h.1, trivial⟩
  | [], _ :: _, h => h.elim
  | _ :: _, [], h => h.elim
def kAa (cn : Nat) (i : Instr) (sa : List AVa) (ha : AHa) : Option (Nat × List AVa × List AVa) := match i with
  | .invokestatic idx => match mRes cn idx with
    | some (kd, N, _) => if (kd = 0 ∨ kd = 1) ∧ npL.getD N 0 ≤ sa.length then some (N, (sa.take (npL.getD N 0)).reverse, sa.drop (npL.getD N 0)) else none
    | none => none
  | .invokevirtual idx => match mRes cn idx with
    | some (kd, N, _) => match sa.drop (npL.getD N 0) with
      | .inr (.inl r) :: s => match ha[r]?, mtL[N]? with
        | some (.inr (.inr (.inr (ci, _)))), some M => if kd = 2 ∧ ci = M.cn ∧ ci < 8 then some (N, .inr (.inl r) :: (sa.take (npL.getD N 0)).reverse, s) else none
        | _, _ => none
      | _ => none
    | none => none
  | _ => none
theorem kAa_ok {B : BD} {ρ : Nat → Int} {cn : Nat} {i : Instr} {sa as s : List AVa} {ha : AHa} {st : List Value} {hp : AH} (hS : rS B ρ sa st) (hH : rH B ρ ha hp) {N : Nat} (h : kAa cn i sa ha = some (N, as, s)) : ∃ av sv, kA cn i st hp = some (N, av, sv) ∧ rS B ρ as av ∧ rS B ρ s sv := by
  cases i with
  | invokestatic idx =>
    simp only [kAa] at h
    split at h
    · rename_i kd N0 a1 h0
      split at h
      · rename_i hc
        cases h
        have hc2 : (kd = 0 ∨ kd = 1) ∧ npL.getD N 0 ≤ st.length := ⟨hc.1, by rw [← rS_len hS]; exact hc.2⟩
        exact ⟨_, _, by simp only [kA, h0, if_pos hc2], rS_rev (rS_take _ hS), rS_drop _ hS⟩
      · cases h
    · cases h
  | invokevirtual idx =>
    simp only [kAa] at h
    split at h
    · rename_i kd N0 a1 h0
      split at h
      · rename_i r s1 hdrop
        split at h
        · rename_i ci fa M0 g0 g1
          split at h
          · rename_i hc
            cases h
            have hd := rS_drop (npL.getD N 0) hS
            rw [hdrop] at hd
            obtain ⟨v, vs, e, hv, hr⟩ := rS_cons hd
            cases rV_ref hv
            obtain ⟨x, q1, q2⟩ := hH.2.1 _ _ g0
            obtain ⟨fs, rfl, -⟩ := rC_obj q2
            exact ⟨.ref r :: (st.take (npL.getD N 0)).reverse, vs, by simp only [kA, h0, e, q1, g1, if_pos hc], ⟨rfl, rS_rev (rS_take _ hS)⟩, hr⟩
          · cases h
        · cases h
      · cases h
    · cases h
  | _ => cases h
def lvaa : Nat → List AVa → List (Nat × AVa)
  | _, [] => []
  | i, v :: vs => (i, v) :: lvaa (if catA v = 2 then i + 2 else i + 1) vs
def entA (as : List AVa) (n : Nat) : List (Option AVa) := (List.range n).map (fun i => (lvaa 0 as).lookup i)
theorem lvaa_ok {B : BD} {ρ : Nat → Int} (k : Nat) : ∀ {as : List AVa} {vs : List Value} (i : Nat), rS B ρ as vs → ∀ a, (lvaa i as).lookup k = some a → ∃ v, (lv_args i vs).lookup k = some v ∧ rV B ρ a v
  | [], [], _, _, a, h => by cases h
  | b :: as, v :: vs, i, hS, a, h => by
    simp only [lvaa, List.lookup_cons] at h
    simp only [lv_args, List.lookup_cons, catA_eq hS.1]
    cases hk : k == i with
    | true => rw [hk] at h; simp only at h ⊢; cases h; exact ⟨v, rfl, hS.1⟩
    | false => rw [hk] at h; simp only at h ⊢; exact lvaa_ok k _ hS.2 a h
  | [], _ :: _, _, h, _, _ => h.elim
  | _ :: _, [], _, h, _, _ => h.elim
theorem entA_ok {B : BD} {ρ : Nat → Int} {as : List AVa} {vs : List Value} (hS : rS B ρ as vs) (n : Nat) : rL B ρ (entA as n) (entL vs n) := by
  refine ⟨by unfold entA entL; simp, fun i a hi => ?_⟩
  unfold entA at hi
  rw [List.getElem?_map] at hi
  cases hr : (List.range n)[i]? with
  | none => rw [hr] at hi; cases hi
  | some j =>
    rw [hr] at hi
    simp only [Option.map_some, Option.some.injEq] at hi
    obtain ⟨v, h1, h2⟩ := lvaa_ok j 0 hS a hi
    refine ⟨v, ?_, h2⟩
    unfold entL
    rw [List.getElem?_map, hr]
    simp only [Option.map_some, h1]
theorem cat_sum {B : BD} {ρ : Nat → Int} : ∀ {as : List AVa} {vs : List Value}, rS B ρ as vs → vs.map (fun v => v.category) = as.map catA
  | [], [], _ => rfl
  | _ :: _, _ :: _, h => by rw [List.map_cons, List.map_cons, catA_eq h.1, cat_sum h.2]
  | [], _ :: _, h => h.elim
  | _ :: _, [], h => h.elim
