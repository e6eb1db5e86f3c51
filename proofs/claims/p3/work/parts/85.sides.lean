/-! ===== one side of the law: an object within its general heap, and numbers of it that are followed ===== -/
def SETn : List Nat := [0, 1, 5, 6, 7]
def Sd (Bs : BD) (g : AHa) (f : Nat → Int) (h : AH) : Prop := ∃ ρ, okB Bs ρ ∧ rH Bs ρ g h ∧ ∀ j ∈ SETn, ρ j = f j
def argN : Nat → Nat → List AVa
  | _, 0 => []
  | p, n + 1 => .inl (some p, 0) :: argN (p + 1) n
def fbs (B : BD) (fb : List (Nat × (Int × Int))) : BD := fb.foldl (fun B q => B.set q.1 q.2) B
def cLf (k d : Nat) (Bs : BD) (g : AHa) (fb : List (Nat × (Int × Int))) (bs : List (Int × Int)) (os : List (BD × Option AVa × AHa)) : CTR := (k, d, fbs Bs fb ++ bs, .inr (.inl 0) :: argN Bs.length bs.length, g, os)
def argsIn : List Int32 → List (Int × Int) → Prop
  | [], [] => True
  | a :: as, b :: bs => (b.1 ≤ a.toInt ∧ a.toInt ≤ b.2) ∧ argsIn as bs
  | _, _ => False
def fbIn (f : Nat → Int) (fb : List (Nat × (Int × Int))) : Prop := ∀ q ∈ fb, q.2.1 ≤ f q.1 ∧ f q.1 ≤ q.2.2
theorem argsIn_len : ∀ {as : List Int32} {bs : List (Int × Int)}, argsIn as bs → as.length = bs.length
  | [], [], _ => rfl
  | _ :: _, _ :: _, h => by rw [List.length_cons, List.length_cons, argsIn_len h.2]
  | [], _ :: _, h => h.elim
  | _ :: _, [], h => h.elim
theorem argsIn_at : ∀ {as : List Int32} {bs : List (Int × Int)} (i : Nat) {b : Int × Int}, argsIn as bs → bs[i]? = some b → b.1 ≤ (as.getD i 0).toInt ∧ (as.getD i 0).toInt ≤ b.2
  | [], [], i, b, _, h => by simp at h
  | a :: as, c :: bs, 0, b, h, hb => by cases hb; exact h.1
  | a :: as, c :: bs, i + 1, b, h, hb => by
    rw [List.getElem?_cons_succ] at hb
    have := argsIn_at i h.2 hb
    rw [List.getD_cons_succ]
    exact this
  | [], _ :: _, _, _, h, _ => h.elim
  | _ :: _, [], _, _, h, _ => h.elim
theorem argsIn_any : ∀ (as : List Int32), argsIn as (List.replicate as.length ((-2147483648), 2147483647))
  | [] => trivial
  | a :: as => ⟨⟨int32_lo a, int32_hi a⟩, argsIn_any as⟩
theorem fbs_len (fb : List (Nat × (Int × Int))) : ∀ (B : BD), (fbs B fb).length = B.length := by
  induction fb with
  | nil => intro B; rfl
  | cons q fb ih =>
    intro B
    show (fbs (B.set q.1 q.2) fb).length = B.length
    rw [ih, List.length_set]
theorem fbs_ok {ρ : Nat → Int} (fb : List (Nat × (Int × Int))) : ∀ {B : BD}, okB B ρ → (∀ q ∈ fb, q.2.1 ≤ ρ q.1 ∧ ρ q.1 ≤ q.2.2) → okB (fbs B fb) ρ := by
  induction fb with
  | nil => intro B h _; exact h
  | cons q fb ih =>
    intro B h hq
    exact ih (set_okB h (hq q List.mem_cons_self)) (fun x hx => hq x (List.mem_cons_of_mem _ hx))
theorem rS_args {B : BD} {ρ : Nat → Int} : ∀ (n p : Nat) (as : List Int32), as.length = n → (∀ i, i < n → p + i < B.length ∧ (as.getD i 0).toInt = ρ (p + i)) → rS B ρ (argN p n) (as.map .int)
  | 0, _, [], _, _ => trivial
  | n + 1, p, a :: as, hl, h => by
    have h0 := h 0 (by omega)
    refine ⟨⟨fun j hj => by cases hj; exact h0.1, ?_⟩, rS_args n (p + 1) as (by simpa using hl) (fun i hi => ?_)⟩
    · show a.toInt = ρ p + 0
      rw [Int.add_zero]
      exact h0.2
    · have := h (i + 1) (by omega)
      rw [List.getD_cons_succ] at this
      rw [show p + 1 + i = p + (i + 1) by omega]
      exact this
  | 0, _, _ :: _, hl, _ => by simp at hl
  | _ + 1, _, [], hl, _ => by simp at hl
def sgG (g h : AHa) : Nat → AN := fun j => ((colZ colC g h).lookup j).getD (none, 0)
def spc (n : AN) (m : Nat) : Bool := match n.1 with
  | none => true
  | some j => SETn.contains j || (decide (100 ≤ j) && decide (j - 100 < m))
def chOk (ch : List (Nat × AN)) : Bool := SETn.all (fun j => spc ((ch.lookup j).getD (some j, 0)) 0)
/-- behind the call the object lies within its general heap, and the followed numbers are as told -/
def pO (Bs : BD) (g : AHa) (o : BD × Option AVa × AHa) (ch : List (Nat × AN)) : Bool := bOk o.1 (sgG g o.2.2) Bs && (zipB (cOkA o.1 (sgG g o.2.2) Bs.length) g o.2.2 && SETn.all (fun j => decide (sgG g o.2.2 j = (ch.lookup j).getD (some j, 0))))
def spf (f : Nat → Int) (as : List Int32) : Nat → Int := fun j => if 100 ≤ j then (as.getD (j - 100) 0).toInt else f j
def fch (f : Nat → Int) (ch : List (Nat × AN)) : Nat → Int := fun j => den f ((ch.lookup j).getD (some j, 0))
theorem SETn_lt {j : Nat} (h : j ∈ SETn) : j < 8 := by
  simp [SETn] at h
  omega
section SIDE
variable {Bs : BD} {g : AHa} {k d : Nat} {N : MT} {fb : List (Nat × (Int × Int))} {bs : List (Int × Int)} {os : List (BD × Option AVa × AHa)} {ch : List (Nat × AN)} {f : Nat → Int} {h : AH} {as : List Int32}
/-- the core: a call, by its contract -/
theorem side (hN : mtL[k]? = some N) (hd : d ≤ 12) (hc : ctrOk (cLf k d Bs g fb bs os)) (h8 : 8 ≤ Bs.length) (hb : fb.all (fun q => SETn.contains q.1) = true) (hch : chOk ch = true) (hchk : os.all (fun o => pO Bs g o ch) = true) (hS : Sd Bs g f h) (hfb : fbIn f fb) (hargs : argsIn as bs) :
    Ct N 12 0 0 (.ref 0 :: as.map .int) h (fun v hp' => (∃ o ∈ os, ∃ ρ', okB o.1 ρ' ∧ (∀ j ∈ SETn, ρ' j = f j) ∧ (∀ i, i < bs.length → ρ' (Bs.length + i) = (as.getD i 0).toInt) ∧ rO o.1 ρ' o.2.1 v) ∧ hp'.length = g.length ∧ Sd Bs g (fch f ch) hp') := by
  obtain ⟨ρ, hB, hH, hf⟩ := hS
  have hlen := argsIn_len hargs
  have e : ext Bs ρ (fbs Bs fb ++ bs) (fun j => if j < Bs.length then ρ j else (as.getD (j - Bs.length) 0).toInt) := ⟨by rw [List.length_append, fbs_len]; omega, fun j hj => if_pos hj⟩
  have hB1 : okB (fbs Bs fb ++ bs) (fun j => if j < Bs.length then ρ j else (as.getD (j - Bs.length) 0).toInt) := by
    have hB2 : okB (fbs Bs fb) ρ := fbs_ok fb hB (fun q hq => by
      have h1 := List.all_eq_true.mp hb q hq
      have h2 := hf q.1 (by simpa using h1)
      rw [h2]
      exact hfb q hq)
    intro j b hj
    by_cases hl : j < Bs.length
    · rw [List.getElem?_append_left (by rw [fbs_len]; exact hl)] at hj
      simp only [if_pos hl]
      exact hB2 j b hj
    · rw [List.getElem?_append_right (by rw [fbs_len]; omega), fbs_len] at hj
      simp only [if_neg hl]
      exact argsIn_at _ hargs hj
  refine Ct_weak (Ct_deep (hc N hN _ (.ref 0 :: as.map .int) h hB1 ⟨rfl, rS_args bs.length Bs.length as hlen (fun i hi => ⟨by show _ < (fbs Bs fb ++ bs).length; rw [List.length_append, fbs_len]; omega, by rw [if_neg (by omega), show Bs.length + i - Bs.length = i by omega]⟩)⟩ (rH_ext e hH)) hd) (fun v hp' hq => ?_)
  obtain ⟨o, ho, ρ', g1, g2, g3, g4⟩ := hq
  have hr : ∀ j, j < Bs.length + bs.length → ρ' j = (if j < Bs.length then ρ j else (as.getD (j - Bs.length) 0).toInt) := fun j hj => g2.2 j (by show _ < (fbs Bs fb ++ bs).length; rw [List.length_append, fbs_len]; exact hj)
  have hset : ∀ j ∈ SETn, ρ' j = f j := fun j hj => by
    have := SETn_lt hj
    rw [hr j (by omega), if_pos (by omega)]
    exact hf j hj
  have hp := List.all_eq_true.mp hchk o ho
  unfold pO at hp
  rw [Bool.and_eq_true, Bool.and_eq_true] at hp
  obtain ⟨p1, p2, p3⟩ := hp
  have hH2 := hOk_ok (Bt := Bs) g1 p2 g4
  refine ⟨⟨o, ho, ρ', g1, hset, fun i hi => by rw [hr _ (by omega), if_neg (by omega), show Bs.length + i - Bs.length = i by omega], g3⟩, hH2.1.symm, ρt (sgG g o.2.2) ρ', bOk_ok g1 p1, hH2, fun j hj => ?_⟩
  have h5 := of_decide_eq_true (List.all_eq_true.mp p3 j hj)
  have h6 := List.all_eq_true.mp hch j hj
  unfold ρt fch
  rw [h5]
  unfold spc at h6
  unfold den
  cases hn : ((ch.lookup j).getD (some j, 0)).1 with
  | none => rfl
  | some i =>
    rw [hn] at h6
    simp only [Bool.or_eq_true, Bool.and_eq_true, decide_eq_true_eq] at h6
    rcases h6 with h6 | h6
    · simp only
      rw [hset i (by simpa using h6)]
    · omega
def kndB (lg : Bool) (a : Option AVa) : Bool := match lg, a with
  | false, some (.inl _) => true
  | true, some (.inr (.inr _)) => true
  | _, _ => false
def kndV (lg : Bool) (w : Value) : Prop := (lg = false → ∃ z, w = .int z) ∧ (lg = true → ∃ z, w = .long z)
theorem kndB_ok {lg : Bool} {B : BD} {ρ : Nat → Int} {a : Option AVa} {v : Option Value} (h : kndB lg a = true) (hO : rO B ρ a v) : ∃ w, v = some w ∧ kndV lg w := by
  match lg, a, v, h, hO with
  | false, some (.inl n), some w, _, hO =>
    obtain ⟨x, rfl, -⟩ := rV_int hO
    exact ⟨_, rfl, fun _ => ⟨x, rfl⟩, fun q => by cases q⟩
  | true, some (.inr (.inr n)), some w, _, hO =>
    obtain ⟨x, rfl, -⟩ := rV_long hO
    exact ⟨_, rfl, fun q => (by cases q), fun _ => ⟨x, rfl⟩⟩
/-- a call of which only the kind of its answer is told -/
theorem safe (lg : Bool) (hN : mtL[k]? = some N) (hd : d ≤ 12) (hc : ctrOk (cLf k d Bs g fb bs os)) (h8 : 8 ≤ Bs.length) (hb : fb.all (fun q => SETn.contains q.1) = true) (hch : chOk ch = true) (hchk : os.all (fun o => pO Bs g o ch) = true) (hk : os.all (fun o => kndB lg o.2.1) = true) (hS : Sd Bs g f h) (hfb : fbIn f fb) (hargs : argsIn as bs) :
    Ct N 12 0 0 (.ref 0 :: as.map .int) h (fun v hp' => (∃ w, v = some w ∧ kndV lg w) ∧ hp'.length = g.length ∧ Sd Bs g (fch f ch) hp') := by
  refine Ct_weak (side hN hd hc h8 hb hch hchk hS hfb hargs) (fun v hp' hq => ⟨?_, hq.2⟩)
  obtain ⟨⟨o, ho, ρ', g1, -, -, g4⟩, -⟩ := hq
  exact kndB_ok (List.all_eq_true.mp hk o ho) g4
def tr (p : Nat) (n : AN) : AN := match n.1 with
  | some j => if 100 ≤ j then (some (p + (j - 100)), n.2) else n
  | none => n
/-- a call whose answer is told -/
theorem leaf {ans : AN} (hN : mtL[k]? = some N) (hd : d ≤ 12) (hc : ctrOk (cLf k d Bs g fb bs os)) (h8 : 8 ≤ Bs.length) (hb : fb.all (fun q => SETn.contains q.1) = true) (hch : chOk ch = true) (hchk : os.all (fun o => pO Bs g o ch) = true) (ha : spc ans bs.length = true) (hk : os.all (fun o => decide (o.2.1 = some (.inl (tr Bs.length ans)))) = true) (hS : Sd Bs g f h) (hfb : fbIn f fb) (hargs : argsIn as bs) :
    Ct N 12 0 0 (.ref 0 :: as.map .int) h (fun v hp' => v = some (.int (Int32.ofInt (den (spf f as) ans))) ∧ hp'.length = g.length ∧ Sd Bs g (fch f ch) hp') := by
  refine Ct_weak (side hN hd hc h8 hb hch hchk hS hfb hargs) (fun v hp' hq => ⟨?_, hq.2⟩)
  obtain ⟨⟨o, ho, ρ', g1, g2, g3, g4⟩, -⟩ := hq
  have h1 := of_decide_eq_true (List.all_eq_true.mp hk o ho)
  rw [h1] at g4
  match v, g4 with
  | some w, g4 =>
    obtain ⟨x, rfl, hx⟩ := rV_int g4
    have e : x.toInt = den (spf f as) ans := by
      rw [hx.2]
      unfold tr spf
      unfold spc at ha
      unfold den
      cases hn : ans.1 with
      | none => simp only [hn]
      | some j =>
        rw [hn] at ha
        simp only [Bool.or_eq_true, Bool.and_eq_true, decide_eq_true_eq] at ha
        by_cases hj : 100 ≤ j
        · simp only [if_pos hj]
          rcases ha with ha | ha
          · have := SETn_lt (j := j) (by simpa using ha)
            omega
          · rw [g3 _ ha.2]
        · simp only [if_neg hj, hn]
          rcases ha with ha | ha
          · rw [g2 j (by simpa using ha)]
          · omega
    rw [← e, ofInt_toInt]
end SIDE
theorem Sd_bnd {Bs : BD} {g : AHa} {f : Nat → Int} {h : AH} (hS : Sd Bs g f h) {j : Nat} {b : Int × Int} (hj : j ∈ SETn) (hb : Bs[j]? = some b) : b.1 ≤ f j ∧ f j ≤ b.2 := by
  obtain ⟨ρ, hB, -, hf⟩ := hS
  rw [← hf j hj]
  exact hB j b hb
theorem fbIn0 {f : Nat → Int} : fbIn f [] := fun _ h => absurd h List.not_mem_nil
theorem fbIn1 {f : Nat → Int} {j : Nat} {lo hi : Int} (h1 : lo ≤ f j) (h2 : f j ≤ hi) : fbIn f [(j, (lo, hi))] := fun q hq => by
  have := List.mem_singleton.mp hq
  subst this
  exact ⟨h1, h2⟩
theorem knd_int (z : Int32) : kndV false (.int z) := ⟨fun _ => ⟨z, rfl⟩, fun q => by cases q⟩
/-! ===== an answer told, by evaluation alone ===== -/
def kLf (Bs : BD) (g : AHa) (ch : List (Nat × AN)) (ans : AN) : KT := fun B a ha => pO Bs g (B, a, ha) ch && decide (a = some (.inl (tr Bs.length ans)))
def kLs (Bs : BD) (g : AHa) (ch : List (Nat × AN)) : KT := fun B a ha => pO Bs g (B, a, ha) ch && kndB false a
section SIDEK
variable {O : ORA} {Bs : BD} {g : AHa} {k fl : Nat} {N : MT} {K : KT} {fb : List (Nat × (Int × Int))} {bs : List (Int × Int)} {ch : List (Nat × AN)} {f : Nat → Int} {h : AH} {as : List Int32}
def lfB (O : ORA) (fl k ml : Nat) (Bs : BD) (g : AHa) (fb : List (Nat × (Int × Int))) (bs : List (Int × Int)) (K : KT) : Bool := ai O fl true noCut 12 k 0 (fbs Bs fb ++ bs) (entA (.inr (.inl 0) :: argN Bs.length bs.length) ml) [] g K && (decide (((.inr (.inl 0) :: argN Bs.length bs.length).map catA).sum ≤ ml) && (decide (8 ≤ Bs.length) && fb.all (fun q => SETn.contains q.1)))
theorem sideK (hO : oraOk O) (hN : mtL[k]? = some N) (hK : ∀ B a ha, K B a ha = true → pO Bs g (B, a, ha) ch = true) (hch : chOk ch = true) (hL : lfB O fl k N.ml Bs g fb bs K = true) (hS : Sd Bs g f h) (hfb : fbIn f fb) (hargs : argsIn as bs) :
    Ct N 12 0 0 (.ref 0 :: as.map .int) h (fun v hp' => (∃ B a ha ρ', K B a ha = true ∧ okB B ρ' ∧ (∀ j ∈ SETn, ρ' j = f j) ∧ (∀ i, i < bs.length → ρ' (Bs.length + i) = (as.getD i 0).toInt) ∧ rO B ρ' a v) ∧ hp'.length = g.length ∧ Sd Bs g (fch f ch) hp') := by
  unfold lfB at hL
  rw [Bool.and_eq_true, Bool.and_eq_true, Bool.and_eq_true, decide_eq_true_eq, decide_eq_true_eq] at hL
  obtain ⟨hent, hsum, h8, hb⟩ := hL
  obtain ⟨ρ, hB, hH, hf⟩ := hS
  have hlen := argsIn_len hargs
  have e : ext Bs ρ (fbs Bs fb ++ bs) (fun j => if j < Bs.length then ρ j else (as.getD (j - Bs.length) 0).toInt) := ⟨by rw [List.length_append, fbs_len]; omega, fun j hj => if_pos hj⟩
  have hB1 : okB (fbs Bs fb ++ bs) (fun j => if j < Bs.length then ρ j else (as.getD (j - Bs.length) 0).toInt) := by
    have hB2 : okB (fbs Bs fb) ρ := fbs_ok fb hB (fun q hq => by
      have h1 := List.all_eq_true.mp hb q hq
      have h2 := hf q.1 (by simpa using h1)
      rw [h2]
      exact hfb q hq)
    intro j b hj
    by_cases hl : j < Bs.length
    · rw [List.getElem?_append_left (by rw [fbs_len]; exact hl)] at hj
      simp only [if_pos hl]
      exact hB2 j b hj
    · rw [List.getElem?_append_right (by rw [fbs_len]; omega), fbs_len] at hj
      simp only [if_neg hl]
      exact argsIn_at _ hargs hj
  have hSv : rS (fbs Bs fb ++ bs) (fun j => if j < Bs.length then ρ j else (as.getD (j - Bs.length) 0).toInt) (.inr (.inl 0) :: argN Bs.length bs.length) (.ref 0 :: as.map .int) := ⟨rfl, rS_args bs.length Bs.length as hlen (fun i hi => ⟨by show _ < (fbs Bs fb ++ bs).length; rw [List.length_append, fbs_len]; omega, by rw [if_neg (by omega), show Bs.length + i - Bs.length = i by omega]⟩)⟩
  refine Ct_of_J (mt_ok hN).1 (fun ad => by rw [lg_len, cat_sum hSv]; exact hsum) ?_
  refine ai_ok hO fl true noCut 12 k 0 _ _ [] g K hent N hN _ _ [] h _ hB1 (entA_ok hSv _) trivial (rH_ext e hH) ?_ (fun pc chk hc => by cases hc)
  intro B' ρ' a v ha' hp' hk hB' he hO' hH'
  have hr : ∀ j, j < Bs.length + bs.length → ρ' j = (if j < Bs.length then ρ j else (as.getD (j - Bs.length) 0).toInt) := fun j hj => he.2 j (by show _ < (fbs Bs fb ++ bs).length; rw [List.length_append, fbs_len]; exact hj)
  have hset : ∀ j ∈ SETn, ρ' j = f j := fun j hj => by
    have := SETn_lt hj
    rw [hr j (by omega), if_pos (by omega)]
    exact hf j hj
  have hp := hK B' a ha' hk
  unfold pO at hp
  rw [Bool.and_eq_true, Bool.and_eq_true] at hp
  obtain ⟨p1, p2, p3⟩ := hp
  have hH2 := hOk_ok (Bt := Bs) hB' p2 hH'
  refine ⟨⟨B', a, ha', ρ', hk, hB', hset, fun i hi => by rw [hr _ (by omega), if_neg (by omega), show Bs.length + i - Bs.length = i by omega], hO'⟩, hH2.1.symm, ρt (sgG g ha') ρ', bOk_ok hB' p1, hH2, fun j hj => ?_⟩
  have h5 := of_decide_eq_true (List.all_eq_true.mp p3 j hj)
  have h6 := List.all_eq_true.mp hch j hj
  unfold ρt fch
  rw [h5]
  unfold spc at h6
  unfold den
  cases hn : ((ch.lookup j).getD (some j, 0)).1 with
  | none => rfl
  | some i =>
    rw [hn] at h6
    simp only [Bool.or_eq_true, Bool.and_eq_true, decide_eq_true_eq] at h6
    rcases h6 with h6 | h6
    · simp only
      rw [hset i (by simpa using h6)]
    · omega
theorem leafK {ans : AN} (hO : oraOk O) (hN : mtL[k]? = some N) (hch : chOk ch = true) (ha : spc ans bs.length = true) (hL : lfB O fl k N.ml Bs g fb bs (kLf Bs g ch ans) = true) (hS : Sd Bs g f h) (hfb : fbIn f fb) (hargs : argsIn as bs) :
    Ct N 12 0 0 (.ref 0 :: as.map .int) h (fun v hp' => v = some (.int (Int32.ofInt (den (spf f as) ans))) ∧ hp'.length = g.length ∧ Sd Bs g (fch f ch) hp') := by
  refine Ct_weak (sideK hO hN (fun B a ha q => by unfold kLf at q; rw [Bool.and_eq_true] at q; exact q.1) hch hL hS hfb hargs) (fun v hp' hq => ⟨?_, hq.2⟩)
  obtain ⟨⟨B, a, hh, ρ', hk, g1, g2, g3, g4⟩, -⟩ := hq
  unfold kLf at hk
  rw [Bool.and_eq_true, decide_eq_true_eq] at hk
  rw [hk.2] at g4
  match v, g4 with
  | some w, g4 =>
    obtain ⟨x, rfl, hx⟩ := rV_int g4
    have e : x.toInt = den (spf f as) ans := by
      rw [hx.2]
      unfold tr spf
      unfold spc at ha
      unfold den
      cases hn : ans.1 with
      | none => simp only [hn]
      | some j =>
        rw [hn] at ha
        simp only [Bool.or_eq_true, Bool.and_eq_true, decide_eq_true_eq] at ha
        by_cases hj : 100 ≤ j
        · simp only [if_pos hj]
          rcases ha with ha | ha
          · have := SETn_lt (j := j) (by simpa using ha)
            omega
          · rw [g3 _ ha.2]
        · simp only [if_neg hj, hn]
          rcases ha with ha | ha
          · rw [g2 j (by simpa using ha)]
          · omega
    rw [← e, ofInt_toInt]
theorem safeK (hO : oraOk O) (hN : mtL[k]? = some N) (hch : chOk ch = true) (hL : lfB O fl k N.ml Bs g fb bs (kLs Bs g ch) = true) (hS : Sd Bs g f h) (hfb : fbIn f fb) (hargs : argsIn as bs) :
    Ct N 12 0 0 (.ref 0 :: as.map .int) h (fun v hp' => (∃ w, v = some w ∧ kndV false w) ∧ hp'.length = g.length ∧ Sd Bs g (fch f ch) hp') := by
  refine Ct_weak (sideK hO hN (fun B a ha q => by unfold kLs at q; rw [Bool.and_eq_true] at q; exact q.1) hch hL hS hfb hargs) (fun v hp' hq => ⟨?_, hq.2⟩)
  obtain ⟨⟨B, a, hh, ρ', hk, g1, g2, g3, g4⟩, -⟩ := hq
  unfold kLs at hk
  rw [Bool.and_eq_true] at hk
  exact kndB_ok hk.2 g4
end SIDEK
