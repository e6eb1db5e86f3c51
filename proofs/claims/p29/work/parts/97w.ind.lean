/-! ===== word, pure: a person's coat hangs on the keepings of its own promises alone ===== -/
def RI (k : Int) (wh : Int → Int) (σ τ : ST3) : Prop := σ.1 k = τ.1 k ∧ ∀ p, 0 ≤ p → p < 11 → wh p = k → σ.2.2 p = τ.2.2 p
theorem ri_rf {k : Int} {wh : Int → Int} {σ : ST3} : RI k wh σ σ := ⟨rfl, fun _ _ _ _ => rfl⟩
theorem ri_sy {k : Int} {wh : Int → Int} {σ τ : ST3} (h : RI k wh σ τ) : RI k wh τ σ := ⟨h.1.symm, fun p a b q => (h.2 p a b q).symm⟩
theorem ri_tr {k : Int} {wh : Int → Int} {σ τ υ : ST3} (h : RI k wh σ τ) (g : RI k wh τ υ) : RI k wh σ υ := ⟨h.1.trans g.1, fun p a b q => (h.2 p a b q).trans (g.2 p a b q)⟩
theorem lg_ri {k j b : Int} {c d : Int → Int} (h : c k = d k) : lgF c j b k = lgF d j b k := by
  unfold lgF
  by_cases e : k = j
  · subst e; rw [updI_at, updI_at, h]
  · rw [updI_ne e, updI_ne e, h]
theorem sh_ri {k j b : Int} {c d : Int → Int} (h : c k = d k) : shF c j b k = shF d j b k := by
  unfold shF
  by_cases e : k = j
  · subst e; rw [updI_at, updI_at, h]
  · rw [updI_ne e, updI_ne e, h]
theorem up_ri {k p v : Int} {wh s t : Int → Int} (h : ∀ q, 0 ≤ q → q < 11 → wh q = k → s q = t q) : ∀ q, 0 ≤ q → q < 11 → wh q = k → updI s p v q = updI t p v q := fun q q0 q1 hq => by
  by_cases e : q = p
  · rw [e, updI_at, updI_at]
  · rw [updI_ne e, updI_ne e]; exact h q q0 q1 hq
theorem up_off {k p v : Int} {wh s : Int → Int} (h : ¬ wh p = k) : ∀ q, 0 ≤ q → q < 11 → wh q = k → updI s p v q = s q := fun q _ _ hq => by
  rw [updI_ne (fun e => h (by rw [← e]; exact hq))]
theorem fu_off {k p : Int} {sz wh gr : Int → Int} {σ : ST3} (h : ¬ wh p = k) : RI k wh (fuF sz wh gr p σ) σ := by
  unfold fuF
  split
  · exact ⟨updI_ne (fun e => h e.symm), up_off h⟩
  · exact ri_rf
theorem fu_ri {k p : Int} {sz wh gr : Int → Int} {σ τ : ST3} (p0 : 0 ≤ p) (p1 : p < 11) (h : RI k wh σ τ) : RI k wh (fuF sz wh gr p σ) (fuF sz wh gr p τ) := by
  by_cases hw : wh p = k
  · have e := h.2 p p0 p1 hw
    unfold fuF
    rw [e]
    split
    · refine ⟨?_, up_ri h.2⟩
      show updI σ.1 (wh p) _ k = updI τ.1 (wh p) _ k
      rw [hw, updI_at, updI_at, h.1]
    · exact h
  · exact ri_tr (fu_off hw) (ri_tr h (ri_sy (fu_off hw)))
theorem fa_off {k p : Int} {so wh gr : Int → Int} {σ : ST3} (h : ¬ wh p = k) : RI k wh (faF so wh gr p σ) σ := by
  unfold faF
  split
  · refine ⟨?_, up_off h⟩
    show shF σ.1 (wh p) _ k = σ.1 k
    unfold shF
    exact updI_ne (fun e => h e.symm)
  · exact ri_rf
theorem fa_ri {k p : Int} {so wh gr : Int → Int} {σ τ : ST3} (p0 : 0 ≤ p) (p1 : p < 11) (h : RI k wh σ τ) : RI k wh (faF so wh gr p σ) (faF so wh gr p τ) := by
  by_cases hw : wh p = k
  · have e := h.2 p p0 p1 hw
    unfold faF
    rw [e]
    split
    · exact ⟨sh_ri h.1, up_ri h.2⟩
    · exact h
  · exact ri_tr (fa_off hw) (ri_tr h (ri_sy (fa_off hw)))
/-- an act, with other keepings left out: those of this person alike -/
theorem ac_ri {k u v nh key sub : Int} {so sz wh gr ko lw lm tw tm : Int → Int} {σ τ : ST3} (h : RI k wh σ τ) (hr : (key % 5 = 1 → 0 ≤ ko sub ∧ ko sub < 11) ∧ (key % 5 = 2 → 0 ≤ sub ∧ sub < 11)) (hb : key % 5 = 1 → wh (ko sub) = k → (mAnd (mShr u sub) 1 = 0 ↔ mAnd (mShr v sub) 1 = 0)) : RI k wh (acF so sz wh gr ko lw lm tw tm u nh key sub σ) (acF so sz wh gr ko lw lm tw tm v nh key sub τ) := by
  unfold acF
  split
  · exact ⟨lg_ri h.1, up_ri h.2⟩
  · split
    · rename_i h1
      by_cases hw : wh (ko sub) = k
      · have e := hb h1 hw
        by_cases c : mAnd (mShr u sub) 1 = 0
        · rw [if_pos c, if_pos (e.mp c)]; exact fu_ri (hr.1 h1).1 (hr.1 h1).2 h
        · rw [if_neg c, if_neg (fun d => c (e.mpr d))]; exact h
      · have a : RI k wh (if mAnd (mShr u sub) 1 = 0 then fuF sz wh gr (ko sub) σ else σ) σ := by
          split
          · exact fu_off hw
          · exact ri_rf
        have b : RI k wh (if mAnd (mShr v sub) 1 = 0 then fuF sz wh gr (ko sub) τ else τ) τ := by
          split
          · exact fu_off hw
          · exact ri_rf
        exact ri_tr a (ri_tr h (ri_sy b))
    · split
      · rename_i h2
        exact fa_ri (hr.2 h2).1 (hr.2 h2).2 h
      · split
        · split
          · exact ⟨sh_ri h.1, h.2⟩
          · exact h
        · exact ⟨lg_ri h.1, h.2⟩
theorem fd_ri {k u v nh : Int} {so sz wh gr ko lw lm tw tm : Int → Int} : ∀ {l : AL} {σ τ : ST3}, RI k wh σ τ → (∀ x ∈ l, (x.1 % 5 = 1 → 0 ≤ ko x.2 ∧ ko x.2 < 11) ∧ (x.1 % 5 = 2 → 0 ≤ x.2 ∧ x.2 < 11)) → (∀ x ∈ l, x.1 % 5 = 1 → wh (ko x.2) = k → (mAnd (mShr u x.2) 1 = 0 ↔ mAnd (mShr v x.2) 1 = 0)) → RI k wh (fdA (acF so sz wh gr ko lw lm tw tm u nh) σ l) (fdA (acF so sz wh gr ko lw lm tw tm v nh) τ l)
  | [], _, _, h, _, _ => h
  | x :: l, σ, τ, h, hr, hb => by
    have h1 := ac_ri (so := so) (sz := sz) (gr := gr) (lw := lw) (lm := lm) (tw := tw) (tm := tm) (nh := nh) h (hr x List.mem_cons_self) (hb x List.mem_cons_self)
    exact fd_ri (l := l) h1 (fun y hy => hr y (List.mem_cons_of_mem _ hy)) (fun y hy => hb y (List.mem_cons_of_mem _ hy))
theorem ins_all {P : Int × Int → Prop} {x : Int × Int} {l : AL} (hx : P x) (h : ∀ y ∈ l, P y) : ∀ y ∈ ins x l, P y := fun y hy => by
  unfold ins at hy
  rcases List.mem_append.mp hy with q | q
  · exact h y (List.mem_filter.mp q).1
  · rcases List.mem_cons.mp q with e | e
    · rw [e]; exact hx
    · exact h y (List.mem_filter.mp e).1
theorem foldI_all {P : Int × Int → Prop} {f : Int → AL → AL} {s : AL} {N : Nat} (h0 : ∀ y ∈ s, P y) (hs : ∀ i : Int, 0 ≤ i → i < (N : Int) → ∀ l, (∀ y ∈ l, P y) → ∀ y ∈ f i l, P y) : ∀ n : Nat, n ≤ N → ∀ y ∈ foldI f s n, P y
  | 0, _ => h0
  | n + 1, hn => hs (n : Int) (by omega) (by omega) _ (foldI_all h0 hs n (by omega))
/-- of the acts, those that keep name a keeping that was told and a promise that is there -/
def Pk (m nk : Int) (ko : Int → Int) (y : Int × Int) : Prop := (y.1 % 5 = 1 → 0 ≤ y.2 ∧ y.2 < nk ∧ 0 ≤ ko y.2 ∧ ko y.2 < m) ∧ (y.1 % 5 = 2 → 0 ≤ y.2 ∧ y.2 < m)
theorem aT_pk {n m nk nl nt : Int} {wh md du kd ko ld lw td tw : Int → Int} : ∀ y ∈ aT n m nk nl nt wh md du kd ko ld lw td tw, Pk m nk ko y := by
  unfold aT aL aK aV
  refine foldI_all (N := nt.toNat) (foldI_all (N := nl.toNat) (foldI_all (N := nk.toNat) (foldI_all (N := m.toNat) (fun y hy => by cases hy) (fun i i0 i1 l hl => ?_) _ (Nat.le_refl _)) (fun i i0 i1 l hl => ?_) _ (Nat.le_refl _)) (fun i i0 i1 l hl => ?_) _ (Nat.le_refl _)) (fun i i0 i1 l hl => ?_) _ (Nat.le_refl _)
  · unfold stpV
    split
    · split
      · exact ins_all ⟨fun h => by exfalso; omega, fun h => by exfalso; omega⟩ hl
      · exact ins_all ⟨fun h => by exfalso; omega, fun _ => ⟨i0, by omega⟩⟩ (ins_all ⟨fun h => by exfalso; omega, fun h => by exfalso; omega⟩ hl)
    · exact hl
  · unfold stpK
    split
    · rename_i h
      exact ins_all ⟨fun _ => ⟨i0, by omega, h.1, h.2⟩, fun h => by exfalso; omega⟩ hl
    · exact hl
  · unfold stpT
    split
    · exact ins_all ⟨fun h => by exfalso; omega, fun h => by exfalso; omega⟩ hl
    · exact hl
  · unfold stpT
    split
    · exact ins_all ⟨fun h => by exfalso; omega, fun h => by exfalso; omega⟩ hl
    · exact hl
/-- the year with other people's keepings left out, or not -/
theorem yX_ind {lim n m nk nl nt u v h k : Int} {so sz wh gr md du kd ko ld lw lm td tw tm C T S C' T' S' : Int → Int} (hk : 0 ≤ k ∧ k < 8) (hw : ∀ i, 0 ≤ i → i < nk → 0 ≤ ko i → ko i < m → wh (ko i) = k → (mAnd (mShr u i) 1 = 0 ↔ mAnd (mShr v i) 1 = 0)) (hm : m ≤ 11) (x : yX lim n m nk nl nt u h so sz wh gr md du kd ko ld lw lm td tw tm C T S) (y : yX lim n m nk nl nt v h so sz wh gr md du kd ko ld lw lm td tw tm C' T' S') : C k = C' k := by
  obtain ⟨c, t, s, b1, e1⟩ := x
  obtain ⟨c', t', s', b2, e2⟩ := y
  have h0 : RI k wh (c, t, s) (c', t', s') := ⟨((b1.1 k hk.1 hk.2).1).trans ((b2.1 k hk.1 hk.2).1).symm, fun p p0 p1 _ => (b1.2 p p0 p1).trans (b2.2 p p0 p1).symm⟩
  have h1 := fd_ri (u := u) (v := v) (nh := h) (so := so) (sz := sz) (gr := gr) (ko := ko) (lw := lw) (lm := lm) (tw := tw) (tm := tm) (l := fLt lim (aT n m nk nl nt wh md du kd ko ld lw td tw)) h0 (fun z hz => by
    have hz' : z ∈ aT n m nk nl nt wh md du kd ko ld lw td tw := (List.mem_filter.mp hz).1
    obtain ⟨g1, g2⟩ := aT_pk z hz'
    exact ⟨fun q => ⟨(g1 q).2.2.1, by have := (g1 q).2.2.2; omega⟩, fun q => ⟨(g2 q).1, by have := (g2 q).2; omega⟩⟩) (fun z hz g1 g2 => by
    have hz' : z ∈ aT n m nk nl nt wh md du kd ko ld lw td tw := (List.mem_filter.mp hz).1
    obtain ⟨a1, a2, a3, a4⟩ := (aT_pk z hz').1 g1
    exact hw z.2 a1 a2 a3 a4 g2)
  rw [← e1, ← e2] at h1
  exact h1.1
