/-! ===== the class's course: acts in their order ===== -/
/-- an act entered: those of greater keys go one place on -/
def entS (n n' key sub : Int) (f g f' g' : Int → Int) : Prop := ∃ t, 0 ≤ t ∧ t ≤ n ∧ n' = n + 1 ∧ (∀ i, t ≤ i → i < n → key < f i) ∧ (t = 0 ∨ f (t - 1) ≤ key) ∧ (∀ i, 0 ≤ i → i < t → f' i = f i ∧ g' i = g i) ∧ f' t = key ∧ g' t = sub ∧ (∀ i, t < i → i ≤ n → f' i = f (i - 1) ∧ g' i = g (i - 1))
/-- within the loop -/
def entI (t n key : Int) (f g F G : Int → Int) : Prop := t ≤ n ∧ (∀ i, t ≤ i → i < n → key < f i) ∧ (∀ i, 0 ≤ i → i ≤ t → i < n → F i = f i ∧ G i = g i) ∧ (∀ i, t < i → i ≤ n → F i = f (i - 1) ∧ G i = g (i - 1))
theorem entI_z {n key : Int} {f g : Int → Int} : entI n n key f g f g := ⟨by omega, fun i h1 h2 => by omega, fun i _ _ _ => ⟨rfl, rfl⟩, fun i h1 h2 => by omega⟩
theorem entI_s {t n key : Int} {f g F G : Int → Int} (h : entI t n key f g F G) (h0 : 0 < t) (hk : key < F (t + -1)) : entI (t + -1) n key f g (updI F t (F (t + -1))) (updI G t (G (t + -1))) := by
  obtain ⟨h1, h2, h3, h4⟩ := h
  rw [show t + -1 = t - 1 by omega] at hk ⊢
  have e := h3 (t - 1) (by omega) (by omega) (by omega)
  refine ⟨by omega, fun i i1 i2 => ?_, fun i i1 i2 i3 => ?_, fun i i1 i2 => ?_⟩
  · by_cases q : i = t - 1
    · rw [q, ← e.1]; exact hk
    · exact h2 i (by omega) i2
  · rw [updI_ne (by omega), updI_ne (by omega)]
    exact h3 i i1 (by omega) i3
  · by_cases q : i = t
    · subst q
      rw [updI_at, updI_at]
      exact e
    · rw [updI_ne q, updI_ne q]
      exact h4 i (by omega) i2
theorem entI_e {t n key sub : Int} {f g F G : Int → Int} (h : entI t n key f g F G) (h0 : 0 ≤ t) (hk : t = 0 ∨ F (t + -1) ≤ key) : entS n (n + 1) key sub f g (updI F t key) (updI G t sub) := by
  obtain ⟨h1, h2, h3, h4⟩ := h
  rw [show t + -1 = t - 1 by omega] at hk
  refine ⟨t, h0, h1, rfl, h2, ?_, fun i i1 i2 => ?_, updI_at _ _ _, updI_at _ _ _, fun i i1 i2 => ?_⟩
  · rcases hk with q | q
    · exact Or.inl q
    · by_cases z : t = 0
      · exact Or.inl z
      · right
        have e := h3 (t - 1) (by omega) (by omega) (by omega)
        rw [← e.1]
        exact q
  · rw [updI_ne (by omega), updI_ne (by omega)]
    exact h3 i i1 (by omega) (by omega)
  · rw [updI_ne (by omega), updI_ne (by omega)]
    exact h4 i i1 i2
/-! acts as a list -/
abbrev AL : Type := List (Int × Int)
def ins (x : Int × Int) (l : AL) : AL := l.filter (fun y => decide (y.1 ≤ x.1)) ++ x :: l.filter (fun y => decide (x.1 < y.1))
def srt : AL → Prop
  | [] => True
  | x :: l => (∀ y ∈ l, x.1 ≤ y.1) ∧ srt l
def isL (l : AL) (n : Int) (f g : Int → Int) : Prop := n = l.length ∧ ∀ i : Nat, i < l.length → f (i : Int) = (l.getD i (0, 0)).1 ∧ g (i : Int) = (l.getD i (0, 0)).2
theorem srt_app : ∀ {l k : AL}, srt (l ++ k) ↔ srt l ∧ srt k ∧ ∀ x ∈ l, ∀ y ∈ k, x.1 ≤ y.1
  | [], k => ⟨fun h => ⟨trivial, h, fun x hx => absurd hx List.not_mem_nil⟩, fun h => h.2.1⟩
  | a :: l, k => by
    show ((∀ y ∈ l ++ k, a.1 ≤ y.1) ∧ srt (l ++ k)) ↔ ((∀ y ∈ l, a.1 ≤ y.1) ∧ srt l) ∧ srt k ∧ _
    rw [srt_app (l := l) (k := k)]
    constructor
    · rintro ⟨h1, h2, h3, h4⟩
      refine ⟨⟨fun y hy => h1 y (List.mem_append_left _ hy), h2⟩, h3, fun x hx y hy => ?_⟩
      rcases List.mem_cons.mp hx with rfl | q
      · exact h1 y (List.mem_append_right _ hy)
      · exact h4 x q y hy
    · rintro ⟨⟨h1, h2⟩, h3, h4⟩
      refine ⟨fun y hy => ?_, h2, h3, fun x hx y hy => h4 x (List.mem_cons_of_mem _ hx) y hy⟩
      rcases List.mem_append.mp hy with q | q
      · exact h1 y q
      · exact h4 a List.mem_cons_self y q
theorem srt_filter {p : Int × Int → Bool} : ∀ {l : AL}, srt l → srt (l.filter p)
  | [], _ => trivial
  | a :: l, h => by
    have ih := srt_filter (p := p) (l := l) h.2
    rw [List.filter_cons]
    split
    · exact ⟨fun y hy => h.1 y (List.mem_filter.mp hy).1, ih⟩
    · exact ih
theorem srt_ins {x : Int × Int} {l : AL} (h : srt l) : srt (ins x l) := by
  unfold ins
  refine srt_app.mpr ⟨srt_filter h, ⟨fun y hy => ?_, srt_filter h⟩, fun a ha b hb => ?_⟩
  · have := of_decide_eq_true (List.mem_filter.mp hy).2
    omega
  · have h1 := of_decide_eq_true (List.mem_filter.mp ha).2
    rcases List.mem_cons.mp hb with rfl | q
    · exact h1
    · have h2 := of_decide_eq_true (List.mem_filter.mp q).2
      omega
/-- a sorted list falls into those up to a key and those above it -/
theorem srt_cut {k : Int} : ∀ {l : AL}, srt l → ∃ n : Nat, n ≤ l.length ∧ l.filter (fun y => decide (y.1 ≤ k)) = l.take n ∧ l.filter (fun y => decide (k < y.1)) = l.drop n
  | [], _ => ⟨0, Nat.le_refl _, rfl, rfl⟩
  | a :: l, h => by
    obtain ⟨n, h1, h2, h3⟩ := srt_cut (k := k) h.2
    by_cases ha : a.1 ≤ k
    · refine ⟨n + 1, by simp; exact h1, ?_, ?_⟩
      · rw [List.filter_cons, if_pos (decide_eq_true ha), h2]; rfl
      · rw [List.filter_cons, if_neg (by simp; exact ha), h3]; rfl
    · refine ⟨0, Nat.zero_le _, ?_, ?_⟩
      · show _ = []
        rw [List.filter_eq_nil_iff]
        intro y hy
        rcases List.mem_cons.mp hy with rfl | q
        · simpa using ha
        · have := h.1 y q
          simp
          omega
      · show _ = a :: l
        rw [List.filter_eq_self]
        intro y hy
        rcases List.mem_cons.mp hy with rfl | q
        · simpa using ha
        · have := h.1 y q
          simp
          omega
theorem isL_at {l : AL} {n : Int} {f g : Int → Int} (h : isL l n f g) {i : Int} (h0 : 0 ≤ i) (h1 : i < n) : f i = (l.getD i.toNat (0, 0)).1 ∧ g i = (l.getD i.toNat (0, 0)).2 ∧ l.getD i.toNat (0, 0) ∈ l := by
  have hl : i.toNat < l.length := by have := h.1; omega
  have := h.2 i.toNat hl
  rw [Int.toNat_of_nonneg h0] at this
  refine ⟨this.1, this.2, ?_⟩
  rw [List.getD_eq_getElem?_getD, List.getElem?_eq_getElem hl]
  exact List.getElem_mem hl
theorem getD_app_l {l k : AL} {i : Nat} (h : i < l.length) : (l ++ k).getD i (0, 0) = l.getD i (0, 0) := by
  rw [List.getD_eq_getElem?_getD, List.getD_eq_getElem?_getD, List.getElem?_append_left h]
theorem getD_app_r {l k : AL} {i : Nat} (h : l.length ≤ i) : (l ++ k).getD i (0, 0) = k.getD (i - l.length) (0, 0) := by
  rw [List.getD_eq_getElem?_getD, List.getD_eq_getElem?_getD, List.getElem?_append_right h]
theorem isL_ins {l : AL} {n n' key sub : Int} {f g f' g' : Int → Int} (hs : srt l) (h : isL l n f g) (he : entS n n' key sub f g f' g') : isL (ins (key, sub) l) n' f' g' := by
  obtain ⟨t, t0, tn, e, h1, h2, h3, h4, h5, h6⟩ := he
  obtain ⟨c, c1, c2, c3⟩ := srt_cut (k := key) hs
  have hn := h.1
  -- the cut is t
  have hct : (c : Int) = t := by
    have low : ∀ i : Nat, i < c → (l.getD i (0, 0)).1 ≤ key := fun i hi => by
      have hm : l.getD i (0, 0) ∈ l.take c := by
        rw [List.getD_eq_getElem?_getD, ← List.getElem?_take_of_lt hi, List.getElem?_eq_getElem (by rw [List.length_take]; omega)]
        exact List.getElem_mem _
      rw [← c2] at hm
      exact of_decide_eq_true (List.mem_filter.mp hm).2
    have high : ∀ i : Nat, c ≤ i → i < l.length → key < (l.getD i (0, 0)).1 := fun i hi hl => by
      have hm : l.getD i (0, 0) ∈ l.drop c := by
        have e1 : (l.drop c)[i - c]? = l[i]? := by rw [List.getElem?_drop]; congr 1; omega
        rw [List.getD_eq_getElem?_getD, ← e1, List.getElem?_eq_getElem (by rw [List.length_drop]; omega)]
        exact List.getElem_mem _
      rw [← c3] at hm
      exact of_decide_eq_true (List.mem_filter.mp hm).2
    by_cases q : (c : Int) < t
    · exfalso
      rcases h2 with z | z
      · omega
      · have := (isL_at h (i := t - 1) (by omega) (by omega)).1
        rw [this] at z
        have := high (t - 1).toNat (by omega) (by omega)
        omega
    · by_cases q2 : t < (c : Int)
      · exfalso
        have z := h1 t (by omega) (by omega)
        rw [(isL_at h (i := t) t0 (by omega)).1] at z
        have := low t.toNat (by omega)
        omega
      · omega
  have hlen : (l.take c).length = c := by rw [List.length_take]; omega
  have hld : (l.drop c).length = l.length - c := List.length_drop
  unfold ins
  rw [c2, c3]
  refine ⟨by rw [List.length_append, List.length_cons, hlen, hld]; omega, fun i hi => ?_⟩
  rw [List.length_append, List.length_cons, hlen, hld] at hi
  by_cases q : i < c
  · rw [getD_app_l (by omega)]
    have e1 : (l.take c).getD i (0, 0) = l.getD i (0, 0) := by
      rw [List.getD_eq_getElem?_getD, List.getD_eq_getElem?_getD, List.getElem?_take_of_lt q]
    rw [e1]
    have := h3 i (by omega) (by omega)
    rw [this.1, this.2]
    exact h.2 i (by omega)
  · rw [getD_app_r (by omega), hlen]
    by_cases q2 : i = c
    · subst q2
      rw [Nat.sub_self, hct]
      exact ⟨h4, h5⟩
    · have e2 : i - c = (i - c - 1) + 1 := by omega
      rw [e2, List.getD_cons_succ]
      have e1 : (l.drop c).getD (i - c - 1) (0, 0) = l.getD (i - 1) (0, 0) := by
        rw [List.getD_eq_getElem?_getD, List.getD_eq_getElem?_getD, List.getElem?_drop]
        congr 2
        omega
      rw [e1]
      have := h6 i (by omega) (by omega)
      rw [this.1, this.2]
      have e3 : (i : Int) - 1 = ((i - 1 : Nat) : Int) := by omega
      rw [e3]
      exact h.2 (i - 1) (by omega)
/-! the acts of a year -/
def stpV (n : Int) (wh md du : Int → Int) (i : Int) (l : AL) : AL := if 0 ≤ wh i ∧ wh i < n then (if du i = -1 then ins (5 * md i, i) l else ins (5 * du i + 2, i) (ins (5 * md i, i) l)) else l
def stpK (m : Int) (kd ko : Int → Int) (i : Int) (l : AL) : AL := if 0 ≤ ko i ∧ ko i < m then ins (5 * kd i + 1, i) l else l
def stpT (n kind : Int) (td tw : Int → Int) (i : Int) (l : AL) : AL := if 0 ≤ tw i ∧ tw i < n then ins (5 * td i + kind, i) l else l
def aV (n m : Int) (wh md du : Int → Int) : AL := foldI (stpV n wh md du) [] m.toNat
def aK (n m nk : Int) (wh md du kd ko : Int → Int) : AL := foldI (stpK m kd ko) (aV n m wh md du) nk.toNat
def aL (n m nk nl : Int) (wh md du kd ko ld lw : Int → Int) : AL := foldI (stpT n 3 ld lw) (aK n m nk wh md du kd ko) nl.toNat
def aT (n m nk nl nt : Int) (wh md du kd ko ld lw td tw : Int → Int) : AL := foldI (stpT n 4 td tw) (aL n m nk nl wh md du kd ko ld lw) nt.toNat
theorem foldI_srt {f : Int → AL → AL} (hf : ∀ i l, srt l → srt (f i l)) {s : AL} (h : srt s) : ∀ n, srt (foldI f s n)
  | 0 => h
  | n + 1 => hf _ _ (foldI_srt hf h n)
theorem stpV_srt {n : Int} {wh md du : Int → Int} : ∀ i l, srt l → srt (stpV n wh md du i l) := fun i l h => by
  unfold stpV
  split
  · split
    · exact srt_ins h
    · exact srt_ins (srt_ins h)
  · exact h
theorem stpK_srt {m : Int} {kd ko : Int → Int} : ∀ i l, srt l → srt (stpK m kd ko i l) := fun i l h => by
  unfold stpK
  split
  · exact srt_ins h
  · exact h
theorem stpT_srt {n k : Int} {td tw : Int → Int} : ∀ i l, srt l → srt (stpT n k td tw i l) := fun i l h => by
  unfold stpT
  split
  · exact srt_ins h
  · exact h
theorem aV_srt {n m : Int} {wh md du : Int → Int} : srt (aV n m wh md du) := foldI_srt stpV_srt (s := []) trivial _
theorem aK_srt {n m nk : Int} {wh md du kd ko : Int → Int} : srt (aK n m nk wh md du kd ko) := foldI_srt stpK_srt aV_srt _
theorem aL_srt {n m nk nl : Int} {wh md du kd ko ld lw : Int → Int} : srt (aL n m nk nl wh md du kd ko ld lw) := foldI_srt stpT_srt aK_srt _
theorem aT_srt {n m nk nl nt : Int} {wh md du kd ko ld lw td tw : Int → Int} : srt (aT n m nk nl nt wh md du kd ko ld lw td tw) := foldI_srt stpT_srt aL_srt _
theorem isL_nil {f g : Int → Int} : isL [] 0 f g := ⟨rfl, fun i hi => absurd hi (Nat.not_lt_zero _)⟩
/-- an act of a KEEPING, a LIE, a LETTING has its row's number for its subject -/
def prS (n : Int) (f g : Int → Int) : Prop := ∀ i, 0 ≤ i → i < n → (f i % 5 = 1 ∨ f i % 5 = 3 ∨ f i % 5 = 4) → g i ≤ 8
theorem prS_ent {n n' key sub : Int} {f g f' g' : Int → Int} (h : prS n f g) (he : entS n n' key sub f g f' g') (hs : (key % 5 = 1 ∨ key % 5 = 3 ∨ key % 5 = 4) → sub ≤ 8) : prS n' f' g' := by
  obtain ⟨t, t0, tn, e, h1, h2, h3, h4, h5, h6⟩ := he
  intro i i0 i1 hk
  by_cases q : i < t
  · have := h3 i i0 q
    rw [this.1] at hk
    rw [this.2]
    exact h i i0 (by omega) hk
  · by_cases q2 : i = t
    · subst q2
      rw [h4] at hk
      rw [h5]
      exact hs hk
    · have := h6 i (by omega) (by omega)
      rw [this.1] at hk
      rw [this.2]
      exact h (i - 1) (by omega) (by omega) hk
/-! what an act does -/
abbrev ST3 : Type := (Int → Int) × (Int → Int) × (Int → Int)
def lgF (c : Int → Int) (k by_ : Int) : Int → Int := updI c k (if c k + by_ > 99 then 99 else c k + by_)
def shF (c : Int → Int) (k by_ : Int) : Int → Int := updI c k (if c k - by_ < 0 then 0 else c k - by_)
def gnF (so wh gr : Int → Int) (p : Int) : Int := if so (wh p) = 1 then 2 * gr p else if so (wh p) = 2 then gr p else gr p / 2
def fuF (sz wh gr : Int → Int) (p : Int) (σ : ST3) : ST3 := if σ.2.2 p = 1 then (updI σ.1 (wh p) (if σ.1 (wh p) > sz (wh p) then max (sz (wh p)) (σ.1 (wh p) - gr p) else min (sz (wh p)) (σ.1 (wh p) + gr p)), σ.2.1, updI σ.2.2 p 2) else σ
def faF (so wh gr : Int → Int) (p : Int) (σ : ST3) : ST3 := if σ.2.2 p = 1 then (shF σ.1 (wh p) (if so (wh p) = 2 then gnF so wh gr p + 2 else gnF so wh gr p), updI σ.2.1 (wh p) (mAdd (σ.2.1 (wh p)) 1), updI σ.2.2 p 3) else σ
def acF (so sz wh gr ko lw lm tw tm : Int → Int) (nk nh : Int) (key sub : Int) (σ : ST3) : ST3 :=
  if key % 5 = 0 then (lgF σ.1 (wh sub) (gnF so wh gr sub), σ.2.1, updI σ.2.2 sub 1)
  else if key % 5 = 1 then (if mAnd (mShr nk sub) 1 = 0 then fuF sz wh gr (ko sub) σ else σ)
  else if key % 5 = 2 then faF so wh gr sub σ
  else if key % 5 = 3 then (if mAnd (mShr nh sub) 1 = 0 then (shF σ.1 (lw sub) (lm sub), σ.2) else σ)
  else (lgF σ.1 (tw sub) (tm sub), σ.2)
/-- from act a on, n of them -/
def rnF (F : Int → Int → ST3 → ST3) (f g : Int → Int) (a : Int) (σ : ST3) : Nat → ST3 := foldI (fun i s => F (f (a + i)) (g (a + i)) s) σ
def adI (a b n lim : Int) (F : Int → Int → ST3 → ST3) (f g c t s c' t' s' : Int → Int) : Prop := a ≤ b ∧ (a ≤ n → b ≤ n) ∧ (∀ i, a ≤ i → i < b → f i < lim) ∧ (c', t', s') = rnF F f g a (c, t, s) (b - a).toNat
theorem adI_z {a n lim : Int} {F : Int → Int → ST3 → ST3} {f g c t s : Int → Int} : adI a a n lim F f g c t s c t s := ⟨by omega, fun h => h, fun i h1 h2 => by omega, by rw [Int.sub_self]; rfl⟩
theorem adI_s {a b n lim : Int} {F : Int → Int → ST3 → ST3} {f g c t s c' t' s' c2 t2 s2 : Int → Int} (h : adI a b n lim F f g c t s c' t' s') (hb : b < n) (hl : f b < lim) (e : (c2, t2, s2) = F (f b) (g b) (c', t', s')) : adI a (b + 1) n lim F f g c t s c2 t2 s2 := by
  obtain ⟨h1, h2, h3, h4⟩ := h
  refine ⟨by omega, fun _ => by omega, fun i i1 i2 => ?_, ?_⟩
  · by_cases q : i = b
    · rw [q]; exact hl
    · exact h3 i i1 (by omega)
  · rw [e, h4, show b + 1 - a = (b - a) + 1 by omega]
    unfold rnF
    rw [foldI_s (by omega), show a + (b - a) = b by omega]
section ACF
variable {so sz wh gr ko lw lm tw tm : Int → Int} {nk nh key sub : Int} {σ : ST3}
theorem acF_0 (h : key % 5 = 0) : acF so sz wh gr ko lw lm tw tm nk nh key sub σ = (lgF σ.1 (wh sub) (gnF so wh gr sub), σ.2.1, updI σ.2.2 sub 1) := by unfold acF; rw [if_pos h]
theorem acF_1 (h : key % 5 = 1) : acF so sz wh gr ko lw lm tw tm nk nh key sub σ = if mAnd (mShr nk sub) 1 = 0 then fuF sz wh gr (ko sub) σ else σ := by unfold acF; rw [if_neg (by omega), if_pos h]
theorem acF_2 (h : key % 5 = 2) : acF so sz wh gr ko lw lm tw tm nk nh key sub σ = faF so wh gr sub σ := by unfold acF; rw [if_neg (by omega), if_neg (by omega), if_pos h]
theorem acF_3 (h : key % 5 = 3) : acF so sz wh gr ko lw lm tw tm nk nh key sub σ = if mAnd (mShr nh sub) 1 = 0 then (shF σ.1 (lw sub) (lm sub), σ.2) else σ := by unfold acF; rw [if_neg (by omega), if_neg (by omega), if_neg (by omega), if_pos h]
theorem acF_4 (h : key % 5 = 4) : acF so sz wh gr ko lw lm tw tm nk nh key sub σ = (lgF σ.1 (tw sub) (tm sub), σ.2) := by unfold acF; rw [if_neg (by omega), if_neg (by omega), if_neg (by omega), if_neg (by omega)]
end ACF
/-! ===== the class: acts; printed by wip/gen/x ===== -/
def P_ent (l : List Int) (a : List (Int → Int)) : Prop := match l, a with
  | [n, k, d, kd, sub], [f, g, F, G] => entS n k (5 * d + kd) sub f g F G
  | _, _ => False
theorem hFp_80 {PT : PTy} {ρ : Nat → Int} {α : Nat → Int → Int} (l : List AN) (a : List Nat) : hF PT ρ α (80, l, a) = PT 80 (l.map (den ρ)) (a.map α) := rfl
def P_entI (l : List Int) (a : List (Int → Int)) : Prop := match l, a with
  | [t, n, key, d, kd], [f, g, F, G] => key = 5 * d + kd ∧ entI t n key f g F G
  | _, _ => False
theorem hFp_81 {PT : PTy} {ρ : Nat → Int} {α : Nat → Int → Int} (l : List AN) (a : List Nat) : hF PT ρ α (81, l, a) = PT 81 (l.map (den ρ)) (a.map α) := rfl
def P_eaI3 (l : List Int) (a : List (Int → Int)) : Prop := match l, a with
  | [i, a, b, n], [f, g, F, G, ld, lw] => b ≤ a + i ∧ (prS a f g → prS b F G) ∧ ∀ l, srt l → isL l a f g → isL (foldI (stpT n 3 ld lw) l i.toNat) b F G
  | _, _ => False
theorem hFp_82 {PT : PTy} {ρ : Nat → Int} {α : Nat → Int → Int} (l : List AN) (a : List Nat) : hF PT ρ α (82, l, a) = PT 82 (l.map (den ρ)) (a.map α) := rfl
def P_eaI4 (l : List Int) (a : List (Int → Int)) : Prop := match l, a with
  | [i, a, b, n], [f, g, F, G, ld, lw] => b ≤ a + i ∧ (prS a f g → prS b F G) ∧ ∀ l, srt l → isL l a f g → isL (foldI (stpT n 4 ld lw) l i.toNat) b F G
  | _, _ => False
theorem hFp_83 {PT : PTy} {ρ : Nat → Int} {α : Nat → Int → Int} (l : List AN) (a : List Nat) : hF PT ρ α (83, l, a) = PT 83 (l.map (den ρ)) (a.map α) := rfl
def P_arV (l : List Int) (a : List (Int → Int)) : Prop := match l, a with
  | [i, n, a], [f, g, wh, md, du] => a ≤ 2 * i ∧ prS a f g ∧ isL (foldI (stpV n wh md du) [] i.toNat) a f g
  | _, _ => False
theorem hFp_84 {PT : PTy} {ρ : Nat → Int} {α : Nat → Int → Int} (l : List AN) (a : List Nat) : hF PT ρ α (84, l, a) = PT 84 (l.map (den ρ)) (a.map α) := rfl
def P_arK (l : List Int) (a : List (Int → Int)) : Prop := match l, a with
  | [i, n, m, a], [f, g, wh, md, du, kd, ko] => a ≤ 22 + i ∧ prS a f g ∧ isL (foldI (stpK m kd ko) (aV n m wh md du) i.toNat) a f g
  | _, _ => False
theorem hFp_85 {PT : PTy} {ρ : Nat → Int} {α : Nat → Int → Int} (l : List AN) (a : List Nat) : hF PT ρ α (85, l, a) = PT 85 (l.map (den ρ)) (a.map α) := rfl
def P_arr (l : List Int) (a : List (Int → Int)) : Prop := match l, a with
  | [n, m, nk, nl, nt, a], [f, g, wh, md, du, kd, ko, ld, lw, td, tw] => prS a f g ∧ isL (aT n m nk nl nt wh md du kd ko ld lw td tw) a f g
  | _, _ => False
theorem hFp_86 {PT : PTy} {ρ : Nat → Int} {α : Nat → Int → Int} (l : List AN) (a : List Nat) : hF PT ρ α (86, l, a) = PT 86 (l.map (den ρ)) (a.map α) := rfl
def P_pr (l : List Int) (a : List (Int → Int)) : Prop := match l, a with
  | [n], [f, g] => prS n f g
  | _, _ => False
theorem hFp_87 {PT : PTy} {ρ : Nat → Int} {α : Nat → Int → Int} (l : List AN) (a : List Nat) : hF PT ρ α (87, l, a) = PT 87 (l.map (den ρ)) (a.map α) := rfl
def P_fil (l : List Int) (a : List (Int → Int)) : Prop := match l, a with
  | [v, n], [A] => ∀ i, 0 ≤ i → i < n → A i = v
  | _, _ => False
theorem hFp_88 {PT : PTy} {ρ : Nat → Int} {α : Nat → Int → Int} (l : List AN) (a : List Nat) : hF PT ρ α (88, l, a) = PT 88 (l.map (den ρ)) (a.map α) := rfl
def P_bg (l : List Int) (a : List (Int → Int)) : Prop := match l, a with
  | [], [sz, c, t, s] => (∀ i, 0 ≤ i → i < 8 → c i = sz i ∧ t i = 0) ∧ ∀ i, 0 ≤ i → i < 11 → s i = 0
  | _, _ => False
theorem hFp_89 {PT : PTy} {ρ : Nat → Int} {α : Nat → Int → Int} (l : List AN) (a : List Nat) : hF PT ρ α (89, l, a) = PT 89 (l.map (den ρ)) (a.map α) := rfl
def P_adI (l : List Int) (a : List (Int → Int)) : Prop := match l, a with
  | [a, b, n, d, nk, nh], [f, g, so, sz, wh, gr, ko, lw, lm, tw, tm, c, t, s, C, T, S] => adI a b n (5 * (d + 1)) (acF so sz wh gr ko lw lm tw tm nk nh) f g c t s C T S
  | _, _ => False
theorem hFp_90 {PT : PTy} {ρ : Nat → Int} {α : Nat → Int → Int} (l : List AN) (a : List Nat) : hF PT ρ α (90, l, a) = PT 90 (l.map (den ρ)) (a.map α) := rfl
def P_adE (l : List Int) (a : List (Int → Int)) : Prop := match l, a with
  | [a, b, n, d, nk, nh], [f, g, so, sz, wh, gr, ko, lw, lm, tw, tm, c, t, s, C, T, S] => adI a b n (5 * (d + 1)) (acF so sz wh gr ko lw lm tw tm nk nh) f g c t s C T S ∧ ¬ (b < n ∧ f b < 5 * (d + 1))
  | _, _ => False
theorem hFp_91 {PT : PTy} {ρ : Nat → Int} {α : Nat → Int → Int} (l : List AN) (a : List Nat) : hF PT ρ α (91, l, a) = PT 91 (l.map (den ρ)) (a.map α) := rfl
def HP3 (PT : PTy) : Prop := HP2 PT ∧ (PT 80 = P_ent ∧ PT 81 = P_entI ∧ PT 82 = P_eaI3 ∧ PT 83 = P_eaI4 ∧ PT 84 = P_arV ∧ PT 85 = P_arK ∧ PT 86 = P_arr ∧ PT 87 = P_pr ∧ PT 88 = P_fil ∧ PT 89 = P_bg ∧ PT 90 = P_adI ∧ PT 91 = P_adE ∧ True)
def c_enter14 : XC := (3, 0, (bX ++ [(0, 23), (0, 4), (0, 10)]), [.inr (.inl 5), .inl (some 14, 0), .inl (some 15, 0), .inl (some 16, 0)], (gX 14), [(2, [(some 9, 0), (none, 49)], [])], [((bX ++ [(0, 23), (0, 4), (0, 10), (0, 49)]), none, (hst (gX 14) [(5, .inr (.inr (.inr (0, [.inr (.inl 6), .inr (.inl 9), .inr (.inl 14), .inr (.inl 18), .inr (.inl 22), .inr (.inl 26), .inr (.inl 27), .inr (.inl 28), .inr (.inl 29), .inr (.inl 30), .inl (some 17, 0), .inl (some 10, 0), .inl (some 11, 0), .inl (some 12, 0), .inr (.inl 14)]))))]), (ansT 58 [(26, 58), (27, 59)]), 60, [(80, [(some 9, 0), (some 17, 0), (some 14, 0), (some 15, 0), (some 16, 0)], [26, 27, 58, 59])])])
def h_enter14 : List XH := [(23, ([(0, 23), (0, 49), (0, 8), (0, 11), (0, 9), (0, 6), (0, 6), (0, 8), (0, 9), (0, 48), (0, 49), ((-2147483648), 2147483647), ((-2147483648), 2147483647), (0, 5), (0, 23), (0, 4), (0, 10), (0, 119), (0, 48)]), [some (.inr (.inl 5)), some (.inl (some 14, 0)), some (.inl (some 15, 0)), some (.inl (some 16, 0)), some (.inl (some 17, 0)), some (.inl (some 18, 0))], (gX 14), (ansT 58 [(26, 58), (27, 59)]), 60, [(81, [(some 18, 0), (some 9, 0), (some 17, 0), (some 14, 0), (some 15, 0)], [26, 27, 58, 59])], [(true, (none, 1)), (false, (some 18, 0))])]
def w_enter14_0_0 : VC := (([(0, 23), (0, 49), (0, 8), (0, 11), (0, 9), (0, 6), (0, 6), (0, 8), (0, 9), (0, 48), (0, 49), ((-2147483648), 2147483647), ((-2147483648), 2147483647), (0, 5), (0, 23), (0, 4), (0, 10), (0, 115), (0, 119)]), [(4, [(some 18, 0), (some 17, 0), (some 15, 0)], []), (6, [(some 17, 0), (none, 5), (some 14, 0)], []), (2, [(some 9, 0), (none, 49)], []), (2, [(some 9, 0), (none, 49)], [])], (81, [(some 9, 0), (some 9, 0), (some 18, 0), (some 14, 0), (some 15, 0)], [26, 27, 26, 27]))
theorem pe81_3 {PT : PTy} (hp : HP3 PT) : PT 81 = P_entI := hp.2.2.1
set_option maxRecDepth 20000 in
theorem v_enter14_0_0 {PT : PTy} (hp : HP3 PT) : vcOk PT w_enter14_0_0 := vc_in [(9, 0, 48), (14, 0, 23), (15, 0, 4), (17, 0, 115), (18, 0, 119)] (by decide +kernel) (fun ρ α => by
  intro b9 b14 b15 b17 b18 f0 f1 f2 f3 tt
  clear f2 f3
  have e81 : PT 81 = P_entI := pe81_3 hp
  simp only [hF4, hF6, hFp_81, e81, P_entI, den_s, den_c, Int.add_zero, List.map_cons, List.map_nil] at f0 f1 ⊢
  exact ⟨by omega, entI_z⟩)
def w_enter14_0_1 : VC := (([(0, 23), (0, 49), (0, 8), (0, 11), (0, 9), (0, 6), (0, 6), (0, 8), (0, 9), (49, 49), (0, 49), ((-2147483648), 2147483647), ((-2147483648), 2147483647), (0, 5), (0, 23), (0, 4), (0, 10)]), [(3, [(some 9, 0), (none, 49)], []), (2, [(some 9, 0), (none, 49)], [])], (80, [(some 9, 0), (some 9, 0), (some 14, 0), (some 15, 0), (some 16, 0)], [26, 27, 26, 27]))
theorem pe80_3 {PT : PTy} (hp : HP3 PT) : PT 80 = P_ent := hp.2.1
set_option maxRecDepth 20000 in
theorem v_enter14_0_1 {PT : PTy} (hp : HP3 PT) : vcOk PT w_enter14_0_1 := vc_in [(9, 49, 49), (14, 0, 23), (15, 0, 4), (16, 0, 10)] (by decide +kernel) (fun ρ α => by
  intro b9 b14 b15 b16 f0 f1 tt
  clear f0
  have e80 : PT 80 = P_ent := pe80_3 hp
  simp only [hF2, hFp_80, e80, P_ent, den_s, den_c, Int.add_zero, List.map_cons, List.map_nil] at f1 ⊢
  exfalso; omega)
def w_enter14_1_0 : VC := (([(0, 23), (0, 49), (0, 8), (0, 11), (0, 9), (0, 6), (0, 6), (0, 8), (0, 9), (0, 48), (0, 49), ((-2147483648), 2147483647), ((-2147483648), 2147483647), (0, 5), (0, 23), (0, 4), (0, 10), (0, 119), (0, 0)]), [(21, [(some 18, 0), (some 16, 0)], [61, 59]), (21, [(some 18, 0), (some 17, 0)], [60, 58]), (3, [(none, 0), (some 18, 0)], []), (81, [(some 18, 0), (some 9, 0), (some 17, 0), (some 14, 0), (some 15, 0)], [26, 27, 58, 59]), (2, [(some 9, 0), (none, 49)], [])], (80, [(some 9, 0), (some 9, 1), (some 14, 0), (some 15, 0), (some 16, 0)], [26, 27, 60, 61]))
set_option maxRecDepth 20000 in
theorem v_enter14_1_0 {PT : PTy} (hp : HP3 PT) : vcOk PT w_enter14_1_0 := vc_iv [(9, 0, 48), (14, 0, 23), (15, 0, 4), (16, 0, 10), (17, 0, 119), (18, 0, 0)] [26, 27, 58, 59, 60, 61] (by decide +kernel) (fun ρ α => by
  intro r9 g9 b9 r14 g14 b14 r15 g15 b15 r16 g16 b16 r17 g17 b17 r18 g18 b18 a26 h26 a27 h27 a58 h58 a59 h59 a60 h60 a61 h61 f0 f1 f2 f3 f4 tt
  clear f2 f4
  have e80 : PT 80 = P_ent := pe80_3 hp
  have e81 : PT 81 = P_entI := pe81_3 hp
  simp only [hF21, hFp_80, hFp_81, e80, e81, P_ent, P_entI, den_s, den_c, Int.add_zero, List.map_cons, List.map_nil, g9.eq, g14.eq, g15.eq, g16.eq, g17.eq, g18.eq, h26, h27, h58, h59, h60, h61] at f0 f1 f3 ⊢
  subst f0
  subst f1
  obtain ⟨i1, i2⟩ := f3
  first
    | omega
    | (subst i1; exact entI_e i2 (by omega) (by omega))
    | exact ⟨i1, entI_s i2 (by omega) (by omega)⟩)
def w_enter14_1_1 : VC := (([(0, 23), (0, 49), (0, 8), (0, 11), (0, 9), (0, 6), (0, 6), (0, 8), (0, 9), (0, 48), (0, 49), ((-2147483648), 2147483647), ((-2147483648), 2147483647), (0, 5), (0, 23), (0, 4), (0, 10), (0, 119), (1, 48), (0, 119)]), [(21, [(some 18, 0), (some 16, 0)], [61, 59]), (21, [(some 18, 0), (some 17, 0)], [60, 58]), (3, [(some 17, 0), (some 19, 0)], []), (20, [(some 19, 0), (some 18, (-1))], [58]), (2, [(none, 0), (some 18, 0)], []), (81, [(some 18, 0), (some 9, 0), (some 17, 0), (some 14, 0), (some 15, 0)], [26, 27, 58, 59]), (2, [(some 9, 0), (none, 49)], [])], (80, [(some 9, 0), (some 9, 1), (some 14, 0), (some 15, 0), (some 16, 0)], [26, 27, 60, 61]))
set_option maxRecDepth 20000 in
theorem v_enter14_1_1 {PT : PTy} (hp : HP3 PT) : vcOk PT w_enter14_1_1 := vc_iv [(9, 0, 48), (14, 0, 23), (15, 0, 4), (16, 0, 10), (17, 0, 119), (18, 1, 48), (19, 0, 119)] [26, 27, 58, 59, 60, 61] (by decide +kernel) (fun ρ α => by
  intro r9 g9 b9 r14 g14 b14 r15 g15 b15 r16 g16 b16 r17 g17 b17 r18 g18 b18 r19 g19 b19 a26 h26 a27 h27 a58 h58 a59 h59 a60 h60 a61 h61 f0 f1 f2 f3 f4 f5 f6 tt
  clear f4 f6
  have e80 : PT 80 = P_ent := pe80_3 hp
  have e81 : PT 81 = P_entI := pe81_3 hp
  simp only [hF3, hF20, hF21, hFp_80, hFp_81, e80, e81, P_ent, P_entI, den_s, den_c, Int.add_zero, List.map_cons, List.map_nil, g9.eq, g14.eq, g15.eq, g16.eq, g17.eq, g18.eq, g19.eq, h26, h27, h58, h59, h60, h61] at f0 f1 f2 f3 f5 ⊢
  subst f0
  subst f1
  subst f3
  obtain ⟨i1, i2⟩ := f5
  first
    | omega
    | (subst i1; exact entI_e i2 (by omega) (by omega))
    | exact ⟨i1, entI_s i2 (by omega) (by omega)⟩)
def w_enter14_1_2 : VC := (([(0, 23), (0, 49), (0, 8), (0, 11), (0, 9), (0, 6), (0, 6), (0, 8), (0, 9), (0, 48), (0, 49), ((-2147483648), 2147483647), ((-2147483648), 2147483647), (0, 5), (0, 23), (0, 4), (0, 10), (0, 118), (1, 48), (1, 119), (0, 119), (0, 10)]), [(21, [(some 18, 0), (some 21, 0)], [61, 59]), (20, [(some 21, 0), (some 18, (-1))], [59]), (21, [(some 18, 0), (some 20, 0)], [60, 58]), (20, [(some 20, 0), (some 18, (-1))], [58]), (2, [(some 17, 0), (some 19, 0)], []), (20, [(some 19, 0), (some 18, (-1))], [58]), (2, [(none, 0), (some 18, 0)], []), (81, [(some 18, 0), (some 9, 0), (some 17, 0), (some 14, 0), (some 15, 0)], [26, 27, 58, 59]), (2, [(some 9, 0), (none, 49)], [])], (81, [(some 18, (-1)), (some 9, 0), (some 17, 0), (some 14, 0), (some 15, 0)], [26, 27, 60, 61]))
set_option maxRecDepth 20000 in
theorem v_enter14_1_2 {PT : PTy} (hp : HP3 PT) : vcOk PT w_enter14_1_2 := vc_iv [(9, 0, 48), (14, 0, 23), (15, 0, 4), (17, 0, 118), (18, 1, 48), (19, 1, 119), (20, 0, 119), (21, 0, 10)] [26, 27, 58, 59, 60, 61] (by decide +kernel) (fun ρ α => by
  intro r9 g9 b9 r14 g14 b14 r15 g15 b15 r17 g17 b17 r18 g18 b18 r19 g19 b19 r20 g20 b20 r21 g21 b21 a26 h26 a27 h27 a58 h58 a59 h59 a60 h60 a61 h61 f0 f1 f2 f3 f4 f5 f6 f7 f8 tt
  clear f6 f8
  have e81 : PT 81 = P_entI := pe81_3 hp
  simp only [hF2, hF20, hF21, hFp_81, e81, P_entI, den_s, den_c, Int.add_zero, List.map_cons, List.map_nil, g9.eq, g14.eq, g15.eq, g17.eq, g18.eq, g19.eq, g20.eq, g21.eq, h26, h27, h58, h59, h60, h61] at f0 f1 f2 f3 f4 f5 f7 ⊢
  subst f0
  subst f1
  subst f2
  subst f3
  subst f5
  obtain ⟨i1, i2⟩ := f7
  first
    | omega
    | (subst i1; exact entI_e i2 (by omega) (by omega))
    | exact ⟨i1, entI_s i2 (by omega) (by omega)⟩)
set_option maxRecDepth 1000000 in
theorem k_enter14 {PT : PTy} (hp : HP3 PT) : wfX c_enter14 = true ∧ xcOk PT c_enter14 := xctr (xl0) c_enter14 53 mX0_enter rfl h_enter14 (by decide +kernel) (by decide +kernel) (by decide) (vcs_by [w_enter14_0_0, w_enter14_0_1] (by decide +kernel) (vc (v_enter14_0_0 hp) (vc (v_enter14_0_1 hp) vn))) (fmc (vcs_by [w_enter14_1_0, w_enter14_1_1, w_enter14_1_2] (by decide +kernel) (vc (v_enter14_1_0 hp) (vc (v_enter14_1_1 hp) (vc (v_enter14_1_2 hp) vn)))) fmn)
def c_enterAll3_14 : XC := (2, 1, (bX), [.inr (.inl 5), .inr (.inl 18), .inl (none, 3)], (gX 14), [(2, [(some 9, 0), (none, 43)], [])], [((bX ++ [(0, 49)]), none, (hst (gX 14) [(5, .inr (.inr (.inr (0, [.inr (.inl 6), .inr (.inl 9), .inr (.inl 14), .inr (.inl 18), .inr (.inl 22), .inr (.inl 26), .inr (.inl 27), .inr (.inl 28), .inr (.inl 29), .inr (.inl 30), .inl (some 14, 0), .inl (some 10, 0), .inl (some 11, 0), .inl (some 12, 0), .inr (.inl 14)]))))]), (ansT 58 [(26, 58), (27, 59)]), 60, [(82, [(some 5, 0), (some 9, 0), (some 14, 0), (some 2, 0)], [26, 27, 58, 59, 19, 20])])])
def h_enterAll3_14 : List XH := [(2, (bX ++ [(0, 6), (0, 49)]), [some (.inr (.inl 5)), some (.inr (.inl 18)), some (.inl (none, 3)), some (.inl (some 14, 0))], (hst (gX 14) [(5, .inr (.inr (.inr (0, [.inr (.inl 6), .inr (.inl 9), .inr (.inl 14), .inr (.inl 18), .inr (.inl 22), .inr (.inl 26), .inr (.inl 27), .inr (.inl 28), .inr (.inl 29), .inr (.inl 30), .inl (some 15, 0), .inl (some 10, 0), .inl (some 11, 0), .inl (some 12, 0), .inr (.inl 14)]))))]), (ansT 58 [(26, 58), (27, 59)]), 60, [(82, [(some 14, 0), (some 9, 0), (some 15, 0), (some 2, 0)], [26, 27, 58, 59, 19, 20]), (3, [(some 5, 0), (some 14, 0)], [])], [(true, (none, 1)), (true, (some 14, 0))])]
def w_enterAll3_14_0_0 : VC := ((bX), [(2, [(some 9, 0), (none, 43)], [])], (82, [(none, 0), (some 9, 0), (some 9, 0), (some 2, 0)], [26, 27, 26, 27, 19, 20]))
theorem pe82_3 {PT : PTy} (hp : HP3 PT) : PT 82 = P_eaI3 := hp.2.2.2.1
set_option maxRecDepth 20000 in
theorem v_enterAll3_14_0_0 {PT : PTy} (hp : HP3 PT) : vcOk PT w_enterAll3_14_0_0 := vc_in [(2, 0, 8), (9, 0, 49)] (by decide +kernel) (fun ρ α => by
  intro b2 b9 f0 tt
  have e82 : PT 82 = P_eaI3 := pe82_3 hp
  simp only [hF2, hFp_82, e82, P_eaI3, den_s, den_c, Int.add_zero, List.map_cons, List.map_nil] at f0 ⊢
  first | omega | exact ⟨by omega, fun h => h, fun l _ h => h⟩)
def w_enterAll3_14_0_1 : VC := ((bX), [(2, [(some 9, 0), (none, 43)], [])], (3, [(some 5, 0), (none, 0)], []))
set_option maxRecDepth 20000 in
theorem v_enterAll3_14_0_1 {PT : PTy} (hp : HP3 PT) : vcOk PT w_enterAll3_14_0_1 := vc_in [(5, 0, 6), (9, 0, 49)] (by decide +kernel) (fun ρ α => by
  intro b5 b9 f0 tt
  simp only [hF2, hF3, den_s, den_c, Int.add_zero, List.map_cons, List.map_nil] at f0 ⊢
  first | omega | exact ⟨by omega, fun h => h, fun l _ h => h⟩)
def w_enterAll3_14_1_0 : VC := ((bX ++ [(0, 6), (0, 49)]), [(3, [(some 14, 0), (some 5, 0)], []), (82, [(some 14, 0), (some 9, 0), (some 15, 0), (some 2, 0)], [26, 27, 58, 59, 19, 20]), (3, [(some 5, 0), (some 14, 0)], []), (2, [(some 9, 0), (none, 43)], [])], (82, [(some 5, 0), (some 9, 0), (some 15, 0), (some 2, 0)], [26, 27, 58, 59, 19, 20]))
set_option maxRecDepth 20000 in
theorem v_enterAll3_14_1_0 {PT : PTy} (hp : HP3 PT) : vcOk PT w_enterAll3_14_1_0 := vc_iv [(2, 0, 8), (5, 0, 6), (9, 0, 49), (14, 0, 6), (15, 0, 49)] [19, 20, 26, 27, 58, 59] (by decide +kernel) (fun ρ α => by
  intro r2 g2 b2 r5 g5 b5 r9 g9 b9 r14 g14 b14 r15 g15 b15 a19 h19 a20 h20 a26 h26 a27 h27 a58 h58 a59 h59 f0 f1 f2 f3 tt
  have e82 : PT 82 = P_eaI3 := pe82_3 hp
  simp only [hF2, hF3, hFp_82, e82, P_eaI3, den_s, den_c, Int.add_zero, List.map_cons, List.map_nil, g2.eq, g5.eq, g9.eq, g14.eq, g15.eq, h19, h20, h26, h27, h58, h59] at f0 f1 f2 f3 ⊢
  obtain ⟨i1, i2, i3⟩ := f1
  first
    | omega
    | exact ⟨by omega, i2, fun l h1 h2 => by have h := i3 l h1 h2; rw [show r5 = r14 by omega]; exact h⟩
    | (refine ⟨by omega, i2, fun l h1 h2 => ?_⟩; rw [foldI_s (by omega)]; unfold stpT; rw [if_neg (by omega)]; exact i3 l h1 h2)
    | (have he := MISSING; refine ⟨by obtain ⟨t, z⟩ := he; omega, fun h => prS_ent (i2 h) he (fun _ => by omega), fun l h1 h2 => ?_⟩; rw [foldI_s (by omega)]; unfold stpT; rw [if_pos (by omega)]; exact isL_ins (foldI_srt stpT_srt h1 _) (i3 l h1 h2) he))
def w_enterAll3_14_1_1 : VC := (([(0, 23), (0, 49), (0, 7), (0, 11), (0, 9), (1, 6), (0, 6), (0, 8), (0, 9), (0, 49), (0, 49), ((-2147483648), 2147483647), ((-2147483648), 2147483647), (0, 5), (0, 5), (0, 49), (0, 7)]), [(0, [(none, 0), (none, 0)], []), (3, [(some 16, 0), (some 2, 0)], []), (3, [(some 16, 0), (none, 0)], []), (20, [(some 16, 0), (some 14, 0)], [20]), (2, [(some 14, 0), (some 5, 0)], []), (82, [(some 14, 0), (some 9, 0), (some 15, 0), (some 2, 0)], [26, 27, 58, 59, 19, 20]), (3, [(some 5, 0), (some 14, 0)], []), (2, [(some 9, 0), (none, 43)], [])], (82, [(some 14, 1), (some 9, 0), (some 15, 0), (some 2, 0)], [26, 27, 58, 59, 19, 20]))
set_option maxRecDepth 20000 in
theorem v_enterAll3_14_1_1 {PT : PTy} (hp : HP3 PT) : vcOk PT w_enterAll3_14_1_1 := vc_iv [(2, 0, 7), (5, 1, 6), (9, 0, 49), (14, 0, 5), (15, 0, 49), (16, 0, 7)] [19, 20, 26, 27, 58, 59] (by decide +kernel) (fun ρ α => by
  intro r2 g2 b2 r5 g5 b5 r9 g9 b9 r14 g14 b14 r15 g15 b15 r16 g16 b16 a19 h19 a20 h20 a26 h26 a27 h27 a58 h58 a59 h59 f0 f1 f2 f3 f4 f5 f6 f7 tt
  clear f0 f2
  have e82 : PT 82 = P_eaI3 := pe82_3 hp
  simp only [hF2, hF3, hF20, hFp_82, e82, P_eaI3, den_s, den_c, Int.add_zero, List.map_cons, List.map_nil, g2.eq, g5.eq, g9.eq, g14.eq, g15.eq, g16.eq, h19, h20, h26, h27, h58, h59] at f1 f3 f4 f5 f6 f7 ⊢
  subst f3
  obtain ⟨i1, i2, i3⟩ := f5
  first
    | omega
    | exact ⟨by omega, i2, fun l h1 h2 => by have h := i3 l h1 h2; rw [show r5 = r14 by omega]; exact h⟩
    | (refine ⟨by omega, i2, fun l h1 h2 => ?_⟩; rw [foldI_s (by omega)]; unfold stpT; rw [if_neg (by omega)]; exact i3 l h1 h2)
    | (have he := MISSING; refine ⟨by obtain ⟨t, z⟩ := he; omega, fun h => prS_ent (i2 h) he (fun _ => by omega), fun l h1 h2 => ?_⟩; rw [foldI_s (by omega)]; unfold stpT; rw [if_pos (by omega)]; exact isL_ins (foldI_srt stpT_srt h1 _) (i3 l h1 h2) he))
def w_enterAll3_14_1_2 : VC := (([(0, 23), (0, 49), (0, 7), (0, 11), (0, 9), (1, 6), (0, 6), (0, 8), (0, 9), (0, 49), (0, 49), ((-2147483648), 2147483647), ((-2147483648), 2147483647), (0, 5), (0, 5), (0, 49), (0, 7)]), [(0, [(none, 0), (none, 0)], []), (3, [(some 16, 0), (some 2, 0)], []), (3, [(some 16, 0), (none, 0)], []), (20, [(some 16, 0), (some 14, 0)], [20]), (2, [(some 14, 0), (some 5, 0)], []), (82, [(some 14, 0), (some 9, 0), (some 15, 0), (some 2, 0)], [26, 27, 58, 59, 19, 20]), (3, [(some 5, 0), (some 14, 0)], []), (2, [(some 9, 0), (none, 43)], [])], (3, [(some 5, 0), (some 14, 1)], []))
set_option maxRecDepth 20000 in
theorem v_enterAll3_14_1_2 {PT : PTy} (hp : HP3 PT) : vcOk PT w_enterAll3_14_1_2 := vc_iv [(2, 0, 7), (5, 1, 6), (9, 0, 49), (14, 0, 5), (15, 0, 49), (16, 0, 7)] [19, 20, 26, 27, 58, 59] (by decide +kernel) (fun ρ α => by
  intro r2 g2 b2 r5 g5 b5 r9 g9 b9 r14 g14 b14 r15 g15 b15 r16 g16 b16 a19 h19 a20 h20 a26 h26 a27 h27 a58 h58 a59 h59 f0 f1 f2 f3 f4 f5 f6 f7 tt
  clear f0 f2
  have e82 : PT 82 = P_eaI3 := pe82_3 hp
  simp only [hF2, hF3, hF20, hFp_82, e82, P_eaI3, den_s, den_c, Int.add_zero, List.map_cons, List.map_nil, g2.eq, g5.eq, g9.eq, g14.eq, g15.eq, g16.eq, h19, h20, h26, h27, h58, h59] at f1 f3 f4 f5 f6 f7 ⊢
  subst f3
  obtain ⟨i1, i2, i3⟩ := f5
  first
    | omega
    | exact ⟨by omega, i2, fun l h1 h2 => by have h := i3 l h1 h2; rw [show r5 = r14 by omega]; exact h⟩
    | (refine ⟨by omega, i2, fun l h1 h2 => ?_⟩; rw [foldI_s (by omega)]; unfold stpT; rw [if_neg (by omega)]; exact i3 l h1 h2)
    | (have he := MISSING; refine ⟨by obtain ⟨t, z⟩ := he; omega, fun h => prS_ent (i2 h) he (fun _ => by omega), fun l h1 h2 => ?_⟩; rw [foldI_s (by omega)]; unfold stpT; rw [if_pos (by omega)]; exact isL_ins (foldI_srt stpT_srt h1 _) (i3 l h1 h2) he))
def w_enterAll3_14_1_3 : VC := (([(0, 23), (0, 49), (1, 8), (0, 11), (0, 9), (1, 6), (0, 6), (0, 8), (0, 9), (0, 49), (0, 49), ((-2147483648), 2147483647), ((-2147483648), 2147483647), (0, 5), (0, 5), (0, 49), (0, 7), (0, 23)]), [(20, [(some 17, 0), (some 14, 0)], [19]), (1, [(none, 1), (none, 0)], []), (2, [(some 16, 0), (some 2, 0)], []), (3, [(some 16, 0), (none, 0)], []), (20, [(some 16, 0), (some 14, 0)], [20]), (2, [(some 14, 0), (some 5, 0)], []), (82, [(some 14, 0), (some 9, 0), (some 15, 0), (some 2, 0)], [26, 27, 58, 59, 19, 20]), (3, [(some 5, 0), (some 14, 0)], []), (2, [(some 9, 0), (none, 43)], [])], (2, [(some 15, 0), (none, 49)], []))
set_option maxRecDepth 20000 in
theorem v_enterAll3_14_1_3 {PT : PTy} (hp : HP3 PT) : vcOk PT w_enterAll3_14_1_3 := vc_iv [(2, 1, 8), (5, 1, 6), (9, 0, 49), (14, 0, 5), (15, 0, 49), (16, 0, 7), (17, 0, 23)] [19, 20, 26, 27, 58, 59] (by decide +kernel) (fun ρ α => by
  intro r2 g2 b2 r5 g5 b5 r9 g9 b9 r14 g14 b14 r15 g15 b15 r16 g16 b16 r17 g17 b17 a19 h19 a20 h20 a26 h26 a27 h27 a58 h58 a59 h59 f0 f1 f2 f3 f4 f5 f6 f7 f8 tt
  clear f1 f3
  have e82 : PT 82 = P_eaI3 := pe82_3 hp
  simp only [hF2, hF3, hF20, hFp_82, e82, P_eaI3, den_s, den_c, Int.add_zero, List.map_cons, List.map_nil, g2.eq, g5.eq, g9.eq, g14.eq, g15.eq, g16.eq, g17.eq, h19, h20, h26, h27, h58, h59] at f0 f2 f4 f5 f6 f7 f8 ⊢
  subst f0
  subst f4
  obtain ⟨i1, i2, i3⟩ := f6
  first
    | omega
    | exact ⟨by omega, i2, fun l h1 h2 => by have h := i3 l h1 h2; rw [show r5 = r14 by omega]; exact h⟩
    | (refine ⟨by omega, i2, fun l h1 h2 => ?_⟩; rw [foldI_s (by omega)]; unfold stpT; rw [if_neg (by omega)]; exact i3 l h1 h2)
    | (have he := MISSING; refine ⟨by obtain ⟨t, z⟩ := he; omega, fun h => prS_ent (i2 h) he (fun _ => by omega), fun l h1 h2 => ?_⟩; rw [foldI_s (by omega)]; unfold stpT; rw [if_pos (by omega)]; exact isL_ins (foldI_srt stpT_srt h1 _) (i3 l h1 h2) he))
def w_enterAll3_14_1_4 : VC := (([(0, 23), (0, 49), (1, 8), (0, 11), (0, 9), (1, 6), (0, 6), (0, 8), (0, 9), (0, 49), (0, 49), ((-2147483648), 2147483647), ((-2147483648), 2147483647), (0, 5), (0, 5), (0, 49), (0, 7), (0, 23), (0, 49)]), [(80, [(some 15, 0), (some 18, 0), (some 17, 0), (none, 3), (some 14, 0)], [58, 59, 60, 61]), (20, [(some 17, 0), (some 14, 0)], [19]), (1, [(none, 1), (none, 0)], []), (2, [(some 16, 0), (some 2, 0)], []), (3, [(some 16, 0), (none, 0)], []), (20, [(some 16, 0), (some 14, 0)], [20]), (2, [(some 14, 0), (some 5, 0)], []), (82, [(some 14, 0), (some 9, 0), (some 15, 0), (some 2, 0)], [26, 27, 58, 59, 19, 20]), (3, [(some 5, 0), (some 14, 0)], []), (2, [(some 9, 0), (none, 43)], [])], (82, [(some 14, 1), (some 9, 0), (some 18, 0), (some 2, 0)], [26, 27, 60, 61, 19, 20]))
set_option maxRecDepth 20000 in
theorem v_enterAll3_14_1_4 {PT : PTy} (hp : HP3 PT) : vcOk PT w_enterAll3_14_1_4 := vc_iv [(2, 1, 8), (5, 1, 6), (9, 0, 49), (14, 0, 5), (15, 0, 49), (16, 0, 7), (17, 0, 23), (18, 0, 49)] [19, 20, 26, 27, 58, 59, 60, 61] (by decide +kernel) (fun ρ α => by
  intro r2 g2 b2 r5 g5 b5 r9 g9 b9 r14 g14 b14 r15 g15 b15 r16 g16 b16 r17 g17 b17 r18 g18 b18 a19 h19 a20 h20 a26 h26 a27 h27 a58 h58 a59 h59 a60 h60 a61 h61 f0 f1 f2 f3 f4 f5 f6 f7 f8 f9 tt
  clear f2 f4
  have e80 : PT 80 = P_ent := pe80_3 hp
  have e82 : PT 82 = P_eaI3 := pe82_3 hp
  simp only [hF2, hF3, hF20, hFp_80, hFp_82, e80, e82, P_ent, P_eaI3, den_s, den_c, Int.add_zero, List.map_cons, List.map_nil, g2.eq, g5.eq, g9.eq, g14.eq, g15.eq, g16.eq, g17.eq, g18.eq, h19, h20, h26, h27, h58, h59, h60, h61] at f0 f1 f3 f5 f6 f7 f8 f9 ⊢
  subst f1
  subst f5
  obtain ⟨i1, i2, i3⟩ := f7
  first
    | omega
    | exact ⟨by omega, i2, fun l h1 h2 => by have h := i3 l h1 h2; rw [show r5 = r14 by omega]; exact h⟩
    | (refine ⟨by omega, i2, fun l h1 h2 => ?_⟩; rw [foldI_s (by omega)]; unfold stpT; rw [if_neg (by omega)]; exact i3 l h1 h2)
    | (have he := f0; refine ⟨by obtain ⟨t, z⟩ := he; omega, fun h => prS_ent (i2 h) he (fun _ => by omega), fun l h1 h2 => ?_⟩; rw [foldI_s (by omega)]; unfold stpT; rw [if_pos (by omega)]; exact isL_ins (foldI_srt stpT_srt h1 _) (i3 l h1 h2) he))
def w_enterAll3_14_1_5 : VC := (([(0, 23), (0, 49), (1, 8), (0, 11), (0, 9), (1, 6), (0, 6), (0, 8), (0, 9), (0, 49), (0, 49), ((-2147483648), 2147483647), ((-2147483648), 2147483647), (0, 5), (0, 5), (0, 49), (0, 7), (0, 23), (0, 49)]), [(80, [(some 15, 0), (some 18, 0), (some 17, 0), (none, 3), (some 14, 0)], [58, 59, 60, 61]), (20, [(some 17, 0), (some 14, 0)], [19]), (1, [(none, 1), (none, 0)], []), (2, [(some 16, 0), (some 2, 0)], []), (3, [(some 16, 0), (none, 0)], []), (20, [(some 16, 0), (some 14, 0)], [20]), (2, [(some 14, 0), (some 5, 0)], []), (82, [(some 14, 0), (some 9, 0), (some 15, 0), (some 2, 0)], [26, 27, 58, 59, 19, 20]), (3, [(some 5, 0), (some 14, 0)], []), (2, [(some 9, 0), (none, 43)], [])], (3, [(some 5, 0), (some 14, 1)], []))
set_option maxRecDepth 20000 in
theorem v_enterAll3_14_1_5 {PT : PTy} (hp : HP3 PT) : vcOk PT w_enterAll3_14_1_5 := vc_iv [(2, 1, 8), (5, 1, 6), (9, 0, 49), (14, 0, 5), (15, 0, 49), (16, 0, 7), (17, 0, 23), (18, 0, 49)] [19, 20, 26, 27, 58, 59, 60, 61] (by decide +kernel) (fun ρ α => by
  intro r2 g2 b2 r5 g5 b5 r9 g9 b9 r14 g14 b14 r15 g15 b15 r16 g16 b16 r17 g17 b17 r18 g18 b18 a19 h19 a20 h20 a26 h26 a27 h27 a58 h58 a59 h59 a60 h60 a61 h61 f0 f1 f2 f3 f4 f5 f6 f7 f8 f9 tt
  clear f2 f4
  have e80 : PT 80 = P_ent := pe80_3 hp
  have e82 : PT 82 = P_eaI3 := pe82_3 hp
  simp only [hF2, hF3, hF20, hFp_80, hFp_82, e80, e82, P_ent, P_eaI3, den_s, den_c, Int.add_zero, List.map_cons, List.map_nil, g2.eq, g5.eq, g9.eq, g14.eq, g15.eq, g16.eq, g17.eq, g18.eq, h19, h20, h26, h27, h58, h59, h60, h61] at f0 f1 f3 f5 f6 f7 f8 f9 ⊢
  subst f1
  subst f5
  obtain ⟨i1, i2, i3⟩ := f7
  first
    | omega
    | exact ⟨by omega, i2, fun l h1 h2 => by have h := i3 l h1 h2; rw [show r5 = r14 by omega]; exact h⟩
    | (refine ⟨by omega, i2, fun l h1 h2 => ?_⟩; rw [foldI_s (by omega)]; unfold stpT; rw [if_neg (by omega)]; exact i3 l h1 h2)
    | (have he := f0; refine ⟨by obtain ⟨t, z⟩ := he; omega, fun h => prS_ent (i2 h) he (fun _ => by omega), fun l h1 h2 => ?_⟩; rw [foldI_s (by omega)]; unfold stpT; rw [if_pos (by omega)]; exact isL_ins (foldI_srt stpT_srt h1 _) (i3 l h1 h2) he))
set_option maxRecDepth 1000000 in
theorem k_enterAll3_14 {PT : PTy} (hp : HP3 PT) : wfX c_enterAll3_14 = true ∧ xcOk PT c_enterAll3_14 := xctr (xl (k_enter14 hp) (xl0)) c_enterAll3_14 52 mX0_enterAll rfl h_enterAll3_14 (by decide +kernel) (by decide +kernel) (by decide) (vcs_by [w_enterAll3_14_0_0, w_enterAll3_14_0_1] (by decide +kernel) (vc (v_enterAll3_14_0_0 hp) (vc (v_enterAll3_14_0_1 hp) vn))) (fmc (vcs_by [w_enterAll3_14_1_0, w_enterAll3_14_1_1, w_enterAll3_14_1_2, w_enterAll3_14_1_3, w_enterAll3_14_1_4, w_enterAll3_14_1_5] (by decide +kernel) (vc (v_enterAll3_14_1_0 hp) (vc (v_enterAll3_14_1_1 hp) (vc (v_enterAll3_14_1_2 hp) (vc (v_enterAll3_14_1_3 hp) (vc (v_enterAll3_14_1_4 hp) (vc (v_enterAll3_14_1_5 hp) vn))))))) fmn)
def c_enterAll4_14 : XC := (2, 1, (bX), [.inr (.inl 5), .inr (.inl 22), .inl (none, 4)], (gX 14), [(2, [(some 9, 0), (none, 43)], [])], [((bX ++ [(0, 49)]), none, (hst (gX 14) [(5, .inr (.inr (.inr (0, [.inr (.inl 6), .inr (.inl 9), .inr (.inl 14), .inr (.inl 18), .inr (.inl 22), .inr (.inl 26), .inr (.inl 27), .inr (.inl 28), .inr (.inl 29), .inr (.inl 30), .inl (some 14, 0), .inl (some 10, 0), .inl (some 11, 0), .inl (some 12, 0), .inr (.inl 14)]))))]), (ansT 58 [(26, 58), (27, 59)]), 60, [(83, [(some 6, 0), (some 9, 0), (some 14, 0), (some 2, 0)], [26, 27, 58, 59, 23, 24])])])
def h_enterAll4_14 : List XH := [(2, (bX ++ [(0, 6), (0, 49)]), [some (.inr (.inl 5)), some (.inr (.inl 22)), some (.inl (none, 4)), some (.inl (some 14, 0))], (hst (gX 14) [(5, .inr (.inr (.inr (0, [.inr (.inl 6), .inr (.inl 9), .inr (.inl 14), .inr (.inl 18), .inr (.inl 22), .inr (.inl 26), .inr (.inl 27), .inr (.inl 28), .inr (.inl 29), .inr (.inl 30), .inl (some 15, 0), .inl (some 10, 0), .inl (some 11, 0), .inl (some 12, 0), .inr (.inl 14)]))))]), (ansT 58 [(26, 58), (27, 59)]), 60, [(83, [(some 14, 0), (some 9, 0), (some 15, 0), (some 2, 0)], [26, 27, 58, 59, 23, 24]), (3, [(some 6, 0), (some 14, 0)], [])], [(true, (none, 1)), (true, (some 14, 0))])]
def w_enterAll4_14_0_0 : VC := ((bX), [(2, [(some 9, 0), (none, 43)], [])], (83, [(none, 0), (some 9, 0), (some 9, 0), (some 2, 0)], [26, 27, 26, 27, 23, 24]))
theorem pe83_3 {PT : PTy} (hp : HP3 PT) : PT 83 = P_eaI4 := hp.2.2.2.2.1
set_option maxRecDepth 20000 in
theorem v_enterAll4_14_0_0 {PT : PTy} (hp : HP3 PT) : vcOk PT w_enterAll4_14_0_0 := vc_in [(2, 0, 8), (9, 0, 49)] (by decide +kernel) (fun ρ α => by
  intro b2 b9 f0 tt
  have e83 : PT 83 = P_eaI4 := pe83_3 hp
  simp only [hF2, hFp_83, e83, P_eaI4, den_s, den_c, Int.add_zero, List.map_cons, List.map_nil] at f0 ⊢
  first | omega | exact ⟨by omega, fun h => h, fun l _ h => h⟩)
def w_enterAll4_14_0_1 : VC := ((bX), [(2, [(some 9, 0), (none, 43)], [])], (3, [(some 6, 0), (none, 0)], []))
set_option maxRecDepth 20000 in
theorem v_enterAll4_14_0_1 {PT : PTy} (hp : HP3 PT) : vcOk PT w_enterAll4_14_0_1 := vc_in [(6, 0, 6), (9, 0, 49)] (by decide +kernel) (fun ρ α => by
  intro b6 b9 f0 tt
  simp only [hF2, hF3, den_s, den_c, Int.add_zero, List.map_cons, List.map_nil] at f0 ⊢
  first | omega | exact ⟨by omega, fun h => h, fun l _ h => h⟩)
def w_enterAll4_14_1_0 : VC := ((bX ++ [(0, 6), (0, 49)]), [(3, [(some 14, 0), (some 6, 0)], []), (83, [(some 14, 0), (some 9, 0), (some 15, 0), (some 2, 0)], [26, 27, 58, 59, 23, 24]), (3, [(some 6, 0), (some 14, 0)], []), (2, [(some 9, 0), (none, 43)], [])], (83, [(some 6, 0), (some 9, 0), (some 15, 0), (some 2, 0)], [26, 27, 58, 59, 23, 24]))
set_option maxRecDepth 20000 in
theorem v_enterAll4_14_1_0 {PT : PTy} (hp : HP3 PT) : vcOk PT w_enterAll4_14_1_0 := vc_iv [(2, 0, 8), (6, 0, 6), (9, 0, 49), (14, 0, 6), (15, 0, 49)] [23, 24, 26, 27, 58, 59] (by decide +kernel) (fun ρ α => by
  intro r2 g2 b2 r6 g6 b6 r9 g9 b9 r14 g14 b14 r15 g15 b15 a23 h23 a24 h24 a26 h26 a27 h27 a58 h58 a59 h59 f0 f1 f2 f3 tt
  have e83 : PT 83 = P_eaI4 := pe83_3 hp
  simp only [hF2, hF3, hFp_83, e83, P_eaI4, den_s, den_c, Int.add_zero, List.map_cons, List.map_nil, g2.eq, g6.eq, g9.eq, g14.eq, g15.eq, h23, h24, h26, h27, h58, h59] at f0 f1 f2 f3 ⊢
  obtain ⟨i1, i2, i3⟩ := f1
  first
    | omega
    | exact ⟨by omega, i2, fun l h1 h2 => by have h := i3 l h1 h2; rw [show r6 = r14 by omega]; exact h⟩
    | (refine ⟨by omega, i2, fun l h1 h2 => ?_⟩; rw [foldI_s (by omega)]; unfold stpT; rw [if_neg (by omega)]; exact i3 l h1 h2)
    | (have he := MISSING; refine ⟨by obtain ⟨t, z⟩ := he; omega, fun h => prS_ent (i2 h) he (fun _ => by omega), fun l h1 h2 => ?_⟩; rw [foldI_s (by omega)]; unfold stpT; rw [if_pos (by omega)]; exact isL_ins (foldI_srt stpT_srt h1 _) (i3 l h1 h2) he))
def w_enterAll4_14_1_1 : VC := (([(0, 23), (0, 49), (0, 7), (0, 11), (0, 9), (0, 6), (1, 6), (0, 8), (0, 9), (0, 49), (0, 49), ((-2147483648), 2147483647), ((-2147483648), 2147483647), (0, 5), (0, 5), (0, 49), (0, 7)]), [(0, [(none, 0), (none, 0)], []), (3, [(some 16, 0), (some 2, 0)], []), (3, [(some 16, 0), (none, 0)], []), (20, [(some 16, 0), (some 14, 0)], [24]), (2, [(some 14, 0), (some 6, 0)], []), (83, [(some 14, 0), (some 9, 0), (some 15, 0), (some 2, 0)], [26, 27, 58, 59, 23, 24]), (3, [(some 6, 0), (some 14, 0)], []), (2, [(some 9, 0), (none, 43)], [])], (83, [(some 14, 1), (some 9, 0), (some 15, 0), (some 2, 0)], [26, 27, 58, 59, 23, 24]))
set_option maxRecDepth 20000 in
theorem v_enterAll4_14_1_1 {PT : PTy} (hp : HP3 PT) : vcOk PT w_enterAll4_14_1_1 := vc_iv [(2, 0, 7), (6, 1, 6), (9, 0, 49), (14, 0, 5), (15, 0, 49), (16, 0, 7)] [23, 24, 26, 27, 58, 59] (by decide +kernel) (fun ρ α => by
  intro r2 g2 b2 r6 g6 b6 r9 g9 b9 r14 g14 b14 r15 g15 b15 r16 g16 b16 a23 h23 a24 h24 a26 h26 a27 h27 a58 h58 a59 h59 f0 f1 f2 f3 f4 f5 f6 f7 tt
  clear f0 f2
  have e83 : PT 83 = P_eaI4 := pe83_3 hp
  simp only [hF2, hF3, hF20, hFp_83, e83, P_eaI4, den_s, den_c, Int.add_zero, List.map_cons, List.map_nil, g2.eq, g6.eq, g9.eq, g14.eq, g15.eq, g16.eq, h23, h24, h26, h27, h58, h59] at f1 f3 f4 f5 f6 f7 ⊢
  subst f3
  obtain ⟨i1, i2, i3⟩ := f5
  first
    | omega
    | exact ⟨by omega, i2, fun l h1 h2 => by have h := i3 l h1 h2; rw [show r6 = r14 by omega]; exact h⟩
    | (refine ⟨by omega, i2, fun l h1 h2 => ?_⟩; rw [foldI_s (by omega)]; unfold stpT; rw [if_neg (by omega)]; exact i3 l h1 h2)
    | (have he := MISSING; refine ⟨by obtain ⟨t, z⟩ := he; omega, fun h => prS_ent (i2 h) he (fun _ => by omega), fun l h1 h2 => ?_⟩; rw [foldI_s (by omega)]; unfold stpT; rw [if_pos (by omega)]; exact isL_ins (foldI_srt stpT_srt h1 _) (i3 l h1 h2) he))
def w_enterAll4_14_1_2 : VC := (([(0, 23), (0, 49), (0, 7), (0, 11), (0, 9), (0, 6), (1, 6), (0, 8), (0, 9), (0, 49), (0, 49), ((-2147483648), 2147483647), ((-2147483648), 2147483647), (0, 5), (0, 5), (0, 49), (0, 7)]), [(0, [(none, 0), (none, 0)], []), (3, [(some 16, 0), (some 2, 0)], []), (3, [(some 16, 0), (none, 0)], []), (20, [(some 16, 0), (some 14, 0)], [24]), (2, [(some 14, 0), (some 6, 0)], []), (83, [(some 14, 0), (some 9, 0), (some 15, 0), (some 2, 0)], [26, 27, 58, 59, 23, 24]), (3, [(some 6, 0), (some 14, 0)], []), (2, [(some 9, 0), (none, 43)], [])], (3, [(some 6, 0), (some 14, 1)], []))
set_option maxRecDepth 20000 in
theorem v_enterAll4_14_1_2 {PT : PTy} (hp : HP3 PT) : vcOk PT w_enterAll4_14_1_2 := vc_iv [(2, 0, 7), (6, 1, 6), (9, 0, 49), (14, 0, 5), (15, 0, 49), (16, 0, 7)] [23, 24, 26, 27, 58, 59] (by decide +kernel) (fun ρ α => by
  intro r2 g2 b2 r6 g6 b6 r9 g9 b9 r14 g14 b14 r15 g15 b15 r16 g16 b16 a23 h23 a24 h24 a26 h26 a27 h27 a58 h58 a59 h59 f0 f1 f2 f3 f4 f5 f6 f7 tt
  clear f0 f2
  have e83 : PT 83 = P_eaI4 := pe83_3 hp
  simp only [hF2, hF3, hF20, hFp_83, e83, P_eaI4, den_s, den_c, Int.add_zero, List.map_cons, List.map_nil, g2.eq, g6.eq, g9.eq, g14.eq, g15.eq, g16.eq, h23, h24, h26, h27, h58, h59] at f1 f3 f4 f5 f6 f7 ⊢
  subst f3
  obtain ⟨i1, i2, i3⟩ := f5
  first
    | omega
    | exact ⟨by omega, i2, fun l h1 h2 => by have h := i3 l h1 h2; rw [show r6 = r14 by omega]; exact h⟩
    | (refine ⟨by omega, i2, fun l h1 h2 => ?_⟩; rw [foldI_s (by omega)]; unfold stpT; rw [if_neg (by omega)]; exact i3 l h1 h2)
    | (have he := MISSING; refine ⟨by obtain ⟨t, z⟩ := he; omega, fun h => prS_ent (i2 h) he (fun _ => by omega), fun l h1 h2 => ?_⟩; rw [foldI_s (by omega)]; unfold stpT; rw [if_pos (by omega)]; exact isL_ins (foldI_srt stpT_srt h1 _) (i3 l h1 h2) he))
def w_enterAll4_14_1_3 : VC := (([(0, 23), (0, 49), (1, 8), (0, 11), (0, 9), (0, 6), (1, 6), (0, 8), (0, 9), (0, 49), (0, 49), ((-2147483648), 2147483647), ((-2147483648), 2147483647), (0, 5), (0, 5), (0, 49), (0, 7), (0, 23)]), [(20, [(some 17, 0), (some 14, 0)], [23]), (1, [(none, 1), (none, 0)], []), (2, [(some 16, 0), (some 2, 0)], []), (3, [(some 16, 0), (none, 0)], []), (20, [(some 16, 0), (some 14, 0)], [24]), (2, [(some 14, 0), (some 6, 0)], []), (83, [(some 14, 0), (some 9, 0), (some 15, 0), (some 2, 0)], [26, 27, 58, 59, 23, 24]), (3, [(some 6, 0), (some 14, 0)], []), (2, [(some 9, 0), (none, 43)], [])], (2, [(some 15, 0), (none, 49)], []))
set_option maxRecDepth 20000 in
theorem v_enterAll4_14_1_3 {PT : PTy} (hp : HP3 PT) : vcOk PT w_enterAll4_14_1_3 := vc_iv [(2, 1, 8), (6, 1, 6), (9, 0, 49), (14, 0, 5), (15, 0, 49), (16, 0, 7), (17, 0, 23)] [23, 24, 26, 27, 58, 59] (by decide +kernel) (fun ρ α => by
  intro r2 g2 b2 r6 g6 b6 r9 g9 b9 r14 g14 b14 r15 g15 b15 r16 g16 b16 r17 g17 b17 a23 h23 a24 h24 a26 h26 a27 h27 a58 h58 a59 h59 f0 f1 f2 f3 f4 f5 f6 f7 f8 tt
  clear f1 f3
  have e83 : PT 83 = P_eaI4 := pe83_3 hp
  simp only [hF2, hF3, hF20, hFp_83, e83, P_eaI4, den_s, den_c, Int.add_zero, List.map_cons, List.map_nil, g2.eq, g6.eq, g9.eq, g14.eq, g15.eq, g16.eq, g17.eq, h23, h24, h26, h27, h58, h59] at f0 f2 f4 f5 f6 f7 f8 ⊢
  subst f0
  subst f4
  obtain ⟨i1, i2, i3⟩ := f6
  first
    | omega
    | exact ⟨by omega, i2, fun l h1 h2 => by have h := i3 l h1 h2; rw [show r6 = r14 by omega]; exact h⟩
    | (refine ⟨by omega, i2, fun l h1 h2 => ?_⟩; rw [foldI_s (by omega)]; unfold stpT; rw [if_neg (by omega)]; exact i3 l h1 h2)
    | (have he := MISSING; refine ⟨by obtain ⟨t, z⟩ := he; omega, fun h => prS_ent (i2 h) he (fun _ => by omega), fun l h1 h2 => ?_⟩; rw [foldI_s (by omega)]; unfold stpT; rw [if_pos (by omega)]; exact isL_ins (foldI_srt stpT_srt h1 _) (i3 l h1 h2) he))
def w_enterAll4_14_1_4 : VC := (([(0, 23), (0, 49), (1, 8), (0, 11), (0, 9), (0, 6), (1, 6), (0, 8), (0, 9), (0, 49), (0, 49), ((-2147483648), 2147483647), ((-2147483648), 2147483647), (0, 5), (0, 5), (0, 49), (0, 7), (0, 23), (0, 49)]), [(80, [(some 15, 0), (some 18, 0), (some 17, 0), (none, 4), (some 14, 0)], [58, 59, 60, 61]), (20, [(some 17, 0), (some 14, 0)], [23]), (1, [(none, 1), (none, 0)], []), (2, [(some 16, 0), (some 2, 0)], []), (3, [(some 16, 0), (none, 0)], []), (20, [(some 16, 0), (some 14, 0)], [24]), (2, [(some 14, 0), (some 6, 0)], []), (83, [(some 14, 0), (some 9, 0), (some 15, 0), (some 2, 0)], [26, 27, 58, 59, 23, 24]), (3, [(some 6, 0), (some 14, 0)], []), (2, [(some 9, 0), (none, 43)], [])], (83, [(some 14, 1), (some 9, 0), (some 18, 0), (some 2, 0)], [26, 27, 60, 61, 23, 24]))
set_option maxRecDepth 20000 in
theorem v_enterAll4_14_1_4 {PT : PTy} (hp : HP3 PT) : vcOk PT w_enterAll4_14_1_4 := vc_iv [(2, 1, 8), (6, 1, 6), (9, 0, 49), (14, 0, 5), (15, 0, 49), (16, 0, 7), (17, 0, 23), (18, 0, 49)] [23, 24, 26, 27, 58, 59, 60, 61] (by decide +kernel) (fun ρ α => by
  intro r2 g2 b2 r6 g6 b6 r9 g9 b9 r14 g14 b14 r15 g15 b15 r16 g16 b16 r17 g17 b17 r18 g18 b18 a23 h23 a24 h24 a26 h26 a27 h27 a58 h58 a59 h59 a60 h60 a61 h61 f0 f1 f2 f3 f4 f5 f6 f7 f8 f9 tt
  clear f2 f4
  have e80 : PT 80 = P_ent := pe80_3 hp
  have e83 : PT 83 = P_eaI4 := pe83_3 hp
  simp only [hF2, hF3, hF20, hFp_80, hFp_83, e80, e83, P_ent, P_eaI4, den_s, den_c, Int.add_zero, List.map_cons, List.map_nil, g2.eq, g6.eq, g9.eq, g14.eq, g15.eq, g16.eq, g17.eq, g18.eq, h23, h24, h26, h27, h58, h59, h60, h61] at f0 f1 f3 f5 f6 f7 f8 f9 ⊢
  subst f1
  subst f5
  obtain ⟨i1, i2, i3⟩ := f7
  first
    | omega
    | exact ⟨by omega, i2, fun l h1 h2 => by have h := i3 l h1 h2; rw [show r6 = r14 by omega]; exact h⟩
    | (refine ⟨by omega, i2, fun l h1 h2 => ?_⟩; rw [foldI_s (by omega)]; unfold stpT; rw [if_neg (by omega)]; exact i3 l h1 h2)
    | (have he := f0; refine ⟨by obtain ⟨t, z⟩ := he; omega, fun h => prS_ent (i2 h) he (fun _ => by omega), fun l h1 h2 => ?_⟩; rw [foldI_s (by omega)]; unfold stpT; rw [if_pos (by omega)]; exact isL_ins (foldI_srt stpT_srt h1 _) (i3 l h1 h2) he))
def w_enterAll4_14_1_5 : VC := (([(0, 23), (0, 49), (1, 8), (0, 11), (0, 9), (0, 6), (1, 6), (0, 8), (0, 9), (0, 49), (0, 49), ((-2147483648), 2147483647), ((-2147483648), 2147483647), (0, 5), (0, 5), (0, 49), (0, 7), (0, 23), (0, 49)]), [(80, [(some 15, 0), (some 18, 0), (some 17, 0), (none, 4), (some 14, 0)], [58, 59, 60, 61]), (20, [(some 17, 0), (some 14, 0)], [23]), (1, [(none, 1), (none, 0)], []), (2, [(some 16, 0), (some 2, 0)], []), (3, [(some 16, 0), (none, 0)], []), (20, [(some 16, 0), (some 14, 0)], [24]), (2, [(some 14, 0), (some 6, 0)], []), (83, [(some 14, 0), (some 9, 0), (some 15, 0), (some 2, 0)], [26, 27, 58, 59, 23, 24]), (3, [(some 6, 0), (some 14, 0)], []), (2, [(some 9, 0), (none, 43)], [])], (3, [(some 6, 0), (some 14, 1)], []))
set_option maxRecDepth 20000 in
theorem v_enterAll4_14_1_5 {PT : PTy} (hp : HP3 PT) : vcOk PT w_enterAll4_14_1_5 := vc_iv [(2, 1, 8), (6, 1, 6), (9, 0, 49), (14, 0, 5), (15, 0, 49), (16, 0, 7), (17, 0, 23), (18, 0, 49)] [23, 24, 26, 27, 58, 59, 60, 61] (by decide +kernel) (fun ρ α => by
  intro r2 g2 b2 r6 g6 b6 r9 g9 b9 r14 g14 b14 r15 g15 b15 r16 g16 b16 r17 g17 b17 r18 g18 b18 a23 h23 a24 h24 a26 h26 a27 h27 a58 h58 a59 h59 a60 h60 a61 h61 f0 f1 f2 f3 f4 f5 f6 f7 f8 f9 tt
  clear f2 f4
  have e80 : PT 80 = P_ent := pe80_3 hp
  have e83 : PT 83 = P_eaI4 := pe83_3 hp
  simp only [hF2, hF3, hF20, hFp_80, hFp_83, e80, e83, P_ent, P_eaI4, den_s, den_c, Int.add_zero, List.map_cons, List.map_nil, g2.eq, g6.eq, g9.eq, g14.eq, g15.eq, g16.eq, g17.eq, g18.eq, h23, h24, h26, h27, h58, h59, h60, h61] at f0 f1 f3 f5 f6 f7 f8 f9 ⊢
  subst f1
  subst f5
  obtain ⟨i1, i2, i3⟩ := f7
  first
    | omega
    | exact ⟨by omega, i2, fun l h1 h2 => by have h := i3 l h1 h2; rw [show r6 = r14 by omega]; exact h⟩
    | (refine ⟨by omega, i2, fun l h1 h2 => ?_⟩; rw [foldI_s (by omega)]; unfold stpT; rw [if_neg (by omega)]; exact i3 l h1 h2)
    | (have he := f0; refine ⟨by obtain ⟨t, z⟩ := he; omega, fun h => prS_ent (i2 h) he (fun _ => by omega), fun l h1 h2 => ?_⟩; rw [foldI_s (by omega)]; unfold stpT; rw [if_pos (by omega)]; exact isL_ins (foldI_srt stpT_srt h1 _) (i3 l h1 h2) he))
set_option maxRecDepth 1000000 in
theorem k_enterAll4_14 {PT : PTy} (hp : HP3 PT) : wfX c_enterAll4_14 = true ∧ xcOk PT c_enterAll4_14 := xctr (xl (k_enter14 hp) (xl0)) c_enterAll4_14 52 mX0_enterAll rfl h_enterAll4_14 (by decide +kernel) (by decide +kernel) (by decide) (vcs_by [w_enterAll4_14_0_0, w_enterAll4_14_0_1] (by decide +kernel) (vc (v_enterAll4_14_0_0 hp) (vc (v_enterAll4_14_0_1 hp) vn))) (fmc (vcs_by [w_enterAll4_14_1_0, w_enterAll4_14_1_1, w_enterAll4_14_1_2, w_enterAll4_14_1_3, w_enterAll4_14_1_4, w_enterAll4_14_1_5] (by decide +kernel) (vc (v_enterAll4_14_1_0 hp) (vc (v_enterAll4_14_1_1 hp) (vc (v_enterAll4_14_1_2 hp) (vc (v_enterAll4_14_1_3 hp) (vc (v_enterAll4_14_1_4 hp) (vc (v_enterAll4_14_1_5 hp) vn))))))) fmn)
def c_arrange14 : XC := (1, 2, (bX), [.inr (.inl 5), .inr (.inl 14)], (gX 999), [], [((bX ++ [(0, 49)]), none, (hst (gX 14) [(5, .inr (.inr (.inr (0, [.inr (.inl 6), .inr (.inl 9), .inr (.inl 14), .inr (.inl 18), .inr (.inl 22), .inr (.inl 26), .inr (.inl 27), .inr (.inl 28), .inr (.inl 29), .inr (.inl 30), .inl (some 14, 0), .inl (some 10, 0), .inl (none, 0), .inl (none, 0), .inr (.inl 14)]))))]), (ansT 58 [(26, 58), (27, 59)]), 60, [(86, [(some 2, 0), (some 3, 0), (some 4, 0), (some 5, 0), (some 6, 0), (some 14, 0)], [58, 59, 10, 12, 13, 15, 16, 19, 20, 23, 24])])])
def h_arrange14 : List XH := [(103, (bX ++ [(0, 9), (0, 49)]), [some (.inr (.inl 5)), some (.inr (.inl 14)), some (.inl (some 14, 0))], (hst (gX 14) [(5, .inr (.inr (.inr (0, [.inr (.inl 6), .inr (.inl 9), .inr (.inl 14), .inr (.inl 18), .inr (.inl 22), .inr (.inl 26), .inr (.inl 27), .inr (.inl 28), .inr (.inl 29), .inr (.inl 30), .inl (some 15, 0), .inl (some 10, 0), .inl (none, 0), .inl (none, 0), .inr (.inl 14)]))))]), (ansT 58 [(26, 58), (27, 59)]), 60, [(85, [(some 14, 0), (some 2, 0), (some 3, 0), (some 15, 0)], [58, 59, 10, 12, 13, 15, 16]), (3, [(some 4, 0), (some 14, 0)], [])], [(true, (none, 2)), (true, (some 14, 0))]),
  (22, (bX ++ [(0, 11), (0, 49)]), [some (.inr (.inl 5)), some (.inr (.inl 14)), some (.inl (some 14, 0))], (hst (gX 14) [(5, .inr (.inr (.inr (0, [.inr (.inl 6), .inr (.inl 9), .inr (.inl 14), .inr (.inl 18), .inr (.inl 22), .inr (.inl 26), .inr (.inl 27), .inr (.inl 28), .inr (.inl 29), .inr (.inl 30), .inl (some 15, 0), .inl (some 10, 0), .inl (none, 0), .inl (none, 0), .inr (.inl 14)]))))]), (ansT 58 [(26, 58), (27, 59)]), 60, [(84, [(some 14, 0), (some 2, 0), (some 15, 0)], [58, 59, 10, 12, 13]), (3, [(some 3, 0), (some 14, 0)], [])], [(true, (none, 1)), (true, (some 14, 0))])]
def w_arrange14_0_0 : VC := ((bX), [], (84, [(none, 0), (some 2, 0), (none, 0)], [26, 27, 10, 12, 13]))
theorem pe84_3 {PT : PTy} (hp : HP3 PT) : PT 84 = P_arV := hp.2.2.2.2.2.1
set_option maxRecDepth 20000 in
theorem v_arrange14_0_0 {PT : PTy} (hp : HP3 PT) : vcOk PT w_arrange14_0_0 := vc_in [(2, 0, 8)] (by decide +kernel) (fun ρ α => by
  intro b2 tt
  have e84 : PT 84 = P_arV := pe84_3 hp
  simp only [hFp_84, e84, P_arV, den_s, den_c, Int.add_zero, List.map_cons, List.map_nil] at ⊢
  first | omega | exact ⟨by omega, fun i h1 h2 => by omega, isL_nil⟩)
def w_arrange14_0_1 : VC := ((bX), [], (3, [(some 3, 0), (none, 0)], []))
set_option maxRecDepth 20000 in
theorem v_arrange14_0_1 {PT : PTy} (hp : HP3 PT) : vcOk PT w_arrange14_0_1 := vc_in [(3, 0, 11)] (by decide +kernel) (fun ρ α => by
  intro b3 tt
  simp only [hF3, den_s, den_c, Int.add_zero, List.map_cons, List.map_nil] at ⊢
  first | omega | exact ⟨by omega, fun i h1 h2 => by omega, isL_nil⟩)
def w_arrange14_1_0 : VC := ((bX ++ [(0, 9), (0, 49)]), [(3, [(some 14, 0), (some 4, 0)], []), (85, [(some 14, 0), (some 2, 0), (some 3, 0), (some 15, 0)], [58, 59, 10, 12, 13, 15, 16]), (3, [(some 4, 0), (some 14, 0)], [])], (2, [(some 15, 0), (none, 43)], []))
theorem pe85_3 {PT : PTy} (hp : HP3 PT) : PT 85 = P_arK := hp.2.2.2.2.2.2.1
set_option maxRecDepth 20000 in
theorem v_arrange14_1_0 {PT : PTy} (hp : HP3 PT) : vcOk PT w_arrange14_1_0 := vc_iv [(2, 0, 8), (3, 0, 11), (4, 0, 9), (14, 0, 9), (15, 0, 49)] [10, 12, 13, 15, 16, 58, 59] (by decide +kernel) (fun ρ α => by
  intro r2 g2 b2 r3 g3 b3 r4 g4 b4 r14 g14 b14 r15 g15 b15 a10 h10 a12 h12 a13 h13 a15 h15 a16 h16 a58 h58 a59 h59 f0 f1 f2 tt
  have e85 : PT 85 = P_arK := pe85_3 hp
  simp only [hF2, hF3, hFp_85, e85, P_arK, den_s, den_c, Int.add_zero, List.map_cons, List.map_nil, g2.eq, g3.eq, g4.eq, g14.eq, g15.eq, h10, h12, h13, h15, h16, h58, h59] at f0 f1 f2 ⊢
  obtain ⟨i1, i2, i3⟩ := f1
  first
    | omega
    | (obtain ⟨e1, e2, e3⟩ := MISSING; omega)
    | (rw [show r14 = r4 by omega] at i3; exact ⟨(MISSING).2.1 ((MISSING).2.1 i2), (MISSING).2.2 _ aL_srt ((MISSING).2.2 _ aK_srt i3)⟩)
    | (refine ⟨by omega, i2, ?_⟩; rw [foldI_s (by omega)]; unfold stpK; rw [if_neg (by omega)]; exact i3)
    | (have he := MISSING; refine ⟨by obtain ⟨t, z⟩ := he; omega, prS_ent i2 he (fun _ => by omega), ?_⟩; rw [foldI_s (by omega)]; unfold stpK; rw [if_pos (by omega)]; exact isL_ins (foldI_srt stpK_srt aV_srt _) i3 he))
def w_arrange14_1_1 : VC := ((bX ++ [(0, 9), (0, 49), (0, 49)]), [(82, [(some 5, 0), (some 15, 0), (some 16, 0), (some 2, 0)], [58, 59, 60, 61, 19, 20]), (3, [(some 14, 0), (some 4, 0)], []), (85, [(some 14, 0), (some 2, 0), (some 3, 0), (some 15, 0)], [58, 59, 10, 12, 13, 15, 16]), (3, [(some 4, 0), (some 14, 0)], [])], (2, [(some 16, 0), (none, 43)], []))
set_option maxRecDepth 20000 in
theorem v_arrange14_1_1 {PT : PTy} (hp : HP3 PT) : vcOk PT w_arrange14_1_1 := vc_iv [(2, 0, 8), (3, 0, 11), (4, 0, 9), (5, 0, 6), (14, 0, 9), (15, 0, 49), (16, 0, 49)] [10, 12, 13, 15, 16, 19, 20, 58, 59, 60, 61] (by decide +kernel) (fun ρ α => by
  intro r2 g2 b2 r3 g3 b3 r4 g4 b4 r5 g5 b5 r14 g14 b14 r15 g15 b15 r16 g16 b16 a10 h10 a12 h12 a13 h13 a15 h15 a16 h16 a19 h19 a20 h20 a58 h58 a59 h59 a60 h60 a61 h61 f0 f1 f2 f3 tt
  have e82 : PT 82 = P_eaI3 := pe82_3 hp
  have e85 : PT 85 = P_arK := pe85_3 hp
  simp only [hF2, hF3, hFp_82, hFp_85, e82, e85, P_eaI3, P_arK, den_s, den_c, Int.add_zero, List.map_cons, List.map_nil, g2.eq, g3.eq, g4.eq, g5.eq, g14.eq, g15.eq, g16.eq, h10, h12, h13, h15, h16, h19, h20, h58, h59, h60, h61] at f0 f1 f2 f3 ⊢
  obtain ⟨i1, i2, i3⟩ := f2
  first
    | omega
    | (obtain ⟨e1, e2, e3⟩ := f0; omega)
    | (rw [show r14 = r4 by omega] at i3; exact ⟨(MISSING).2.1 ((f0).2.1 i2), (MISSING).2.2 _ aL_srt ((f0).2.2 _ aK_srt i3)⟩)
    | (refine ⟨by omega, i2, ?_⟩; rw [foldI_s (by omega)]; unfold stpK; rw [if_neg (by omega)]; exact i3)
    | (have he := MISSING; refine ⟨by obtain ⟨t, z⟩ := he; omega, prS_ent i2 he (fun _ => by omega), ?_⟩; rw [foldI_s (by omega)]; unfold stpK; rw [if_pos (by omega)]; exact isL_ins (foldI_srt stpK_srt aV_srt _) i3 he))
def w_arrange14_1_2 : VC := ((bX ++ [(0, 9), (0, 49), (0, 49), (0, 49)]), [(83, [(some 6, 0), (some 16, 0), (some 17, 0), (some 2, 0)], [60, 61, 62, 63, 23, 24]), (82, [(some 5, 0), (some 15, 0), (some 16, 0), (some 2, 0)], [58, 59, 60, 61, 19, 20]), (3, [(some 14, 0), (some 4, 0)], []), (85, [(some 14, 0), (some 2, 0), (some 3, 0), (some 15, 0)], [58, 59, 10, 12, 13, 15, 16]), (3, [(some 4, 0), (some 14, 0)], [])], (86, [(some 2, 0), (some 3, 0), (some 4, 0), (some 5, 0), (some 6, 0), (some 17, 0)], [62, 63, 10, 12, 13, 15, 16, 19, 20, 23, 24]))
theorem pe86_3 {PT : PTy} (hp : HP3 PT) : PT 86 = P_arr := hp.2.2.2.2.2.2.2.1
set_option maxRecDepth 20000 in
theorem v_arrange14_1_2 {PT : PTy} (hp : HP3 PT) : vcOk PT w_arrange14_1_2 := vc_iv [(2, 0, 8), (3, 0, 11), (4, 0, 9), (5, 0, 6), (6, 0, 6), (14, 0, 9), (15, 0, 49), (16, 0, 49), (17, 0, 49)] [10, 12, 13, 15, 16, 19, 20, 23, 24, 58, 59, 60, 61, 62, 63] (by decide +kernel) (fun ρ α => by
  intro r2 g2 b2 r3 g3 b3 r4 g4 b4 r5 g5 b5 r6 g6 b6 r14 g14 b14 r15 g15 b15 r16 g16 b16 r17 g17 b17 a10 h10 a12 h12 a13 h13 a15 h15 a16 h16 a19 h19 a20 h20 a23 h23 a24 h24 a58 h58 a59 h59 a60 h60 a61 h61 a62 h62 a63 h63 f0 f1 f2 f3 f4 tt
  have e82 : PT 82 = P_eaI3 := pe82_3 hp
  have e83 : PT 83 = P_eaI4 := pe83_3 hp
  have e85 : PT 85 = P_arK := pe85_3 hp
  have e86 : PT 86 = P_arr := pe86_3 hp
  simp only [hF3, hFp_82, hFp_83, hFp_85, hFp_86, e82, e83, e85, e86, P_eaI3, P_eaI4, P_arK, P_arr, den_s, den_c, Int.add_zero, List.map_cons, List.map_nil, g2.eq, g3.eq, g4.eq, g5.eq, g6.eq, g14.eq, g15.eq, g16.eq, g17.eq, h10, h12, h13, h15, h16, h19, h20, h23, h24, h58, h59, h60, h61, h62, h63] at f0 f1 f2 f3 f4 ⊢
  obtain ⟨i1, i2, i3⟩ := f3
  first
    | omega
    | (obtain ⟨e1, e2, e3⟩ := f1; omega)
    | (rw [show r14 = r4 by omega] at i3; exact ⟨(f0).2.1 ((f1).2.1 i2), (f0).2.2 _ aL_srt ((f1).2.2 _ aK_srt i3)⟩)
    | (refine ⟨by omega, i2, ?_⟩; rw [foldI_s (by omega)]; unfold stpK; rw [if_neg (by omega)]; exact i3)
    | (have he := MISSING; refine ⟨by obtain ⟨t, z⟩ := he; omega, prS_ent i2 he (fun _ => by omega), ?_⟩; rw [foldI_s (by omega)]; unfold stpK; rw [if_pos (by omega)]; exact isL_ins (foldI_srt stpK_srt aV_srt _) i3 he))
def w_arrange14_1_3 : VC := (([(0, 23), (0, 49), (0, 8), (0, 9), (1, 9), (0, 6), (0, 6), (0, 8), (0, 9), (0, 49), (0, 49), ((-2147483648), 2147483647), ((-2147483648), 2147483647), (0, 5), (0, 8), (0, 49), (0, 9)]), [(0, [(none, 0), (none, 0)], []), (3, [(some 16, 0), (some 3, 0)], []), (3, [(some 16, 0), (none, 0)], []), (20, [(some 16, 0), (some 14, 0)], [16]), (2, [(some 14, 0), (some 4, 0)], []), (85, [(some 14, 0), (some 2, 0), (some 3, 0), (some 15, 0)], [58, 59, 10, 12, 13, 15, 16]), (3, [(some 4, 0), (some 14, 0)], [])], (85, [(some 14, 1), (some 2, 0), (some 3, 0), (some 15, 0)], [58, 59, 10, 12, 13, 15, 16]))
set_option maxRecDepth 20000 in
theorem v_arrange14_1_3 {PT : PTy} (hp : HP3 PT) : vcOk PT w_arrange14_1_3 := vc_iv [(2, 0, 8), (3, 0, 9), (4, 1, 9), (14, 0, 8), (15, 0, 49), (16, 0, 9)] [10, 12, 13, 15, 16, 58, 59] (by decide +kernel) (fun ρ α => by
  intro r2 g2 b2 r3 g3 b3 r4 g4 b4 r14 g14 b14 r15 g15 b15 r16 g16 b16 a10 h10 a12 h12 a13 h13 a15 h15 a16 h16 a58 h58 a59 h59 f0 f1 f2 f3 f4 f5 f6 tt
  clear f0 f2
  have e85 : PT 85 = P_arK := pe85_3 hp
  simp only [hF2, hF3, hF20, hFp_85, e85, P_arK, den_s, den_c, Int.add_zero, List.map_cons, List.map_nil, g2.eq, g3.eq, g4.eq, g14.eq, g15.eq, g16.eq, h10, h12, h13, h15, h16, h58, h59] at f1 f3 f4 f5 f6 ⊢
  subst f3
  obtain ⟨i1, i2, i3⟩ := f5
  first
    | omega
    | (obtain ⟨e1, e2, e3⟩ := MISSING; omega)
    | (rw [show r14 = r4 by omega] at i3; exact ⟨(MISSING).2.1 ((MISSING).2.1 i2), (MISSING).2.2 _ aL_srt ((MISSING).2.2 _ aK_srt i3)⟩)
    | (refine ⟨by omega, i2, ?_⟩; rw [foldI_s (by omega)]; unfold stpK; rw [if_neg (by omega)]; exact i3)
    | (have he := MISSING; refine ⟨by obtain ⟨t, z⟩ := he; omega, prS_ent i2 he (fun _ => by omega), ?_⟩; rw [foldI_s (by omega)]; unfold stpK; rw [if_pos (by omega)]; exact isL_ins (foldI_srt stpK_srt aV_srt _) i3 he))
def w_arrange14_1_4 : VC := (([(0, 23), (0, 49), (0, 8), (0, 9), (1, 9), (0, 6), (0, 6), (0, 8), (0, 9), (0, 49), (0, 49), ((-2147483648), 2147483647), ((-2147483648), 2147483647), (0, 5), (0, 8), (0, 49), (0, 9)]), [(0, [(none, 0), (none, 0)], []), (3, [(some 16, 0), (some 3, 0)], []), (3, [(some 16, 0), (none, 0)], []), (20, [(some 16, 0), (some 14, 0)], [16]), (2, [(some 14, 0), (some 4, 0)], []), (85, [(some 14, 0), (some 2, 0), (some 3, 0), (some 15, 0)], [58, 59, 10, 12, 13, 15, 16]), (3, [(some 4, 0), (some 14, 0)], [])], (3, [(some 4, 0), (some 14, 1)], []))
set_option maxRecDepth 20000 in
theorem v_arrange14_1_4 {PT : PTy} (hp : HP3 PT) : vcOk PT w_arrange14_1_4 := vc_iv [(2, 0, 8), (3, 0, 9), (4, 1, 9), (14, 0, 8), (15, 0, 49), (16, 0, 9)] [10, 12, 13, 15, 16, 58, 59] (by decide +kernel) (fun ρ α => by
  intro r2 g2 b2 r3 g3 b3 r4 g4 b4 r14 g14 b14 r15 g15 b15 r16 g16 b16 a10 h10 a12 h12 a13 h13 a15 h15 a16 h16 a58 h58 a59 h59 f0 f1 f2 f3 f4 f5 f6 tt
  clear f0 f2
  have e85 : PT 85 = P_arK := pe85_3 hp
  simp only [hF2, hF3, hF20, hFp_85, e85, P_arK, den_s, den_c, Int.add_zero, List.map_cons, List.map_nil, g2.eq, g3.eq, g4.eq, g14.eq, g15.eq, g16.eq, h10, h12, h13, h15, h16, h58, h59] at f1 f3 f4 f5 f6 ⊢
  subst f3
  obtain ⟨i1, i2, i3⟩ := f5
  first
    | omega
    | (obtain ⟨e1, e2, e3⟩ := MISSING; omega)
    | (rw [show r14 = r4 by omega] at i3; exact ⟨(MISSING).2.1 ((MISSING).2.1 i2), (MISSING).2.2 _ aL_srt ((MISSING).2.2 _ aK_srt i3)⟩)
    | (refine ⟨by omega, i2, ?_⟩; rw [foldI_s (by omega)]; unfold stpK; rw [if_neg (by omega)]; exact i3)
    | (have he := MISSING; refine ⟨by obtain ⟨t, z⟩ := he; omega, prS_ent i2 he (fun _ => by omega), ?_⟩; rw [foldI_s (by omega)]; unfold stpK; rw [if_pos (by omega)]; exact isL_ins (foldI_srt stpK_srt aV_srt _) i3 he))
def w_arrange14_1_5 : VC := (([(0, 23), (0, 49), (0, 8), (1, 11), (1, 9), (0, 6), (0, 6), (0, 8), (0, 9), (0, 49), (0, 49), ((-2147483648), 2147483647), ((-2147483648), 2147483647), (0, 5), (0, 8), (0, 49), (0, 9), (0, 23)]), [(20, [(some 17, 0), (some 14, 0)], [15]), (1, [(none, 1), (none, 0)], []), (2, [(some 16, 0), (some 3, 0)], []), (3, [(some 16, 0), (none, 0)], []), (20, [(some 16, 0), (some 14, 0)], [16]), (2, [(some 14, 0), (some 4, 0)], []), (85, [(some 14, 0), (some 2, 0), (some 3, 0), (some 15, 0)], [58, 59, 10, 12, 13, 15, 16]), (3, [(some 4, 0), (some 14, 0)], [])], (2, [(some 15, 0), (none, 49)], []))
set_option maxRecDepth 20000 in
theorem v_arrange14_1_5 {PT : PTy} (hp : HP3 PT) : vcOk PT w_arrange14_1_5 := vc_iv [(2, 0, 8), (3, 1, 11), (4, 1, 9), (14, 0, 8), (15, 0, 49), (16, 0, 9), (17, 0, 23)] [10, 12, 13, 15, 16, 58, 59] (by decide +kernel) (fun ρ α => by
  intro r2 g2 b2 r3 g3 b3 r4 g4 b4 r14 g14 b14 r15 g15 b15 r16 g16 b16 r17 g17 b17 a10 h10 a12 h12 a13 h13 a15 h15 a16 h16 a58 h58 a59 h59 f0 f1 f2 f3 f4 f5 f6 f7 tt
  clear f1 f3
  have e85 : PT 85 = P_arK := pe85_3 hp
  simp only [hF2, hF3, hF20, hFp_85, e85, P_arK, den_s, den_c, Int.add_zero, List.map_cons, List.map_nil, g2.eq, g3.eq, g4.eq, g14.eq, g15.eq, g16.eq, g17.eq, h10, h12, h13, h15, h16, h58, h59] at f0 f2 f4 f5 f6 f7 ⊢
  subst f0
  subst f4
  obtain ⟨i1, i2, i3⟩ := f6
  first
    | omega
    | (obtain ⟨e1, e2, e3⟩ := MISSING; omega)
    | (rw [show r14 = r4 by omega] at i3; exact ⟨(MISSING).2.1 ((MISSING).2.1 i2), (MISSING).2.2 _ aL_srt ((MISSING).2.2 _ aK_srt i3)⟩)
    | (refine ⟨by omega, i2, ?_⟩; rw [foldI_s (by omega)]; unfold stpK; rw [if_neg (by omega)]; exact i3)
    | (have he := MISSING; refine ⟨by obtain ⟨t, z⟩ := he; omega, prS_ent i2 he (fun _ => by omega), ?_⟩; rw [foldI_s (by omega)]; unfold stpK; rw [if_pos (by omega)]; exact isL_ins (foldI_srt stpK_srt aV_srt _) i3 he))
def w_arrange14_1_6 : VC := (([(0, 23), (0, 49), (0, 8), (1, 11), (1, 9), (0, 6), (0, 6), (0, 8), (0, 9), (0, 49), (0, 49), ((-2147483648), 2147483647), ((-2147483648), 2147483647), (0, 5), (0, 8), (0, 49), (0, 9), (0, 23), (0, 49)]), [(80, [(some 15, 0), (some 18, 0), (some 17, 0), (none, 1), (some 14, 0)], [58, 59, 60, 61]), (20, [(some 17, 0), (some 14, 0)], [15]), (1, [(none, 1), (none, 0)], []), (2, [(some 16, 0), (some 3, 0)], []), (3, [(some 16, 0), (none, 0)], []), (20, [(some 16, 0), (some 14, 0)], [16]), (2, [(some 14, 0), (some 4, 0)], []), (85, [(some 14, 0), (some 2, 0), (some 3, 0), (some 15, 0)], [58, 59, 10, 12, 13, 15, 16]), (3, [(some 4, 0), (some 14, 0)], [])], (85, [(some 14, 1), (some 2, 0), (some 3, 0), (some 18, 0)], [60, 61, 10, 12, 13, 15, 16]))
set_option maxRecDepth 20000 in
theorem v_arrange14_1_6 {PT : PTy} (hp : HP3 PT) : vcOk PT w_arrange14_1_6 := vc_iv [(2, 0, 8), (3, 1, 11), (4, 1, 9), (14, 0, 8), (15, 0, 49), (16, 0, 9), (17, 0, 23), (18, 0, 49)] [10, 12, 13, 15, 16, 58, 59, 60, 61] (by decide +kernel) (fun ρ α => by
  intro r2 g2 b2 r3 g3 b3 r4 g4 b4 r14 g14 b14 r15 g15 b15 r16 g16 b16 r17 g17 b17 r18 g18 b18 a10 h10 a12 h12 a13 h13 a15 h15 a16 h16 a58 h58 a59 h59 a60 h60 a61 h61 f0 f1 f2 f3 f4 f5 f6 f7 f8 tt
  clear f2 f4
  have e80 : PT 80 = P_ent := pe80_3 hp
  have e85 : PT 85 = P_arK := pe85_3 hp
  simp only [hF2, hF3, hF20, hFp_80, hFp_85, e80, e85, P_ent, P_arK, den_s, den_c, Int.add_zero, List.map_cons, List.map_nil, g2.eq, g3.eq, g4.eq, g14.eq, g15.eq, g16.eq, g17.eq, g18.eq, h10, h12, h13, h15, h16, h58, h59, h60, h61] at f0 f1 f3 f5 f6 f7 f8 ⊢
  subst f1
  subst f5
  obtain ⟨i1, i2, i3⟩ := f7
  first
    | omega
    | (obtain ⟨e1, e2, e3⟩ := MISSING; omega)
    | (rw [show r14 = r4 by omega] at i3; exact ⟨(MISSING).2.1 ((MISSING).2.1 i2), (MISSING).2.2 _ aL_srt ((MISSING).2.2 _ aK_srt i3)⟩)
    | (refine ⟨by omega, i2, ?_⟩; rw [foldI_s (by omega)]; unfold stpK; rw [if_neg (by omega)]; exact i3)
    | (have he := f0; refine ⟨by obtain ⟨t, z⟩ := he; omega, prS_ent i2 he (fun _ => by omega), ?_⟩; rw [foldI_s (by omega)]; unfold stpK; rw [if_pos (by omega)]; exact isL_ins (foldI_srt stpK_srt aV_srt _) i3 he))
def w_arrange14_1_7 : VC := (([(0, 23), (0, 49), (0, 8), (1, 11), (1, 9), (0, 6), (0, 6), (0, 8), (0, 9), (0, 49), (0, 49), ((-2147483648), 2147483647), ((-2147483648), 2147483647), (0, 5), (0, 8), (0, 49), (0, 9), (0, 23), (0, 49)]), [(80, [(some 15, 0), (some 18, 0), (some 17, 0), (none, 1), (some 14, 0)], [58, 59, 60, 61]), (20, [(some 17, 0), (some 14, 0)], [15]), (1, [(none, 1), (none, 0)], []), (2, [(some 16, 0), (some 3, 0)], []), (3, [(some 16, 0), (none, 0)], []), (20, [(some 16, 0), (some 14, 0)], [16]), (2, [(some 14, 0), (some 4, 0)], []), (85, [(some 14, 0), (some 2, 0), (some 3, 0), (some 15, 0)], [58, 59, 10, 12, 13, 15, 16]), (3, [(some 4, 0), (some 14, 0)], [])], (3, [(some 4, 0), (some 14, 1)], []))
set_option maxRecDepth 20000 in
theorem v_arrange14_1_7 {PT : PTy} (hp : HP3 PT) : vcOk PT w_arrange14_1_7 := vc_iv [(2, 0, 8), (3, 1, 11), (4, 1, 9), (14, 0, 8), (15, 0, 49), (16, 0, 9), (17, 0, 23), (18, 0, 49)] [10, 12, 13, 15, 16, 58, 59, 60, 61] (by decide +kernel) (fun ρ α => by
  intro r2 g2 b2 r3 g3 b3 r4 g4 b4 r14 g14 b14 r15 g15 b15 r16 g16 b16 r17 g17 b17 r18 g18 b18 a10 h10 a12 h12 a13 h13 a15 h15 a16 h16 a58 h58 a59 h59 a60 h60 a61 h61 f0 f1 f2 f3 f4 f5 f6 f7 f8 tt
  clear f2 f4
  have e80 : PT 80 = P_ent := pe80_3 hp
  have e85 : PT 85 = P_arK := pe85_3 hp
  simp only [hF2, hF3, hF20, hFp_80, hFp_85, e80, e85, P_ent, P_arK, den_s, den_c, Int.add_zero, List.map_cons, List.map_nil, g2.eq, g3.eq, g4.eq, g14.eq, g15.eq, g16.eq, g17.eq, g18.eq, h10, h12, h13, h15, h16, h58, h59, h60, h61] at f0 f1 f3 f5 f6 f7 f8 ⊢
  subst f1
  subst f5
  obtain ⟨i1, i2, i3⟩ := f7
  first
    | omega
    | (obtain ⟨e1, e2, e3⟩ := MISSING; omega)
    | (rw [show r14 = r4 by omega] at i3; exact ⟨(MISSING).2.1 ((MISSING).2.1 i2), (MISSING).2.2 _ aL_srt ((MISSING).2.2 _ aK_srt i3)⟩)
    | (refine ⟨by omega, i2, ?_⟩; rw [foldI_s (by omega)]; unfold stpK; rw [if_neg (by omega)]; exact i3)
    | (have he := f0; refine ⟨by obtain ⟨t, z⟩ := he; omega, prS_ent i2 he (fun _ => by omega), ?_⟩; rw [foldI_s (by omega)]; unfold stpK; rw [if_pos (by omega)]; exact isL_ins (foldI_srt stpK_srt aV_srt _) i3 he))
def w_arrange14_2_0 : VC := ((bX ++ [(0, 11), (0, 49)]), [(3, [(some 14, 0), (some 3, 0)], []), (84, [(some 14, 0), (some 2, 0), (some 15, 0)], [58, 59, 10, 12, 13]), (3, [(some 3, 0), (some 14, 0)], [])], (85, [(none, 0), (some 2, 0), (some 3, 0), (some 15, 0)], [58, 59, 10, 12, 13, 15, 16]))
set_option maxRecDepth 20000 in
theorem v_arrange14_2_0 {PT : PTy} (hp : HP3 PT) : vcOk PT w_arrange14_2_0 := vc_iv [(2, 0, 8), (3, 0, 11), (14, 0, 11), (15, 0, 49)] [10, 12, 13, 15, 16, 58, 59] (by decide +kernel) (fun ρ α => by
  intro r2 g2 b2 r3 g3 b3 r14 g14 b14 r15 g15 b15 a10 h10 a12 h12 a13 h13 a15 h15 a16 h16 a58 h58 a59 h59 f0 f1 f2 tt
  have e84 : PT 84 = P_arV := pe84_3 hp
  have e85 : PT 85 = P_arK := pe85_3 hp
  simp only [hF3, hFp_84, hFp_85, e84, e85, P_arV, P_arK, den_s, den_c, Int.add_zero, List.map_cons, List.map_nil, g2.eq, g3.eq, g14.eq, g15.eq, h10, h12, h13, h15, h16, h58, h59] at f0 f1 f2 ⊢
  obtain ⟨i1, i2, i3⟩ := f1
  first
    | omega
    | (obtain ⟨t, z⟩ := MISSING; omega)
    | (refine ⟨by omega, i2, ?_⟩; rw [show r14 = r3 by omega] at i3; exact i3)
    | (refine ⟨by omega, i2, ?_⟩; rw [foldI_s (by omega)]; unfold stpV; rw [if_neg (by omega)]; exact i3)
    | (have he := MISSING; refine ⟨by obtain ⟨t, z⟩ := he; omega, prS_ent i2 he (fun q => by omega), ?_⟩; rw [foldI_s (by omega)]; unfold stpV; rw [if_pos (by omega), if_pos (by omega)]; exact isL_ins (foldI_srt stpV_srt (s := []) trivial _) i3 he)
    | (have he := MISSING; have hf := MISSING; refine ⟨by obtain ⟨t, z⟩ := he; obtain ⟨t2, z2⟩ := hf; omega, prS_ent (prS_ent i2 he (fun q => by omega)) hf (fun q => by omega), ?_⟩; rw [foldI_s (by omega)]; unfold stpV; rw [if_pos (by omega), if_neg (by omega)]; exact isL_ins (srt_ins (foldI_srt stpV_srt (s := []) trivial _)) (isL_ins (foldI_srt stpV_srt (s := []) trivial _) i3 he) hf))
def w_arrange14_2_1 : VC := ((bX ++ [(0, 11), (0, 49)]), [(3, [(some 14, 0), (some 3, 0)], []), (84, [(some 14, 0), (some 2, 0), (some 15, 0)], [58, 59, 10, 12, 13]), (3, [(some 3, 0), (some 14, 0)], [])], (3, [(some 4, 0), (none, 0)], []))
set_option maxRecDepth 20000 in
theorem v_arrange14_2_1 {PT : PTy} (hp : HP3 PT) : vcOk PT w_arrange14_2_1 := vc_iv [(2, 0, 8), (3, 0, 11), (4, 0, 9), (14, 0, 11), (15, 0, 49)] [10, 12, 13, 58, 59] (by decide +kernel) (fun ρ α => by
  intro r2 g2 b2 r3 g3 b3 r4 g4 b4 r14 g14 b14 r15 g15 b15 a10 h10 a12 h12 a13 h13 a58 h58 a59 h59 f0 f1 f2 tt
  have e84 : PT 84 = P_arV := pe84_3 hp
  simp only [hF3, hFp_84, e84, P_arV, den_s, den_c, Int.add_zero, List.map_cons, List.map_nil, g2.eq, g3.eq, g4.eq, g14.eq, g15.eq, h10, h12, h13, h58, h59] at f0 f1 f2 ⊢
  obtain ⟨i1, i2, i3⟩ := f1
  first
    | omega
    | (obtain ⟨t, z⟩ := MISSING; omega)
    | (refine ⟨by omega, i2, ?_⟩; rw [show r14 = r3 by omega] at i3; exact i3)
    | (refine ⟨by omega, i2, ?_⟩; rw [foldI_s (by omega)]; unfold stpV; rw [if_neg (by omega)]; exact i3)
    | (have he := MISSING; refine ⟨by obtain ⟨t, z⟩ := he; omega, prS_ent i2 he (fun q => by omega), ?_⟩; rw [foldI_s (by omega)]; unfold stpV; rw [if_pos (by omega), if_pos (by omega)]; exact isL_ins (foldI_srt stpV_srt (s := []) trivial _) i3 he)
    | (have he := MISSING; have hf := MISSING; refine ⟨by obtain ⟨t, z⟩ := he; obtain ⟨t2, z2⟩ := hf; omega, prS_ent (prS_ent i2 he (fun q => by omega)) hf (fun q => by omega), ?_⟩; rw [foldI_s (by omega)]; unfold stpV; rw [if_pos (by omega), if_neg (by omega)]; exact isL_ins (srt_ins (foldI_srt stpV_srt (s := []) trivial _)) (isL_ins (foldI_srt stpV_srt (s := []) trivial _) i3 he) hf))
def w_arrange14_2_2 : VC := (([(0, 23), (0, 49), (0, 7), (1, 11), (0, 9), (0, 6), (0, 6), (0, 8), (0, 9), (0, 49), (0, 49), ((-2147483648), 2147483647), ((-2147483648), 2147483647), (0, 5), (0, 10), (0, 49), (0, 7)]), [(0, [(none, 0), (none, 0)], []), (3, [(some 16, 0), (some 2, 0)], []), (3, [(some 16, 0), (none, 0)], []), (20, [(some 16, 0), (some 14, 0)], [10]), (2, [(some 14, 0), (some 3, 0)], []), (84, [(some 14, 0), (some 2, 0), (some 15, 0)], [58, 59, 10, 12, 13]), (3, [(some 3, 0), (some 14, 0)], [])], (84, [(some 14, 1), (some 2, 0), (some 15, 0)], [58, 59, 10, 12, 13]))
set_option maxRecDepth 20000 in
theorem v_arrange14_2_2 {PT : PTy} (hp : HP3 PT) : vcOk PT w_arrange14_2_2 := vc_iv [(2, 0, 7), (3, 1, 11), (14, 0, 10), (15, 0, 49), (16, 0, 7)] [10, 12, 13, 58, 59] (by decide +kernel) (fun ρ α => by
  intro r2 g2 b2 r3 g3 b3 r14 g14 b14 r15 g15 b15 r16 g16 b16 a10 h10 a12 h12 a13 h13 a58 h58 a59 h59 f0 f1 f2 f3 f4 f5 f6 tt
  clear f0 f2
  have e84 : PT 84 = P_arV := pe84_3 hp
  simp only [hF2, hF3, hF20, hFp_84, e84, P_arV, den_s, den_c, Int.add_zero, List.map_cons, List.map_nil, g2.eq, g3.eq, g14.eq, g15.eq, g16.eq, h10, h12, h13, h58, h59] at f1 f3 f4 f5 f6 ⊢
  subst f3
  obtain ⟨i1, i2, i3⟩ := f5
  first
    | omega
    | (obtain ⟨t, z⟩ := MISSING; omega)
    | (refine ⟨by omega, i2, ?_⟩; rw [show r14 = r3 by omega] at i3; exact i3)
    | (refine ⟨by omega, i2, ?_⟩; rw [foldI_s (by omega)]; unfold stpV; rw [if_neg (by omega)]; exact i3)
    | (have he := MISSING; refine ⟨by obtain ⟨t, z⟩ := he; omega, prS_ent i2 he (fun q => by omega), ?_⟩; rw [foldI_s (by omega)]; unfold stpV; rw [if_pos (by omega), if_pos (by omega)]; exact isL_ins (foldI_srt stpV_srt (s := []) trivial _) i3 he)
    | (have he := MISSING; have hf := MISSING; refine ⟨by obtain ⟨t, z⟩ := he; obtain ⟨t2, z2⟩ := hf; omega, prS_ent (prS_ent i2 he (fun q => by omega)) hf (fun q => by omega), ?_⟩; rw [foldI_s (by omega)]; unfold stpV; rw [if_pos (by omega), if_neg (by omega)]; exact isL_ins (srt_ins (foldI_srt stpV_srt (s := []) trivial _)) (isL_ins (foldI_srt stpV_srt (s := []) trivial _) i3 he) hf))
def w_arrange14_2_3 : VC := (([(0, 23), (0, 49), (0, 7), (1, 11), (0, 9), (0, 6), (0, 6), (0, 8), (0, 9), (0, 49), (0, 49), ((-2147483648), 2147483647), ((-2147483648), 2147483647), (0, 5), (0, 10), (0, 49), (0, 7)]), [(0, [(none, 0), (none, 0)], []), (3, [(some 16, 0), (some 2, 0)], []), (3, [(some 16, 0), (none, 0)], []), (20, [(some 16, 0), (some 14, 0)], [10]), (2, [(some 14, 0), (some 3, 0)], []), (84, [(some 14, 0), (some 2, 0), (some 15, 0)], [58, 59, 10, 12, 13]), (3, [(some 3, 0), (some 14, 0)], [])], (3, [(some 3, 0), (some 14, 1)], []))
set_option maxRecDepth 20000 in
theorem v_arrange14_2_3 {PT : PTy} (hp : HP3 PT) : vcOk PT w_arrange14_2_3 := vc_iv [(2, 0, 7), (3, 1, 11), (14, 0, 10), (15, 0, 49), (16, 0, 7)] [10, 12, 13, 58, 59] (by decide +kernel) (fun ρ α => by
  intro r2 g2 b2 r3 g3 b3 r14 g14 b14 r15 g15 b15 r16 g16 b16 a10 h10 a12 h12 a13 h13 a58 h58 a59 h59 f0 f1 f2 f3 f4 f5 f6 tt
  clear f0 f2
  have e84 : PT 84 = P_arV := pe84_3 hp
  simp only [hF2, hF3, hF20, hFp_84, e84, P_arV, den_s, den_c, Int.add_zero, List.map_cons, List.map_nil, g2.eq, g3.eq, g14.eq, g15.eq, g16.eq, h10, h12, h13, h58, h59] at f1 f3 f4 f5 f6 ⊢
  subst f3
  obtain ⟨i1, i2, i3⟩ := f5
  first
    | omega
    | (obtain ⟨t, z⟩ := MISSING; omega)
    | (refine ⟨by omega, i2, ?_⟩; rw [show r14 = r3 by omega] at i3; exact i3)
    | (refine ⟨by omega, i2, ?_⟩; rw [foldI_s (by omega)]; unfold stpV; rw [if_neg (by omega)]; exact i3)
    | (have he := MISSING; refine ⟨by obtain ⟨t, z⟩ := he; omega, prS_ent i2 he (fun q => by omega), ?_⟩; rw [foldI_s (by omega)]; unfold stpV; rw [if_pos (by omega), if_pos (by omega)]; exact isL_ins (foldI_srt stpV_srt (s := []) trivial _) i3 he)
    | (have he := MISSING; have hf := MISSING; refine ⟨by obtain ⟨t, z⟩ := he; obtain ⟨t2, z2⟩ := hf; omega, prS_ent (prS_ent i2 he (fun q => by omega)) hf (fun q => by omega), ?_⟩; rw [foldI_s (by omega)]; unfold stpV; rw [if_pos (by omega), if_neg (by omega)]; exact isL_ins (srt_ins (foldI_srt stpV_srt (s := []) trivial _)) (isL_ins (foldI_srt stpV_srt (s := []) trivial _) i3 he) hf))
def w_arrange14_2_4 : VC := (([(0, 23), (0, 49), (1, 8), (1, 11), (0, 9), (0, 6), (0, 6), (0, 8), (0, 9), (0, 49), (0, 49), ((-2147483648), 2147483647), ((-2147483648), 2147483647), (0, 5), (0, 10), (0, 49), (0, 7), (0, 23)]), [(20, [(some 17, 0), (some 14, 0)], [12]), (1, [(none, 1), (none, 0)], []), (2, [(some 16, 0), (some 2, 0)], []), (3, [(some 16, 0), (none, 0)], []), (20, [(some 16, 0), (some 14, 0)], [10]), (2, [(some 14, 0), (some 3, 0)], []), (84, [(some 14, 0), (some 2, 0), (some 15, 0)], [58, 59, 10, 12, 13]), (3, [(some 3, 0), (some 14, 0)], [])], (2, [(some 15, 0), (none, 49)], []))
set_option maxRecDepth 20000 in
theorem v_arrange14_2_4 {PT : PTy} (hp : HP3 PT) : vcOk PT w_arrange14_2_4 := vc_iv [(2, 1, 8), (3, 1, 11), (14, 0, 10), (15, 0, 49), (16, 0, 7), (17, 0, 23)] [10, 12, 13, 58, 59] (by decide +kernel) (fun ρ α => by
  intro r2 g2 b2 r3 g3 b3 r14 g14 b14 r15 g15 b15 r16 g16 b16 r17 g17 b17 a10 h10 a12 h12 a13 h13 a58 h58 a59 h59 f0 f1 f2 f3 f4 f5 f6 f7 tt
  clear f1 f3
  have e84 : PT 84 = P_arV := pe84_3 hp
  simp only [hF2, hF3, hF20, hFp_84, e84, P_arV, den_s, den_c, Int.add_zero, List.map_cons, List.map_nil, g2.eq, g3.eq, g14.eq, g15.eq, g16.eq, g17.eq, h10, h12, h13, h58, h59] at f0 f2 f4 f5 f6 f7 ⊢
  subst f0
  subst f4
  obtain ⟨i1, i2, i3⟩ := f6
  first
    | omega
    | (obtain ⟨t, z⟩ := MISSING; omega)
    | (refine ⟨by omega, i2, ?_⟩; rw [show r14 = r3 by omega] at i3; exact i3)
    | (refine ⟨by omega, i2, ?_⟩; rw [foldI_s (by omega)]; unfold stpV; rw [if_neg (by omega)]; exact i3)
    | (have he := MISSING; refine ⟨by obtain ⟨t, z⟩ := he; omega, prS_ent i2 he (fun q => by omega), ?_⟩; rw [foldI_s (by omega)]; unfold stpV; rw [if_pos (by omega), if_pos (by omega)]; exact isL_ins (foldI_srt stpV_srt (s := []) trivial _) i3 he)
    | (have he := MISSING; have hf := MISSING; refine ⟨by obtain ⟨t, z⟩ := he; obtain ⟨t2, z2⟩ := hf; omega, prS_ent (prS_ent i2 he (fun q => by omega)) hf (fun q => by omega), ?_⟩; rw [foldI_s (by omega)]; unfold stpV; rw [if_pos (by omega), if_neg (by omega)]; exact isL_ins (srt_ins (foldI_srt stpV_srt (s := []) trivial _)) (isL_ins (foldI_srt stpV_srt (s := []) trivial _) i3 he) hf))
def w_arrange14_2_5 : VC := (([(0, 23), (0, 49), (1, 8), (1, 11), (0, 9), (0, 6), (0, 6), (0, 8), (0, 9), (0, 49), (0, 49), ((-2147483648), 2147483647), ((-2147483648), 2147483647), (0, 5), (0, 10), (0, 49), (0, 7), (0, 23), (0, 49), ((-1), (-1))]), [(0, [(some 19, 0), (none, (-1))], []), (20, [(some 19, 0), (some 14, 0)], [13]), (80, [(some 15, 0), (some 18, 0), (some 17, 0), (none, 0), (some 14, 0)], [58, 59, 60, 61]), (20, [(some 17, 0), (some 14, 0)], [12]), (1, [(none, 1), (none, 0)], []), (2, [(some 16, 0), (some 2, 0)], []), (3, [(some 16, 0), (none, 0)], []), (20, [(some 16, 0), (some 14, 0)], [10]), (2, [(some 14, 0), (some 3, 0)], []), (84, [(some 14, 0), (some 2, 0), (some 15, 0)], [58, 59, 10, 12, 13]), (3, [(some 3, 0), (some 14, 0)], [])], (84, [(some 14, 1), (some 2, 0), (some 18, 0)], [60, 61, 10, 12, 13]))
set_option maxRecDepth 20000 in
theorem v_arrange14_2_5 {PT : PTy} (hp : HP3 PT) : vcOk PT w_arrange14_2_5 := vc_iv [(2, 1, 8), (3, 1, 11), (14, 0, 10), (15, 0, 49), (16, 0, 7), (17, 0, 23), (18, 0, 49), (19, (-1), (-1))] [10, 12, 13, 58, 59, 60, 61] (by decide +kernel) (fun ρ α => by
  intro r2 g2 b2 r3 g3 b3 r14 g14 b14 r15 g15 b15 r16 g16 b16 r17 g17 b17 r18 g18 b18 r19 g19 b19 a10 h10 a12 h12 a13 h13 a58 h58 a59 h59 a60 h60 a61 h61 f0 f1 f2 f3 f4 f5 f6 f7 f8 f9 f10 tt
  clear f4 f6
  have e80 : PT 80 = P_ent := pe80_3 hp
  have e84 : PT 84 = P_arV := pe84_3 hp
  simp only [hF0, hF2, hF3, hF20, hFp_80, hFp_84, e80, e84, P_ent, P_arV, den_s, den_c, Int.add_zero, List.map_cons, List.map_nil, g2.eq, g3.eq, g14.eq, g15.eq, g16.eq, g17.eq, g18.eq, g19.eq, h10, h12, h13, h58, h59, h60, h61] at f0 f1 f2 f3 f5 f7 f8 f9 f10 ⊢
  subst f1
  subst f3
  subst f7
  obtain ⟨i1, i2, i3⟩ := f9
  first
    | omega
    | (obtain ⟨t, z⟩ := f2; omega)
    | (refine ⟨by omega, i2, ?_⟩; rw [show r14 = r3 by omega] at i3; exact i3)
    | (refine ⟨by omega, i2, ?_⟩; rw [foldI_s (by omega)]; unfold stpV; rw [if_neg (by omega)]; exact i3)
    | (have he := f2; refine ⟨by obtain ⟨t, z⟩ := he; omega, prS_ent i2 he (fun q => by omega), ?_⟩; rw [foldI_s (by omega)]; unfold stpV; rw [if_pos (by omega), if_pos (by omega)]; exact isL_ins (foldI_srt stpV_srt (s := []) trivial _) i3 he)
    | (have he := MISSING; have hf := f2; refine ⟨by obtain ⟨t, z⟩ := he; obtain ⟨t2, z2⟩ := hf; omega, prS_ent (prS_ent i2 he (fun q => by omega)) hf (fun q => by omega), ?_⟩; rw [foldI_s (by omega)]; unfold stpV; rw [if_pos (by omega), if_neg (by omega)]; exact isL_ins (srt_ins (foldI_srt stpV_srt (s := []) trivial _)) (isL_ins (foldI_srt stpV_srt (s := []) trivial _) i3 he) hf))
def w_arrange14_2_6 : VC := (([(0, 23), (0, 49), (1, 8), (1, 11), (0, 9), (0, 6), (0, 6), (0, 8), (0, 9), (0, 49), (0, 49), ((-2147483648), 2147483647), ((-2147483648), 2147483647), (0, 5), (0, 10), (0, 49), (0, 7), (0, 23), (0, 49), ((-1), (-1))]), [(0, [(some 19, 0), (none, (-1))], []), (20, [(some 19, 0), (some 14, 0)], [13]), (80, [(some 15, 0), (some 18, 0), (some 17, 0), (none, 0), (some 14, 0)], [58, 59, 60, 61]), (20, [(some 17, 0), (some 14, 0)], [12]), (1, [(none, 1), (none, 0)], []), (2, [(some 16, 0), (some 2, 0)], []), (3, [(some 16, 0), (none, 0)], []), (20, [(some 16, 0), (some 14, 0)], [10]), (2, [(some 14, 0), (some 3, 0)], []), (84, [(some 14, 0), (some 2, 0), (some 15, 0)], [58, 59, 10, 12, 13]), (3, [(some 3, 0), (some 14, 0)], [])], (3, [(some 3, 0), (some 14, 1)], []))
set_option maxRecDepth 20000 in
theorem v_arrange14_2_6 {PT : PTy} (hp : HP3 PT) : vcOk PT w_arrange14_2_6 := vc_iv [(2, 1, 8), (3, 1, 11), (14, 0, 10), (15, 0, 49), (16, 0, 7), (17, 0, 23), (18, 0, 49), (19, (-1), (-1))] [10, 12, 13, 58, 59, 60, 61] (by decide +kernel) (fun ρ α => by
  intro r2 g2 b2 r3 g3 b3 r14 g14 b14 r15 g15 b15 r16 g16 b16 r17 g17 b17 r18 g18 b18 r19 g19 b19 a10 h10 a12 h12 a13 h13 a58 h58 a59 h59 a60 h60 a61 h61 f0 f1 f2 f3 f4 f5 f6 f7 f8 f9 f10 tt
  clear f4 f6
  have e80 : PT 80 = P_ent := pe80_3 hp
  have e84 : PT 84 = P_arV := pe84_3 hp
  simp only [hF0, hF2, hF3, hF20, hFp_80, hFp_84, e80, e84, P_ent, P_arV, den_s, den_c, Int.add_zero, List.map_cons, List.map_nil, g2.eq, g3.eq, g14.eq, g15.eq, g16.eq, g17.eq, g18.eq, g19.eq, h10, h12, h13, h58, h59, h60, h61] at f0 f1 f2 f3 f5 f7 f8 f9 f10 ⊢
  subst f1
  subst f3
  subst f7
  obtain ⟨i1, i2, i3⟩ := f9
  first
    | omega
    | (obtain ⟨t, z⟩ := f2; omega)
    | (refine ⟨by omega, i2, ?_⟩; rw [show r14 = r3 by omega] at i3; exact i3)
    | (refine ⟨by omega, i2, ?_⟩; rw [foldI_s (by omega)]; unfold stpV; rw [if_neg (by omega)]; exact i3)
    | (have he := f2; refine ⟨by obtain ⟨t, z⟩ := he; omega, prS_ent i2 he (fun q => by omega), ?_⟩; rw [foldI_s (by omega)]; unfold stpV; rw [if_pos (by omega), if_pos (by omega)]; exact isL_ins (foldI_srt stpV_srt (s := []) trivial _) i3 he)
    | (have he := MISSING; have hf := f2; refine ⟨by obtain ⟨t, z⟩ := he; obtain ⟨t2, z2⟩ := hf; omega, prS_ent (prS_ent i2 he (fun q => by omega)) hf (fun q => by omega), ?_⟩; rw [foldI_s (by omega)]; unfold stpV; rw [if_pos (by omega), if_neg (by omega)]; exact isL_ins (srt_ins (foldI_srt stpV_srt (s := []) trivial _)) (isL_ins (foldI_srt stpV_srt (s := []) trivial _) i3 he) hf))
def w_arrange14_2_7 : VC := (([(0, 23), (0, 49), (1, 8), (1, 11), (0, 9), (0, 6), (0, 6), (0, 8), (0, 9), (0, 49), (0, 49), ((-2147483648), 2147483647), ((-2147483648), 2147483647), (0, 5), (0, 10), (0, 49), (0, 7), (0, 23), (0, 49), (0, 23), ((-1), 23)]), [(20, [(some 20, 0), (some 14, 0)], [13]), (1, [(some 19, 0), (none, (-1))], []), (20, [(some 19, 0), (some 14, 0)], [13]), (80, [(some 15, 0), (some 18, 0), (some 17, 0), (none, 0), (some 14, 0)], [58, 59, 60, 61]), (20, [(some 17, 0), (some 14, 0)], [12]), (1, [(none, 1), (none, 0)], []), (2, [(some 16, 0), (some 2, 0)], []), (3, [(some 16, 0), (none, 0)], []), (20, [(some 16, 0), (some 14, 0)], [10]), (2, [(some 14, 0), (some 3, 0)], []), (84, [(some 14, 0), (some 2, 0), (some 15, 0)], [58, 59, 10, 12, 13]), (3, [(some 3, 0), (some 14, 0)], [])], (3, [(some 20, 0), (none, 0)], []))
set_option maxRecDepth 20000 in
theorem v_arrange14_2_7 {PT : PTy} (hp : HP3 PT) : vcOk PT w_arrange14_2_7 := vc_iv [(2, 1, 8), (3, 1, 11), (14, 0, 10), (15, 0, 49), (16, 0, 7), (17, 0, 23), (18, 0, 49), (19, 0, 23), (20, (-1), 23)] [10, 12, 13, 58, 59, 60, 61] (by decide +kernel) (fun ρ α => by
  intro r2 g2 b2 r3 g3 b3 r14 g14 b14 r15 g15 b15 r16 g16 b16 r17 g17 b17 r18 g18 b18 r19 g19 b19 r20 g20 b20 a10 h10 a12 h12 a13 h13 a58 h58 a59 h59 a60 h60 a61 h61 f0 f1 f2 f3 f4 f5 f6 f7 f8 f9 f10 f11 tt
  clear f1 f5 f7
  have e80 : PT 80 = P_ent := pe80_3 hp
  have e84 : PT 84 = P_arV := pe84_3 hp
  simp only [hF2, hF3, hF20, hFp_80, hFp_84, e80, e84, P_ent, P_arV, den_s, den_c, Int.add_zero, List.map_cons, List.map_nil, g2.eq, g3.eq, g14.eq, g15.eq, g16.eq, g17.eq, g18.eq, g19.eq, g20.eq, h10, h12, h13, h58, h59, h60, h61] at f0 f2 f3 f4 f6 f8 f9 f10 f11 ⊢
  subst f0
  subst f2
  subst f4
  subst f8
  obtain ⟨i1, i2, i3⟩ := f10
  first
    | omega
    | (obtain ⟨t, z⟩ := f3; omega)
    | (refine ⟨by omega, i2, ?_⟩; rw [show r14 = r3 by omega] at i3; exact i3)
    | (refine ⟨by omega, i2, ?_⟩; rw [foldI_s (by omega)]; unfold stpV; rw [if_neg (by omega)]; exact i3)
    | (have he := f3; refine ⟨by obtain ⟨t, z⟩ := he; omega, prS_ent i2 he (fun q => by omega), ?_⟩; rw [foldI_s (by omega)]; unfold stpV; rw [if_pos (by omega), if_pos (by omega)]; exact isL_ins (foldI_srt stpV_srt (s := []) trivial _) i3 he)
    | (have he := MISSING; have hf := f3; refine ⟨by obtain ⟨t, z⟩ := he; obtain ⟨t2, z2⟩ := hf; omega, prS_ent (prS_ent i2 he (fun q => by omega)) hf (fun q => by omega), ?_⟩; rw [foldI_s (by omega)]; unfold stpV; rw [if_pos (by omega), if_neg (by omega)]; exact isL_ins (srt_ins (foldI_srt stpV_srt (s := []) trivial _)) (isL_ins (foldI_srt stpV_srt (s := []) trivial _) i3 he) hf))
def w_arrange14_2_8 : VC := (([(0, 23), (0, 49), (1, 8), (1, 11), (0, 9), (0, 6), (0, 6), (0, 8), (0, 9), (0, 49), (0, 49), ((-2147483648), 2147483647), ((-2147483648), 2147483647), (0, 5), (0, 10), (0, 49), (0, 7), (0, 23), (0, 49), (0, 23), ((-1), 23)]), [(20, [(some 20, 0), (some 14, 0)], [13]), (1, [(some 19, 0), (none, (-1))], []), (20, [(some 19, 0), (some 14, 0)], [13]), (80, [(some 15, 0), (some 18, 0), (some 17, 0), (none, 0), (some 14, 0)], [58, 59, 60, 61]), (20, [(some 17, 0), (some 14, 0)], [12]), (1, [(none, 1), (none, 0)], []), (2, [(some 16, 0), (some 2, 0)], []), (3, [(some 16, 0), (none, 0)], []), (20, [(some 16, 0), (some 14, 0)], [10]), (2, [(some 14, 0), (some 3, 0)], []), (84, [(some 14, 0), (some 2, 0), (some 15, 0)], [58, 59, 10, 12, 13]), (3, [(some 3, 0), (some 14, 0)], [])], (3, [(none, 23), (some 20, 0)], []))
set_option maxRecDepth 20000 in
theorem v_arrange14_2_8 {PT : PTy} (hp : HP3 PT) : vcOk PT w_arrange14_2_8 := vc_iv [(2, 1, 8), (3, 1, 11), (14, 0, 10), (15, 0, 49), (16, 0, 7), (17, 0, 23), (18, 0, 49), (19, 0, 23), (20, (-1), 23)] [10, 12, 13, 58, 59, 60, 61] (by decide +kernel) (fun ρ α => by
  intro r2 g2 b2 r3 g3 b3 r14 g14 b14 r15 g15 b15 r16 g16 b16 r17 g17 b17 r18 g18 b18 r19 g19 b19 r20 g20 b20 a10 h10 a12 h12 a13 h13 a58 h58 a59 h59 a60 h60 a61 h61 f0 f1 f2 f3 f4 f5 f6 f7 f8 f9 f10 f11 tt
  clear f1 f5 f7
  have e80 : PT 80 = P_ent := pe80_3 hp
  have e84 : PT 84 = P_arV := pe84_3 hp
  simp only [hF2, hF3, hF20, hFp_80, hFp_84, e80, e84, P_ent, P_arV, den_s, den_c, Int.add_zero, List.map_cons, List.map_nil, g2.eq, g3.eq, g14.eq, g15.eq, g16.eq, g17.eq, g18.eq, g19.eq, g20.eq, h10, h12, h13, h58, h59, h60, h61] at f0 f2 f3 f4 f6 f8 f9 f10 f11 ⊢
  subst f0
  subst f2
  subst f4
  subst f8
  obtain ⟨i1, i2, i3⟩ := f10
  first
    | omega
    | (obtain ⟨t, z⟩ := f3; omega)
    | (refine ⟨by omega, i2, ?_⟩; rw [show r14 = r3 by omega] at i3; exact i3)
    | (refine ⟨by omega, i2, ?_⟩; rw [foldI_s (by omega)]; unfold stpV; rw [if_neg (by omega)]; exact i3)
    | (have he := f3; refine ⟨by obtain ⟨t, z⟩ := he; omega, prS_ent i2 he (fun q => by omega), ?_⟩; rw [foldI_s (by omega)]; unfold stpV; rw [if_pos (by omega), if_pos (by omega)]; exact isL_ins (foldI_srt stpV_srt (s := []) trivial _) i3 he)
    | (have he := MISSING; have hf := f3; refine ⟨by obtain ⟨t, z⟩ := he; obtain ⟨t2, z2⟩ := hf; omega, prS_ent (prS_ent i2 he (fun q => by omega)) hf (fun q => by omega), ?_⟩; rw [foldI_s (by omega)]; unfold stpV; rw [if_pos (by omega), if_neg (by omega)]; exact isL_ins (srt_ins (foldI_srt stpV_srt (s := []) trivial _)) (isL_ins (foldI_srt stpV_srt (s := []) trivial _) i3 he) hf))
def w_arrange14_2_9 : VC := (([(0, 23), (0, 49), (1, 8), (1, 11), (0, 9), (0, 6), (0, 6), (0, 8), (0, 9), (0, 49), (0, 49), ((-2147483648), 2147483647), ((-2147483648), 2147483647), (0, 5), (0, 10), (0, 49), (0, 7), (0, 23), (0, 49), (0, 23), ((-1), 23)]), [(20, [(some 20, 0), (some 14, 0)], [13]), (1, [(some 19, 0), (none, (-1))], []), (20, [(some 19, 0), (some 14, 0)], [13]), (80, [(some 15, 0), (some 18, 0), (some 17, 0), (none, 0), (some 14, 0)], [58, 59, 60, 61]), (20, [(some 17, 0), (some 14, 0)], [12]), (1, [(none, 1), (none, 0)], []), (2, [(some 16, 0), (some 2, 0)], []), (3, [(some 16, 0), (none, 0)], []), (20, [(some 16, 0), (some 14, 0)], [10]), (2, [(some 14, 0), (some 3, 0)], []), (84, [(some 14, 0), (some 2, 0), (some 15, 0)], [58, 59, 10, 12, 13]), (3, [(some 3, 0), (some 14, 0)], [])], (2, [(some 18, 0), (none, 49)], []))
set_option maxRecDepth 20000 in
theorem v_arrange14_2_9 {PT : PTy} (hp : HP3 PT) : vcOk PT w_arrange14_2_9 := vc_iv [(2, 1, 8), (3, 1, 11), (14, 0, 10), (15, 0, 49), (16, 0, 7), (17, 0, 23), (18, 0, 49), (19, 0, 23), (20, (-1), 23)] [10, 12, 13, 58, 59, 60, 61] (by decide +kernel) (fun ρ α => by
  intro r2 g2 b2 r3 g3 b3 r14 g14 b14 r15 g15 b15 r16 g16 b16 r17 g17 b17 r18 g18 b18 r19 g19 b19 r20 g20 b20 a10 h10 a12 h12 a13 h13 a58 h58 a59 h59 a60 h60 a61 h61 f0 f1 f2 f3 f4 f5 f6 f7 f8 f9 f10 f11 tt
  clear f1 f5 f7
  have e80 : PT 80 = P_ent := pe80_3 hp
  have e84 : PT 84 = P_arV := pe84_3 hp
  simp only [hF2, hF3, hF20, hFp_80, hFp_84, e80, e84, P_ent, P_arV, den_s, den_c, Int.add_zero, List.map_cons, List.map_nil, g2.eq, g3.eq, g14.eq, g15.eq, g16.eq, g17.eq, g18.eq, g19.eq, g20.eq, h10, h12, h13, h58, h59, h60, h61] at f0 f2 f3 f4 f6 f8 f9 f10 f11 ⊢
  subst f0
  subst f2
  subst f4
  subst f8
  obtain ⟨i1, i2, i3⟩ := f10
  first
    | omega
    | (obtain ⟨t, z⟩ := f3; omega)
    | (refine ⟨by omega, i2, ?_⟩; rw [show r14 = r3 by omega] at i3; exact i3)
    | (refine ⟨by omega, i2, ?_⟩; rw [foldI_s (by omega)]; unfold stpV; rw [if_neg (by omega)]; exact i3)
    | (have he := f3; refine ⟨by obtain ⟨t, z⟩ := he; omega, prS_ent i2 he (fun q => by omega), ?_⟩; rw [foldI_s (by omega)]; unfold stpV; rw [if_pos (by omega), if_pos (by omega)]; exact isL_ins (foldI_srt stpV_srt (s := []) trivial _) i3 he)
    | (have he := MISSING; have hf := f3; refine ⟨by obtain ⟨t, z⟩ := he; obtain ⟨t2, z2⟩ := hf; omega, prS_ent (prS_ent i2 he (fun q => by omega)) hf (fun q => by omega), ?_⟩; rw [foldI_s (by omega)]; unfold stpV; rw [if_pos (by omega), if_neg (by omega)]; exact isL_ins (srt_ins (foldI_srt stpV_srt (s := []) trivial _)) (isL_ins (foldI_srt stpV_srt (s := []) trivial _) i3 he) hf))
def w_arrange14_2_10 : VC := (([(0, 23), (0, 49), (1, 8), (1, 11), (0, 9), (0, 6), (0, 6), (0, 8), (0, 9), (0, 49), (0, 49), ((-2147483648), 2147483647), ((-2147483648), 2147483647), (0, 5), (0, 10), (0, 49), (0, 7), (0, 23), (0, 49), (0, 23), (0, 23), (0, 49)]), [(80, [(some 18, 0), (some 21, 0), (some 20, 0), (none, 2), (some 14, 0)], [60, 61, 62, 63]), (20, [(some 20, 0), (some 14, 0)], [13]), (1, [(some 19, 0), (none, (-1))], []), (20, [(some 19, 0), (some 14, 0)], [13]), (80, [(some 15, 0), (some 18, 0), (some 17, 0), (none, 0), (some 14, 0)], [58, 59, 60, 61]), (20, [(some 17, 0), (some 14, 0)], [12]), (1, [(none, 1), (none, 0)], []), (2, [(some 16, 0), (some 2, 0)], []), (3, [(some 16, 0), (none, 0)], []), (20, [(some 16, 0), (some 14, 0)], [10]), (2, [(some 14, 0), (some 3, 0)], []), (84, [(some 14, 0), (some 2, 0), (some 15, 0)], [58, 59, 10, 12, 13]), (3, [(some 3, 0), (some 14, 0)], [])], (84, [(some 14, 1), (some 2, 0), (some 21, 0)], [62, 63, 10, 12, 13]))
set_option maxRecDepth 20000 in
theorem v_arrange14_2_10 {PT : PTy} (hp : HP3 PT) : vcOk PT w_arrange14_2_10 := vc_iv [(2, 1, 8), (3, 1, 11), (14, 0, 10), (15, 0, 49), (16, 0, 7), (17, 0, 23), (18, 0, 49), (19, 0, 23), (20, 0, 23), (21, 0, 49)] [10, 12, 13, 58, 59, 60, 61, 62, 63] (by decide +kernel) (fun ρ α => by
  intro r2 g2 b2 r3 g3 b3 r14 g14 b14 r15 g15 b15 r16 g16 b16 r17 g17 b17 r18 g18 b18 r19 g19 b19 r20 g20 b20 r21 g21 b21 a10 h10 a12 h12 a13 h13 a58 h58 a59 h59 a60 h60 a61 h61 a62 h62 a63 h63 f0 f1 f2 f3 f4 f5 f6 f7 f8 f9 f10 f11 f12 tt
  clear f2 f6 f8
  have e80 : PT 80 = P_ent := pe80_3 hp
  have e84 : PT 84 = P_arV := pe84_3 hp
  simp only [hF2, hF3, hF20, hFp_80, hFp_84, e80, e84, P_ent, P_arV, den_s, den_c, Int.add_zero, List.map_cons, List.map_nil, g2.eq, g3.eq, g14.eq, g15.eq, g16.eq, g17.eq, g18.eq, g19.eq, g20.eq, g21.eq, h10, h12, h13, h58, h59, h60, h61, h62, h63] at f0 f1 f3 f4 f5 f7 f9 f10 f11 f12 ⊢
  subst f1
  subst f3
  subst f5
  subst f9
  obtain ⟨i1, i2, i3⟩ := f11
  first
    | omega
    | (obtain ⟨t, z⟩ := f0; omega)
    | (refine ⟨by omega, i2, ?_⟩; rw [show r14 = r3 by omega] at i3; exact i3)
    | (refine ⟨by omega, i2, ?_⟩; rw [foldI_s (by omega)]; unfold stpV; rw [if_neg (by omega)]; exact i3)
    | (have he := f0; refine ⟨by obtain ⟨t, z⟩ := he; omega, prS_ent i2 he (fun q => by omega), ?_⟩; rw [foldI_s (by omega)]; unfold stpV; rw [if_pos (by omega), if_pos (by omega)]; exact isL_ins (foldI_srt stpV_srt (s := []) trivial _) i3 he)
    | (have he := f4; have hf := f0; refine ⟨by obtain ⟨t, z⟩ := he; obtain ⟨t2, z2⟩ := hf; omega, prS_ent (prS_ent i2 he (fun q => by omega)) hf (fun q => by omega), ?_⟩; rw [foldI_s (by omega)]; unfold stpV; rw [if_pos (by omega), if_neg (by omega)]; exact isL_ins (srt_ins (foldI_srt stpV_srt (s := []) trivial _)) (isL_ins (foldI_srt stpV_srt (s := []) trivial _) i3 he) hf))
def w_arrange14_2_11 : VC := (([(0, 23), (0, 49), (1, 8), (1, 11), (0, 9), (0, 6), (0, 6), (0, 8), (0, 9), (0, 49), (0, 49), ((-2147483648), 2147483647), ((-2147483648), 2147483647), (0, 5), (0, 10), (0, 49), (0, 7), (0, 23), (0, 49), (0, 23), (0, 23), (0, 49)]), [(80, [(some 18, 0), (some 21, 0), (some 20, 0), (none, 2), (some 14, 0)], [60, 61, 62, 63]), (20, [(some 20, 0), (some 14, 0)], [13]), (1, [(some 19, 0), (none, (-1))], []), (20, [(some 19, 0), (some 14, 0)], [13]), (80, [(some 15, 0), (some 18, 0), (some 17, 0), (none, 0), (some 14, 0)], [58, 59, 60, 61]), (20, [(some 17, 0), (some 14, 0)], [12]), (1, [(none, 1), (none, 0)], []), (2, [(some 16, 0), (some 2, 0)], []), (3, [(some 16, 0), (none, 0)], []), (20, [(some 16, 0), (some 14, 0)], [10]), (2, [(some 14, 0), (some 3, 0)], []), (84, [(some 14, 0), (some 2, 0), (some 15, 0)], [58, 59, 10, 12, 13]), (3, [(some 3, 0), (some 14, 0)], [])], (3, [(some 3, 0), (some 14, 1)], []))
set_option maxRecDepth 20000 in
theorem v_arrange14_2_11 {PT : PTy} (hp : HP3 PT) : vcOk PT w_arrange14_2_11 := vc_iv [(2, 1, 8), (3, 1, 11), (14, 0, 10), (15, 0, 49), (16, 0, 7), (17, 0, 23), (18, 0, 49), (19, 0, 23), (20, 0, 23), (21, 0, 49)] [10, 12, 13, 58, 59, 60, 61, 62, 63] (by decide +kernel) (fun ρ α => by
  intro r2 g2 b2 r3 g3 b3 r14 g14 b14 r15 g15 b15 r16 g16 b16 r17 g17 b17 r18 g18 b18 r19 g19 b19 r20 g20 b20 r21 g21 b21 a10 h10 a12 h12 a13 h13 a58 h58 a59 h59 a60 h60 a61 h61 a62 h62 a63 h63 f0 f1 f2 f3 f4 f5 f6 f7 f8 f9 f10 f11 f12 tt
  clear f2 f6 f8
  have e80 : PT 80 = P_ent := pe80_3 hp
  have e84 : PT 84 = P_arV := pe84_3 hp
  simp only [hF2, hF3, hF20, hFp_80, hFp_84, e80, e84, P_ent, P_arV, den_s, den_c, Int.add_zero, List.map_cons, List.map_nil, g2.eq, g3.eq, g14.eq, g15.eq, g16.eq, g17.eq, g18.eq, g19.eq, g20.eq, g21.eq, h10, h12, h13, h58, h59, h60, h61, h62, h63] at f0 f1 f3 f4 f5 f7 f9 f10 f11 f12 ⊢
  subst f1
  subst f3
  subst f5
  subst f9
  obtain ⟨i1, i2, i3⟩ := f11
  first
    | omega
    | (obtain ⟨t, z⟩ := f0; omega)
    | (refine ⟨by omega, i2, ?_⟩; rw [show r14 = r3 by omega] at i3; exact i3)
    | (refine ⟨by omega, i2, ?_⟩; rw [foldI_s (by omega)]; unfold stpV; rw [if_neg (by omega)]; exact i3)
    | (have he := f0; refine ⟨by obtain ⟨t, z⟩ := he; omega, prS_ent i2 he (fun q => by omega), ?_⟩; rw [foldI_s (by omega)]; unfold stpV; rw [if_pos (by omega), if_pos (by omega)]; exact isL_ins (foldI_srt stpV_srt (s := []) trivial _) i3 he)
    | (have he := f4; have hf := f0; refine ⟨by obtain ⟨t, z⟩ := he; obtain ⟨t2, z2⟩ := hf; omega, prS_ent (prS_ent i2 he (fun q => by omega)) hf (fun q => by omega), ?_⟩; rw [foldI_s (by omega)]; unfold stpV; rw [if_pos (by omega), if_neg (by omega)]; exact isL_ins (srt_ins (foldI_srt stpV_srt (s := []) trivial _)) (isL_ins (foldI_srt stpV_srt (s := []) trivial _) i3 he) hf))
set_option maxRecDepth 1000000 in
theorem k_arrange14 {PT : PTy} (hp : HP3 PT) : wfX c_arrange14 = true ∧ xcOk PT c_arrange14 := xctr (xl (k_enter14 hp) (xl (k_enterAll3_14 hp) (xl (k_enterAll4_14 hp) (xl0)))) c_arrange14 71 mX0_arrange rfl h_arrange14 (by decide +kernel) (by decide +kernel) (by decide) (vcs_by [w_arrange14_0_0, w_arrange14_0_1] (by decide +kernel) (vc (v_arrange14_0_0 hp) (vc (v_arrange14_0_1 hp) vn))) (fmc (vcs_by [w_arrange14_1_0, w_arrange14_1_1, w_arrange14_1_2, w_arrange14_1_3, w_arrange14_1_4, w_arrange14_1_5, w_arrange14_1_6, w_arrange14_1_7] (by decide +kernel) (vc (v_arrange14_1_0 hp) (vc (v_arrange14_1_1 hp) (vc (v_arrange14_1_2 hp) (vc (v_arrange14_1_3 hp) (vc (v_arrange14_1_4 hp) (vc (v_arrange14_1_5 hp) (vc (v_arrange14_1_6 hp) (vc (v_arrange14_1_7 hp) vn))))))))) (fmc (vcs_by [w_arrange14_2_0, w_arrange14_2_1, w_arrange14_2_2, w_arrange14_2_3, w_arrange14_2_4, w_arrange14_2_5, w_arrange14_2_6, w_arrange14_2_7, w_arrange14_2_8, w_arrange14_2_9, w_arrange14_2_10, w_arrange14_2_11] (by decide +kernel) (vc (v_arrange14_2_0 hp) (vc (v_arrange14_2_1 hp) (vc (v_arrange14_2_2 hp) (vc (v_arrange14_2_3 hp) (vc (v_arrange14_2_4 hp) (vc (v_arrange14_2_5 hp) (vc (v_arrange14_2_6 hp) (vc (v_arrange14_2_7 hp) (vc (v_arrange14_2_8 hp) (vc (v_arrange14_2_9 hp) (vc (v_arrange14_2_10 hp) (vc (v_arrange14_2_11 hp) vn))))))))))))) fmn))
def c_enter35 : XC := (3, 0, (bX ++ [(0, 23), (0, 4), (0, 10)]), [.inr (.inl 5), .inl (some 14, 0), .inl (some 15, 0), .inl (some 16, 0)], (gX 35), [(2, [(some 9, 0), (none, 49)], [])], [((bX ++ [(0, 23), (0, 4), (0, 10), (0, 49)]), none, (hst (gX 35) [(5, .inr (.inr (.inr (0, [.inr (.inl 6), .inr (.inl 9), .inr (.inl 14), .inr (.inl 18), .inr (.inl 22), .inr (.inl 26), .inr (.inl 27), .inr (.inl 28), .inr (.inl 29), .inr (.inl 30), .inl (some 17, 0), .inl (some 10, 0), .inl (some 11, 0), .inl (some 12, 0), .inr (.inl 35)]))))]), (ansT 58 [(26, 58), (27, 59)]), 60, [(80, [(some 9, 0), (some 17, 0), (some 14, 0), (some 15, 0), (some 16, 0)], [26, 27, 58, 59])])])
def h_enter35 : List XH := [(23, ([(0, 23), (0, 49), (0, 8), (0, 11), (0, 9), (0, 6), (0, 6), (0, 8), (0, 9), (0, 48), (0, 49), ((-2147483648), 2147483647), ((-2147483648), 2147483647), (0, 5), (0, 23), (0, 4), (0, 10), (0, 119), (0, 48)]), [some (.inr (.inl 5)), some (.inl (some 14, 0)), some (.inl (some 15, 0)), some (.inl (some 16, 0)), some (.inl (some 17, 0)), some (.inl (some 18, 0))], (gX 35), (ansT 58 [(26, 58), (27, 59)]), 60, [(81, [(some 18, 0), (some 9, 0), (some 17, 0), (some 14, 0), (some 15, 0)], [26, 27, 58, 59])], [(true, (none, 1)), (false, (some 18, 0))])]
def w_enter35_0_0 : VC := (([(0, 23), (0, 49), (0, 8), (0, 11), (0, 9), (0, 6), (0, 6), (0, 8), (0, 9), (0, 48), (0, 49), ((-2147483648), 2147483647), ((-2147483648), 2147483647), (0, 5), (0, 23), (0, 4), (0, 10), (0, 115), (0, 119)]), [(4, [(some 18, 0), (some 17, 0), (some 15, 0)], []), (6, [(some 17, 0), (none, 5), (some 14, 0)], []), (2, [(some 9, 0), (none, 49)], []), (2, [(some 9, 0), (none, 49)], [])], (81, [(some 9, 0), (some 9, 0), (some 18, 0), (some 14, 0), (some 15, 0)], [26, 27, 26, 27]))
set_option maxRecDepth 20000 in
theorem v_enter35_0_0 {PT : PTy} (hp : HP3 PT) : vcOk PT w_enter35_0_0 := vc_in [(9, 0, 48), (14, 0, 23), (15, 0, 4), (17, 0, 115), (18, 0, 119)] (by decide +kernel) (fun ρ α => by
  intro b9 b14 b15 b17 b18 f0 f1 f2 f3 tt
  clear f2 f3
  have e81 : PT 81 = P_entI := pe81_3 hp
  simp only [hF4, hF6, hFp_81, e81, P_entI, den_s, den_c, Int.add_zero, List.map_cons, List.map_nil] at f0 f1 ⊢
  exact ⟨by omega, entI_z⟩)
def w_enter35_0_1 : VC := (([(0, 23), (0, 49), (0, 8), (0, 11), (0, 9), (0, 6), (0, 6), (0, 8), (0, 9), (49, 49), (0, 49), ((-2147483648), 2147483647), ((-2147483648), 2147483647), (0, 5), (0, 23), (0, 4), (0, 10)]), [(3, [(some 9, 0), (none, 49)], []), (2, [(some 9, 0), (none, 49)], [])], (80, [(some 9, 0), (some 9, 0), (some 14, 0), (some 15, 0), (some 16, 0)], [26, 27, 26, 27]))
set_option maxRecDepth 20000 in
theorem v_enter35_0_1 {PT : PTy} (hp : HP3 PT) : vcOk PT w_enter35_0_1 := vc_in [(9, 49, 49), (14, 0, 23), (15, 0, 4), (16, 0, 10)] (by decide +kernel) (fun ρ α => by
  intro b9 b14 b15 b16 f0 f1 tt
  clear f0
  have e80 : PT 80 = P_ent := pe80_3 hp
  simp only [hF2, hFp_80, e80, P_ent, den_s, den_c, Int.add_zero, List.map_cons, List.map_nil] at f1 ⊢
  exfalso; omega)
def w_enter35_1_0 : VC := (([(0, 23), (0, 49), (0, 8), (0, 11), (0, 9), (0, 6), (0, 6), (0, 8), (0, 9), (0, 48), (0, 49), ((-2147483648), 2147483647), ((-2147483648), 2147483647), (0, 5), (0, 23), (0, 4), (0, 10), (0, 119), (0, 0)]), [(21, [(some 18, 0), (some 16, 0)], [61, 59]), (21, [(some 18, 0), (some 17, 0)], [60, 58]), (3, [(none, 0), (some 18, 0)], []), (81, [(some 18, 0), (some 9, 0), (some 17, 0), (some 14, 0), (some 15, 0)], [26, 27, 58, 59]), (2, [(some 9, 0), (none, 49)], [])], (80, [(some 9, 0), (some 9, 1), (some 14, 0), (some 15, 0), (some 16, 0)], [26, 27, 60, 61]))
set_option maxRecDepth 20000 in
theorem v_enter35_1_0 {PT : PTy} (hp : HP3 PT) : vcOk PT w_enter35_1_0 := vc_iv [(9, 0, 48), (14, 0, 23), (15, 0, 4), (16, 0, 10), (17, 0, 119), (18, 0, 0)] [26, 27, 58, 59, 60, 61] (by decide +kernel) (fun ρ α => by
  intro r9 g9 b9 r14 g14 b14 r15 g15 b15 r16 g16 b16 r17 g17 b17 r18 g18 b18 a26 h26 a27 h27 a58 h58 a59 h59 a60 h60 a61 h61 f0 f1 f2 f3 f4 tt
  clear f2 f4
  have e80 : PT 80 = P_ent := pe80_3 hp
  have e81 : PT 81 = P_entI := pe81_3 hp
  simp only [hF21, hFp_80, hFp_81, e80, e81, P_ent, P_entI, den_s, den_c, Int.add_zero, List.map_cons, List.map_nil, g9.eq, g14.eq, g15.eq, g16.eq, g17.eq, g18.eq, h26, h27, h58, h59, h60, h61] at f0 f1 f3 ⊢
  subst f0
  subst f1
  obtain ⟨i1, i2⟩ := f3
  first
    | omega
    | (subst i1; exact entI_e i2 (by omega) (by omega))
    | exact ⟨i1, entI_s i2 (by omega) (by omega)⟩)
def w_enter35_1_1 : VC := (([(0, 23), (0, 49), (0, 8), (0, 11), (0, 9), (0, 6), (0, 6), (0, 8), (0, 9), (0, 48), (0, 49), ((-2147483648), 2147483647), ((-2147483648), 2147483647), (0, 5), (0, 23), (0, 4), (0, 10), (0, 119), (1, 48), (0, 119)]), [(21, [(some 18, 0), (some 16, 0)], [61, 59]), (21, [(some 18, 0), (some 17, 0)], [60, 58]), (3, [(some 17, 0), (some 19, 0)], []), (20, [(some 19, 0), (some 18, (-1))], [58]), (2, [(none, 0), (some 18, 0)], []), (81, [(some 18, 0), (some 9, 0), (some 17, 0), (some 14, 0), (some 15, 0)], [26, 27, 58, 59]), (2, [(some 9, 0), (none, 49)], [])], (80, [(some 9, 0), (some 9, 1), (some 14, 0), (some 15, 0), (some 16, 0)], [26, 27, 60, 61]))
set_option maxRecDepth 20000 in
theorem v_enter35_1_1 {PT : PTy} (hp : HP3 PT) : vcOk PT w_enter35_1_1 := vc_iv [(9, 0, 48), (14, 0, 23), (15, 0, 4), (16, 0, 10), (17, 0, 119), (18, 1, 48), (19, 0, 119)] [26, 27, 58, 59, 60, 61] (by decide +kernel) (fun ρ α => by
  intro r9 g9 b9 r14 g14 b14 r15 g15 b15 r16 g16 b16 r17 g17 b17 r18 g18 b18 r19 g19 b19 a26 h26 a27 h27 a58 h58 a59 h59 a60 h60 a61 h61 f0 f1 f2 f3 f4 f5 f6 tt
  clear f4 f6
  have e80 : PT 80 = P_ent := pe80_3 hp
  have e81 : PT 81 = P_entI := pe81_3 hp
  simp only [hF3, hF20, hF21, hFp_80, hFp_81, e80, e81, P_ent, P_entI, den_s, den_c, Int.add_zero, List.map_cons, List.map_nil, g9.eq, g14.eq, g15.eq, g16.eq, g17.eq, g18.eq, g19.eq, h26, h27, h58, h59, h60, h61] at f0 f1 f2 f3 f5 ⊢
  subst f0
  subst f1
  subst f3
  obtain ⟨i1, i2⟩ := f5
  first
    | omega
    | (subst i1; exact entI_e i2 (by omega) (by omega))
    | exact ⟨i1, entI_s i2 (by omega) (by omega)⟩)
def w_enter35_1_2 : VC := (([(0, 23), (0, 49), (0, 8), (0, 11), (0, 9), (0, 6), (0, 6), (0, 8), (0, 9), (0, 48), (0, 49), ((-2147483648), 2147483647), ((-2147483648), 2147483647), (0, 5), (0, 23), (0, 4), (0, 10), (0, 118), (1, 48), (1, 119), (0, 119), (0, 10)]), [(21, [(some 18, 0), (some 21, 0)], [61, 59]), (20, [(some 21, 0), (some 18, (-1))], [59]), (21, [(some 18, 0), (some 20, 0)], [60, 58]), (20, [(some 20, 0), (some 18, (-1))], [58]), (2, [(some 17, 0), (some 19, 0)], []), (20, [(some 19, 0), (some 18, (-1))], [58]), (2, [(none, 0), (some 18, 0)], []), (81, [(some 18, 0), (some 9, 0), (some 17, 0), (some 14, 0), (some 15, 0)], [26, 27, 58, 59]), (2, [(some 9, 0), (none, 49)], [])], (81, [(some 18, (-1)), (some 9, 0), (some 17, 0), (some 14, 0), (some 15, 0)], [26, 27, 60, 61]))
set_option maxRecDepth 20000 in
theorem v_enter35_1_2 {PT : PTy} (hp : HP3 PT) : vcOk PT w_enter35_1_2 := vc_iv [(9, 0, 48), (14, 0, 23), (15, 0, 4), (17, 0, 118), (18, 1, 48), (19, 1, 119), (20, 0, 119), (21, 0, 10)] [26, 27, 58, 59, 60, 61] (by decide +kernel) (fun ρ α => by
  intro r9 g9 b9 r14 g14 b14 r15 g15 b15 r17 g17 b17 r18 g18 b18 r19 g19 b19 r20 g20 b20 r21 g21 b21 a26 h26 a27 h27 a58 h58 a59 h59 a60 h60 a61 h61 f0 f1 f2 f3 f4 f5 f6 f7 f8 tt
  clear f6 f8
  have e81 : PT 81 = P_entI := pe81_3 hp
  simp only [hF2, hF20, hF21, hFp_81, e81, P_entI, den_s, den_c, Int.add_zero, List.map_cons, List.map_nil, g9.eq, g14.eq, g15.eq, g17.eq, g18.eq, g19.eq, g20.eq, g21.eq, h26, h27, h58, h59, h60, h61] at f0 f1 f2 f3 f4 f5 f7 ⊢
  subst f0
  subst f1
  subst f2
  subst f3
  subst f5
  obtain ⟨i1, i2⟩ := f7
  first
    | omega
    | (subst i1; exact entI_e i2 (by omega) (by omega))
    | exact ⟨i1, entI_s i2 (by omega) (by omega)⟩)
set_option maxRecDepth 1000000 in
theorem k_enter35 {PT : PTy} (hp : HP3 PT) : wfX c_enter35 = true ∧ xcOk PT c_enter35 := xctr (xl0) c_enter35 53 mX0_enter rfl h_enter35 (by decide +kernel) (by decide +kernel) (by decide) (vcs_by [w_enter35_0_0, w_enter35_0_1] (by decide +kernel) (vc (v_enter35_0_0 hp) (vc (v_enter35_0_1 hp) vn))) (fmc (vcs_by [w_enter35_1_0, w_enter35_1_1, w_enter35_1_2] (by decide +kernel) (vc (v_enter35_1_0 hp) (vc (v_enter35_1_1 hp) (vc (v_enter35_1_2 hp) vn)))) fmn)
def c_enterAll3_35 : XC := (2, 1, (bX), [.inr (.inl 5), .inr (.inl 18), .inl (none, 3)], (gX 35), [(2, [(some 9, 0), (none, 43)], [])], [((bX ++ [(0, 49)]), none, (hst (gX 35) [(5, .inr (.inr (.inr (0, [.inr (.inl 6), .inr (.inl 9), .inr (.inl 14), .inr (.inl 18), .inr (.inl 22), .inr (.inl 26), .inr (.inl 27), .inr (.inl 28), .inr (.inl 29), .inr (.inl 30), .inl (some 14, 0), .inl (some 10, 0), .inl (some 11, 0), .inl (some 12, 0), .inr (.inl 35)]))))]), (ansT 58 [(26, 58), (27, 59)]), 60, [(82, [(some 5, 0), (some 9, 0), (some 14, 0), (some 2, 0)], [26, 27, 58, 59, 19, 20])])])
def h_enterAll3_35 : List XH := [(2, (bX ++ [(0, 6), (0, 49)]), [some (.inr (.inl 5)), some (.inr (.inl 18)), some (.inl (none, 3)), some (.inl (some 14, 0))], (hst (gX 35) [(5, .inr (.inr (.inr (0, [.inr (.inl 6), .inr (.inl 9), .inr (.inl 14), .inr (.inl 18), .inr (.inl 22), .inr (.inl 26), .inr (.inl 27), .inr (.inl 28), .inr (.inl 29), .inr (.inl 30), .inl (some 15, 0), .inl (some 10, 0), .inl (some 11, 0), .inl (some 12, 0), .inr (.inl 35)]))))]), (ansT 58 [(26, 58), (27, 59)]), 60, [(82, [(some 14, 0), (some 9, 0), (some 15, 0), (some 2, 0)], [26, 27, 58, 59, 19, 20]), (3, [(some 5, 0), (some 14, 0)], [])], [(true, (none, 1)), (true, (some 14, 0))])]
def w_enterAll3_35_0_0 : VC := ((bX), [(2, [(some 9, 0), (none, 43)], [])], (82, [(none, 0), (some 9, 0), (some 9, 0), (some 2, 0)], [26, 27, 26, 27, 19, 20]))
set_option maxRecDepth 20000 in
theorem v_enterAll3_35_0_0 {PT : PTy} (hp : HP3 PT) : vcOk PT w_enterAll3_35_0_0 := vc_in [(2, 0, 8), (9, 0, 49)] (by decide +kernel) (fun ρ α => by
  intro b2 b9 f0 tt
  have e82 : PT 82 = P_eaI3 := pe82_3 hp
  simp only [hF2, hFp_82, e82, P_eaI3, den_s, den_c, Int.add_zero, List.map_cons, List.map_nil] at f0 ⊢
  first | omega | exact ⟨by omega, fun h => h, fun l _ h => h⟩)
def w_enterAll3_35_0_1 : VC := ((bX), [(2, [(some 9, 0), (none, 43)], [])], (3, [(some 5, 0), (none, 0)], []))
set_option maxRecDepth 20000 in
theorem v_enterAll3_35_0_1 {PT : PTy} (hp : HP3 PT) : vcOk PT w_enterAll3_35_0_1 := vc_in [(5, 0, 6), (9, 0, 49)] (by decide +kernel) (fun ρ α => by
  intro b5 b9 f0 tt
  simp only [hF2, hF3, den_s, den_c, Int.add_zero, List.map_cons, List.map_nil] at f0 ⊢
  first | omega | exact ⟨by omega, fun h => h, fun l _ h => h⟩)
def w_enterAll3_35_1_0 : VC := ((bX ++ [(0, 6), (0, 49)]), [(3, [(some 14, 0), (some 5, 0)], []), (82, [(some 14, 0), (some 9, 0), (some 15, 0), (some 2, 0)], [26, 27, 58, 59, 19, 20]), (3, [(some 5, 0), (some 14, 0)], []), (2, [(some 9, 0), (none, 43)], [])], (82, [(some 5, 0), (some 9, 0), (some 15, 0), (some 2, 0)], [26, 27, 58, 59, 19, 20]))
set_option maxRecDepth 20000 in
theorem v_enterAll3_35_1_0 {PT : PTy} (hp : HP3 PT) : vcOk PT w_enterAll3_35_1_0 := vc_iv [(2, 0, 8), (5, 0, 6), (9, 0, 49), (14, 0, 6), (15, 0, 49)] [19, 20, 26, 27, 58, 59] (by decide +kernel) (fun ρ α => by
  intro r2 g2 b2 r5 g5 b5 r9 g9 b9 r14 g14 b14 r15 g15 b15 a19 h19 a20 h20 a26 h26 a27 h27 a58 h58 a59 h59 f0 f1 f2 f3 tt
  have e82 : PT 82 = P_eaI3 := pe82_3 hp
  simp only [hF2, hF3, hFp_82, e82, P_eaI3, den_s, den_c, Int.add_zero, List.map_cons, List.map_nil, g2.eq, g5.eq, g9.eq, g14.eq, g15.eq, h19, h20, h26, h27, h58, h59] at f0 f1 f2 f3 ⊢
  obtain ⟨i1, i2, i3⟩ := f1
  first
    | omega
    | exact ⟨by omega, i2, fun l h1 h2 => by have h := i3 l h1 h2; rw [show r5 = r14 by omega]; exact h⟩
    | (refine ⟨by omega, i2, fun l h1 h2 => ?_⟩; rw [foldI_s (by omega)]; unfold stpT; rw [if_neg (by omega)]; exact i3 l h1 h2)
    | (have he := MISSING; refine ⟨by obtain ⟨t, z⟩ := he; omega, fun h => prS_ent (i2 h) he (fun _ => by omega), fun l h1 h2 => ?_⟩; rw [foldI_s (by omega)]; unfold stpT; rw [if_pos (by omega)]; exact isL_ins (foldI_srt stpT_srt h1 _) (i3 l h1 h2) he))
def w_enterAll3_35_1_1 : VC := (([(0, 23), (0, 49), (0, 7), (0, 11), (0, 9), (1, 6), (0, 6), (0, 8), (0, 9), (0, 49), (0, 49), ((-2147483648), 2147483647), ((-2147483648), 2147483647), (0, 5), (0, 5), (0, 49), (0, 7)]), [(0, [(none, 0), (none, 0)], []), (3, [(some 16, 0), (some 2, 0)], []), (3, [(some 16, 0), (none, 0)], []), (20, [(some 16, 0), (some 14, 0)], [20]), (2, [(some 14, 0), (some 5, 0)], []), (82, [(some 14, 0), (some 9, 0), (some 15, 0), (some 2, 0)], [26, 27, 58, 59, 19, 20]), (3, [(some 5, 0), (some 14, 0)], []), (2, [(some 9, 0), (none, 43)], [])], (82, [(some 14, 1), (some 9, 0), (some 15, 0), (some 2, 0)], [26, 27, 58, 59, 19, 20]))
set_option maxRecDepth 20000 in
theorem v_enterAll3_35_1_1 {PT : PTy} (hp : HP3 PT) : vcOk PT w_enterAll3_35_1_1 := vc_iv [(2, 0, 7), (5, 1, 6), (9, 0, 49), (14, 0, 5), (15, 0, 49), (16, 0, 7)] [19, 20, 26, 27, 58, 59] (by decide +kernel) (fun ρ α => by
  intro r2 g2 b2 r5 g5 b5 r9 g9 b9 r14 g14 b14 r15 g15 b15 r16 g16 b16 a19 h19 a20 h20 a26 h26 a27 h27 a58 h58 a59 h59 f0 f1 f2 f3 f4 f5 f6 f7 tt
  clear f0 f2
  have e82 : PT 82 = P_eaI3 := pe82_3 hp
  simp only [hF2, hF3, hF20, hFp_82, e82, P_eaI3, den_s, den_c, Int.add_zero, List.map_cons, List.map_nil, g2.eq, g5.eq, g9.eq, g14.eq, g15.eq, g16.eq, h19, h20, h26, h27, h58, h59] at f1 f3 f4 f5 f6 f7 ⊢
  subst f3
  obtain ⟨i1, i2, i3⟩ := f5
  first
    | omega
    | exact ⟨by omega, i2, fun l h1 h2 => by have h := i3 l h1 h2; rw [show r5 = r14 by omega]; exact h⟩
    | (refine ⟨by omega, i2, fun l h1 h2 => ?_⟩; rw [foldI_s (by omega)]; unfold stpT; rw [if_neg (by omega)]; exact i3 l h1 h2)
    | (have he := MISSING; refine ⟨by obtain ⟨t, z⟩ := he; omega, fun h => prS_ent (i2 h) he (fun _ => by omega), fun l h1 h2 => ?_⟩; rw [foldI_s (by omega)]; unfold stpT; rw [if_pos (by omega)]; exact isL_ins (foldI_srt stpT_srt h1 _) (i3 l h1 h2) he))
def w_enterAll3_35_1_2 : VC := (([(0, 23), (0, 49), (0, 7), (0, 11), (0, 9), (1, 6), (0, 6), (0, 8), (0, 9), (0, 49), (0, 49), ((-2147483648), 2147483647), ((-2147483648), 2147483647), (0, 5), (0, 5), (0, 49), (0, 7)]), [(0, [(none, 0), (none, 0)], []), (3, [(some 16, 0), (some 2, 0)], []), (3, [(some 16, 0), (none, 0)], []), (20, [(some 16, 0), (some 14, 0)], [20]), (2, [(some 14, 0), (some 5, 0)], []), (82, [(some 14, 0), (some 9, 0), (some 15, 0), (some 2, 0)], [26, 27, 58, 59, 19, 20]), (3, [(some 5, 0), (some 14, 0)], []), (2, [(some 9, 0), (none, 43)], [])], (3, [(some 5, 0), (some 14, 1)], []))
set_option maxRecDepth 20000 in
theorem v_enterAll3_35_1_2 {PT : PTy} (hp : HP3 PT) : vcOk PT w_enterAll3_35_1_2 := vc_iv [(2, 0, 7), (5, 1, 6), (9, 0, 49), (14, 0, 5), (15, 0, 49), (16, 0, 7)] [19, 20, 26, 27, 58, 59] (by decide +kernel) (fun ρ α => by
  intro r2 g2 b2 r5 g5 b5 r9 g9 b9 r14 g14 b14 r15 g15 b15 r16 g16 b16 a19 h19 a20 h20 a26 h26 a27 h27 a58 h58 a59 h59 f0 f1 f2 f3 f4 f5 f6 f7 tt
  clear f0 f2
  have e82 : PT 82 = P_eaI3 := pe82_3 hp
  simp only [hF2, hF3, hF20, hFp_82, e82, P_eaI3, den_s, den_c, Int.add_zero, List.map_cons, List.map_nil, g2.eq, g5.eq, g9.eq, g14.eq, g15.eq, g16.eq, h19, h20, h26, h27, h58, h59] at f1 f3 f4 f5 f6 f7 ⊢
  subst f3
  obtain ⟨i1, i2, i3⟩ := f5
  first
    | omega
    | exact ⟨by omega, i2, fun l h1 h2 => by have h := i3 l h1 h2; rw [show r5 = r14 by omega]; exact h⟩
    | (refine ⟨by omega, i2, fun l h1 h2 => ?_⟩; rw [foldI_s (by omega)]; unfold stpT; rw [if_neg (by omega)]; exact i3 l h1 h2)
    | (have he := MISSING; refine ⟨by obtain ⟨t, z⟩ := he; omega, fun h => prS_ent (i2 h) he (fun _ => by omega), fun l h1 h2 => ?_⟩; rw [foldI_s (by omega)]; unfold stpT; rw [if_pos (by omega)]; exact isL_ins (foldI_srt stpT_srt h1 _) (i3 l h1 h2) he))
def w_enterAll3_35_1_3 : VC := (([(0, 23), (0, 49), (1, 8), (0, 11), (0, 9), (1, 6), (0, 6), (0, 8), (0, 9), (0, 49), (0, 49), ((-2147483648), 2147483647), ((-2147483648), 2147483647), (0, 5), (0, 5), (0, 49), (0, 7), (0, 23)]), [(20, [(some 17, 0), (some 14, 0)], [19]), (1, [(none, 1), (none, 0)], []), (2, [(some 16, 0), (some 2, 0)], []), (3, [(some 16, 0), (none, 0)], []), (20, [(some 16, 0), (some 14, 0)], [20]), (2, [(some 14, 0), (some 5, 0)], []), (82, [(some 14, 0), (some 9, 0), (some 15, 0), (some 2, 0)], [26, 27, 58, 59, 19, 20]), (3, [(some 5, 0), (some 14, 0)], []), (2, [(some 9, 0), (none, 43)], [])], (2, [(some 15, 0), (none, 49)], []))
set_option maxRecDepth 20000 in
theorem v_enterAll3_35_1_3 {PT : PTy} (hp : HP3 PT) : vcOk PT w_enterAll3_35_1_3 := vc_iv [(2, 1, 8), (5, 1, 6), (9, 0, 49), (14, 0, 5), (15, 0, 49), (16, 0, 7), (17, 0, 23)] [19, 20, 26, 27, 58, 59] (by decide +kernel) (fun ρ α => by
  intro r2 g2 b2 r5 g5 b5 r9 g9 b9 r14 g14 b14 r15 g15 b15 r16 g16 b16 r17 g17 b17 a19 h19 a20 h20 a26 h26 a27 h27 a58 h58 a59 h59 f0 f1 f2 f3 f4 f5 f6 f7 f8 tt
  clear f1 f3
  have e82 : PT 82 = P_eaI3 := pe82_3 hp
  simp only [hF2, hF3, hF20, hFp_82, e82, P_eaI3, den_s, den_c, Int.add_zero, List.map_cons, List.map_nil, g2.eq, g5.eq, g9.eq, g14.eq, g15.eq, g16.eq, g17.eq, h19, h20, h26, h27, h58, h59] at f0 f2 f4 f5 f6 f7 f8 ⊢
  subst f0
  subst f4
  obtain ⟨i1, i2, i3⟩ := f6
  first
    | omega
    | exact ⟨by omega, i2, fun l h1 h2 => by have h := i3 l h1 h2; rw [show r5 = r14 by omega]; exact h⟩
    | (refine ⟨by omega, i2, fun l h1 h2 => ?_⟩; rw [foldI_s (by omega)]; unfold stpT; rw [if_neg (by omega)]; exact i3 l h1 h2)
    | (have he := MISSING; refine ⟨by obtain ⟨t, z⟩ := he; omega, fun h => prS_ent (i2 h) he (fun _ => by omega), fun l h1 h2 => ?_⟩; rw [foldI_s (by omega)]; unfold stpT; rw [if_pos (by omega)]; exact isL_ins (foldI_srt stpT_srt h1 _) (i3 l h1 h2) he))
def w_enterAll3_35_1_4 : VC := (([(0, 23), (0, 49), (1, 8), (0, 11), (0, 9), (1, 6), (0, 6), (0, 8), (0, 9), (0, 49), (0, 49), ((-2147483648), 2147483647), ((-2147483648), 2147483647), (0, 5), (0, 5), (0, 49), (0, 7), (0, 23), (0, 49)]), [(80, [(some 15, 0), (some 18, 0), (some 17, 0), (none, 3), (some 14, 0)], [58, 59, 60, 61]), (20, [(some 17, 0), (some 14, 0)], [19]), (1, [(none, 1), (none, 0)], []), (2, [(some 16, 0), (some 2, 0)], []), (3, [(some 16, 0), (none, 0)], []), (20, [(some 16, 0), (some 14, 0)], [20]), (2, [(some 14, 0), (some 5, 0)], []), (82, [(some 14, 0), (some 9, 0), (some 15, 0), (some 2, 0)], [26, 27, 58, 59, 19, 20]), (3, [(some 5, 0), (some 14, 0)], []), (2, [(some 9, 0), (none, 43)], [])], (82, [(some 14, 1), (some 9, 0), (some 18, 0), (some 2, 0)], [26, 27, 60, 61, 19, 20]))
set_option maxRecDepth 20000 in
theorem v_enterAll3_35_1_4 {PT : PTy} (hp : HP3 PT) : vcOk PT w_enterAll3_35_1_4 := vc_iv [(2, 1, 8), (5, 1, 6), (9, 0, 49), (14, 0, 5), (15, 0, 49), (16, 0, 7), (17, 0, 23), (18, 0, 49)] [19, 20, 26, 27, 58, 59, 60, 61] (by decide +kernel) (fun ρ α => by
  intro r2 g2 b2 r5 g5 b5 r9 g9 b9 r14 g14 b14 r15 g15 b15 r16 g16 b16 r17 g17 b17 r18 g18 b18 a19 h19 a20 h20 a26 h26 a27 h27 a58 h58 a59 h59 a60 h60 a61 h61 f0 f1 f2 f3 f4 f5 f6 f7 f8 f9 tt
  clear f2 f4
  have e80 : PT 80 = P_ent := pe80_3 hp
  have e82 : PT 82 = P_eaI3 := pe82_3 hp
  simp only [hF2, hF3, hF20, hFp_80, hFp_82, e80, e82, P_ent, P_eaI3, den_s, den_c, Int.add_zero, List.map_cons, List.map_nil, g2.eq, g5.eq, g9.eq, g14.eq, g15.eq, g16.eq, g17.eq, g18.eq, h19, h20, h26, h27, h58, h59, h60, h61] at f0 f1 f3 f5 f6 f7 f8 f9 ⊢
  subst f1
  subst f5
  obtain ⟨i1, i2, i3⟩ := f7
  first
    | omega
    | exact ⟨by omega, i2, fun l h1 h2 => by have h := i3 l h1 h2; rw [show r5 = r14 by omega]; exact h⟩
    | (refine ⟨by omega, i2, fun l h1 h2 => ?_⟩; rw [foldI_s (by omega)]; unfold stpT; rw [if_neg (by omega)]; exact i3 l h1 h2)
    | (have he := f0; refine ⟨by obtain ⟨t, z⟩ := he; omega, fun h => prS_ent (i2 h) he (fun _ => by omega), fun l h1 h2 => ?_⟩; rw [foldI_s (by omega)]; unfold stpT; rw [if_pos (by omega)]; exact isL_ins (foldI_srt stpT_srt h1 _) (i3 l h1 h2) he))
def w_enterAll3_35_1_5 : VC := (([(0, 23), (0, 49), (1, 8), (0, 11), (0, 9), (1, 6), (0, 6), (0, 8), (0, 9), (0, 49), (0, 49), ((-2147483648), 2147483647), ((-2147483648), 2147483647), (0, 5), (0, 5), (0, 49), (0, 7), (0, 23), (0, 49)]), [(80, [(some 15, 0), (some 18, 0), (some 17, 0), (none, 3), (some 14, 0)], [58, 59, 60, 61]), (20, [(some 17, 0), (some 14, 0)], [19]), (1, [(none, 1), (none, 0)], []), (2, [(some 16, 0), (some 2, 0)], []), (3, [(some 16, 0), (none, 0)], []), (20, [(some 16, 0), (some 14, 0)], [20]), (2, [(some 14, 0), (some 5, 0)], []), (82, [(some 14, 0), (some 9, 0), (some 15, 0), (some 2, 0)], [26, 27, 58, 59, 19, 20]), (3, [(some 5, 0), (some 14, 0)], []), (2, [(some 9, 0), (none, 43)], [])], (3, [(some 5, 0), (some 14, 1)], []))
set_option maxRecDepth 20000 in
theorem v_enterAll3_35_1_5 {PT : PTy} (hp : HP3 PT) : vcOk PT w_enterAll3_35_1_5 := vc_iv [(2, 1, 8), (5, 1, 6), (9, 0, 49), (14, 0, 5), (15, 0, 49), (16, 0, 7), (17, 0, 23), (18, 0, 49)] [19, 20, 26, 27, 58, 59, 60, 61] (by decide +kernel) (fun ρ α => by
  intro r2 g2 b2 r5 g5 b5 r9 g9 b9 r14 g14 b14 r15 g15 b15 r16 g16 b16 r17 g17 b17 r18 g18 b18 a19 h19 a20 h20 a26 h26 a27 h27 a58 h58 a59 h59 a60 h60 a61 h61 f0 f1 f2 f3 f4 f5 f6 f7 f8 f9 tt
  clear f2 f4
  have e80 : PT 80 = P_ent := pe80_3 hp
  have e82 : PT 82 = P_eaI3 := pe82_3 hp
  simp only [hF2, hF3, hF20, hFp_80, hFp_82, e80, e82, P_ent, P_eaI3, den_s, den_c, Int.add_zero, List.map_cons, List.map_nil, g2.eq, g5.eq, g9.eq, g14.eq, g15.eq, g16.eq, g17.eq, g18.eq, h19, h20, h26, h27, h58, h59, h60, h61] at f0 f1 f3 f5 f6 f7 f8 f9 ⊢
  subst f1
  subst f5
  obtain ⟨i1, i2, i3⟩ := f7
  first
    | omega
    | exact ⟨by omega, i2, fun l h1 h2 => by have h := i3 l h1 h2; rw [show r5 = r14 by omega]; exact h⟩
    | (refine ⟨by omega, i2, fun l h1 h2 => ?_⟩; rw [foldI_s (by omega)]; unfold stpT; rw [if_neg (by omega)]; exact i3 l h1 h2)
    | (have he := f0; refine ⟨by obtain ⟨t, z⟩ := he; omega, fun h => prS_ent (i2 h) he (fun _ => by omega), fun l h1 h2 => ?_⟩; rw [foldI_s (by omega)]; unfold stpT; rw [if_pos (by omega)]; exact isL_ins (foldI_srt stpT_srt h1 _) (i3 l h1 h2) he))
set_option maxRecDepth 1000000 in
theorem k_enterAll3_35 {PT : PTy} (hp : HP3 PT) : wfX c_enterAll3_35 = true ∧ xcOk PT c_enterAll3_35 := xctr (xl (k_enter35 hp) (xl0)) c_enterAll3_35 52 mX0_enterAll rfl h_enterAll3_35 (by decide +kernel) (by decide +kernel) (by decide) (vcs_by [w_enterAll3_35_0_0, w_enterAll3_35_0_1] (by decide +kernel) (vc (v_enterAll3_35_0_0 hp) (vc (v_enterAll3_35_0_1 hp) vn))) (fmc (vcs_by [w_enterAll3_35_1_0, w_enterAll3_35_1_1, w_enterAll3_35_1_2, w_enterAll3_35_1_3, w_enterAll3_35_1_4, w_enterAll3_35_1_5] (by decide +kernel) (vc (v_enterAll3_35_1_0 hp) (vc (v_enterAll3_35_1_1 hp) (vc (v_enterAll3_35_1_2 hp) (vc (v_enterAll3_35_1_3 hp) (vc (v_enterAll3_35_1_4 hp) (vc (v_enterAll3_35_1_5 hp) vn))))))) fmn)
def c_enterAll4_35 : XC := (2, 1, (bX), [.inr (.inl 5), .inr (.inl 22), .inl (none, 4)], (gX 35), [(2, [(some 9, 0), (none, 43)], [])], [((bX ++ [(0, 49)]), none, (hst (gX 35) [(5, .inr (.inr (.inr (0, [.inr (.inl 6), .inr (.inl 9), .inr (.inl 14), .inr (.inl 18), .inr (.inl 22), .inr (.inl 26), .inr (.inl 27), .inr (.inl 28), .inr (.inl 29), .inr (.inl 30), .inl (some 14, 0), .inl (some 10, 0), .inl (some 11, 0), .inl (some 12, 0), .inr (.inl 35)]))))]), (ansT 58 [(26, 58), (27, 59)]), 60, [(83, [(some 6, 0), (some 9, 0), (some 14, 0), (some 2, 0)], [26, 27, 58, 59, 23, 24])])])
def h_enterAll4_35 : List XH := [(2, (bX ++ [(0, 6), (0, 49)]), [some (.inr (.inl 5)), some (.inr (.inl 22)), some (.inl (none, 4)), some (.inl (some 14, 0))], (hst (gX 35) [(5, .inr (.inr (.inr (0, [.inr (.inl 6), .inr (.inl 9), .inr (.inl 14), .inr (.inl 18), .inr (.inl 22), .inr (.inl 26), .inr (.inl 27), .inr (.inl 28), .inr (.inl 29), .inr (.inl 30), .inl (some 15, 0), .inl (some 10, 0), .inl (some 11, 0), .inl (some 12, 0), .inr (.inl 35)]))))]), (ansT 58 [(26, 58), (27, 59)]), 60, [(83, [(some 14, 0), (some 9, 0), (some 15, 0), (some 2, 0)], [26, 27, 58, 59, 23, 24]), (3, [(some 6, 0), (some 14, 0)], [])], [(true, (none, 1)), (true, (some 14, 0))])]
def w_enterAll4_35_0_0 : VC := ((bX), [(2, [(some 9, 0), (none, 43)], [])], (83, [(none, 0), (some 9, 0), (some 9, 0), (some 2, 0)], [26, 27, 26, 27, 23, 24]))
set_option maxRecDepth 20000 in
theorem v_enterAll4_35_0_0 {PT : PTy} (hp : HP3 PT) : vcOk PT w_enterAll4_35_0_0 := vc_in [(2, 0, 8), (9, 0, 49)] (by decide +kernel) (fun ρ α => by
  intro b2 b9 f0 tt
  have e83 : PT 83 = P_eaI4 := pe83_3 hp
  simp only [hF2, hFp_83, e83, P_eaI4, den_s, den_c, Int.add_zero, List.map_cons, List.map_nil] at f0 ⊢
  first | omega | exact ⟨by omega, fun h => h, fun l _ h => h⟩)
def w_enterAll4_35_0_1 : VC := ((bX), [(2, [(some 9, 0), (none, 43)], [])], (3, [(some 6, 0), (none, 0)], []))
set_option maxRecDepth 20000 in
theorem v_enterAll4_35_0_1 {PT : PTy} (hp : HP3 PT) : vcOk PT w_enterAll4_35_0_1 := vc_in [(6, 0, 6), (9, 0, 49)] (by decide +kernel) (fun ρ α => by
  intro b6 b9 f0 tt
  simp only [hF2, hF3, den_s, den_c, Int.add_zero, List.map_cons, List.map_nil] at f0 ⊢
  first | omega | exact ⟨by omega, fun h => h, fun l _ h => h⟩)
def w_enterAll4_35_1_0 : VC := ((bX ++ [(0, 6), (0, 49)]), [(3, [(some 14, 0), (some 6, 0)], []), (83, [(some 14, 0), (some 9, 0), (some 15, 0), (some 2, 0)], [26, 27, 58, 59, 23, 24]), (3, [(some 6, 0), (some 14, 0)], []), (2, [(some 9, 0), (none, 43)], [])], (83, [(some 6, 0), (some 9, 0), (some 15, 0), (some 2, 0)], [26, 27, 58, 59, 23, 24]))
set_option maxRecDepth 20000 in
theorem v_enterAll4_35_1_0 {PT : PTy} (hp : HP3 PT) : vcOk PT w_enterAll4_35_1_0 := vc_iv [(2, 0, 8), (6, 0, 6), (9, 0, 49), (14, 0, 6), (15, 0, 49)] [23, 24, 26, 27, 58, 59] (by decide +kernel) (fun ρ α => by
  intro r2 g2 b2 r6 g6 b6 r9 g9 b9 r14 g14 b14 r15 g15 b15 a23 h23 a24 h24 a26 h26 a27 h27 a58 h58 a59 h59 f0 f1 f2 f3 tt
  have e83 : PT 83 = P_eaI4 := pe83_3 hp
  simp only [hF2, hF3, hFp_83, e83, P_eaI4, den_s, den_c, Int.add_zero, List.map_cons, List.map_nil, g2.eq, g6.eq, g9.eq, g14.eq, g15.eq, h23, h24, h26, h27, h58, h59] at f0 f1 f2 f3 ⊢
  obtain ⟨i1, i2, i3⟩ := f1
  first
    | omega
    | exact ⟨by omega, i2, fun l h1 h2 => by have h := i3 l h1 h2; rw [show r6 = r14 by omega]; exact h⟩
    | (refine ⟨by omega, i2, fun l h1 h2 => ?_⟩; rw [foldI_s (by omega)]; unfold stpT; rw [if_neg (by omega)]; exact i3 l h1 h2)
    | (have he := MISSING; refine ⟨by obtain ⟨t, z⟩ := he; omega, fun h => prS_ent (i2 h) he (fun _ => by omega), fun l h1 h2 => ?_⟩; rw [foldI_s (by omega)]; unfold stpT; rw [if_pos (by omega)]; exact isL_ins (foldI_srt stpT_srt h1 _) (i3 l h1 h2) he))
def w_enterAll4_35_1_1 : VC := (([(0, 23), (0, 49), (0, 7), (0, 11), (0, 9), (0, 6), (1, 6), (0, 8), (0, 9), (0, 49), (0, 49), ((-2147483648), 2147483647), ((-2147483648), 2147483647), (0, 5), (0, 5), (0, 49), (0, 7)]), [(0, [(none, 0), (none, 0)], []), (3, [(some 16, 0), (some 2, 0)], []), (3, [(some 16, 0), (none, 0)], []), (20, [(some 16, 0), (some 14, 0)], [24]), (2, [(some 14, 0), (some 6, 0)], []), (83, [(some 14, 0), (some 9, 0), (some 15, 0), (some 2, 0)], [26, 27, 58, 59, 23, 24]), (3, [(some 6, 0), (some 14, 0)], []), (2, [(some 9, 0), (none, 43)], [])], (83, [(some 14, 1), (some 9, 0), (some 15, 0), (some 2, 0)], [26, 27, 58, 59, 23, 24]))
set_option maxRecDepth 20000 in
theorem v_enterAll4_35_1_1 {PT : PTy} (hp : HP3 PT) : vcOk PT w_enterAll4_35_1_1 := vc_iv [(2, 0, 7), (6, 1, 6), (9, 0, 49), (14, 0, 5), (15, 0, 49), (16, 0, 7)] [23, 24, 26, 27, 58, 59] (by decide +kernel) (fun ρ α => by
  intro r2 g2 b2 r6 g6 b6 r9 g9 b9 r14 g14 b14 r15 g15 b15 r16 g16 b16 a23 h23 a24 h24 a26 h26 a27 h27 a58 h58 a59 h59 f0 f1 f2 f3 f4 f5 f6 f7 tt
  clear f0 f2
  have e83 : PT 83 = P_eaI4 := pe83_3 hp
  simp only [hF2, hF3, hF20, hFp_83, e83, P_eaI4, den_s, den_c, Int.add_zero, List.map_cons, List.map_nil, g2.eq, g6.eq, g9.eq, g14.eq, g15.eq, g16.eq, h23, h24, h26, h27, h58, h59] at f1 f3 f4 f5 f6 f7 ⊢
  subst f3
  obtain ⟨i1, i2, i3⟩ := f5
  first
    | omega
    | exact ⟨by omega, i2, fun l h1 h2 => by have h := i3 l h1 h2; rw [show r6 = r14 by omega]; exact h⟩
    | (refine ⟨by omega, i2, fun l h1 h2 => ?_⟩; rw [foldI_s (by omega)]; unfold stpT; rw [if_neg (by omega)]; exact i3 l h1 h2)
    | (have he := MISSING; refine ⟨by obtain ⟨t, z⟩ := he; omega, fun h => prS_ent (i2 h) he (fun _ => by omega), fun l h1 h2 => ?_⟩; rw [foldI_s (by omega)]; unfold stpT; rw [if_pos (by omega)]; exact isL_ins (foldI_srt stpT_srt h1 _) (i3 l h1 h2) he))
def w_enterAll4_35_1_2 : VC := (([(0, 23), (0, 49), (0, 7), (0, 11), (0, 9), (0, 6), (1, 6), (0, 8), (0, 9), (0, 49), (0, 49), ((-2147483648), 2147483647), ((-2147483648), 2147483647), (0, 5), (0, 5), (0, 49), (0, 7)]), [(0, [(none, 0), (none, 0)], []), (3, [(some 16, 0), (some 2, 0)], []), (3, [(some 16, 0), (none, 0)], []), (20, [(some 16, 0), (some 14, 0)], [24]), (2, [(some 14, 0), (some 6, 0)], []), (83, [(some 14, 0), (some 9, 0), (some 15, 0), (some 2, 0)], [26, 27, 58, 59, 23, 24]), (3, [(some 6, 0), (some 14, 0)], []), (2, [(some 9, 0), (none, 43)], [])], (3, [(some 6, 0), (some 14, 1)], []))
set_option maxRecDepth 20000 in
theorem v_enterAll4_35_1_2 {PT : PTy} (hp : HP3 PT) : vcOk PT w_enterAll4_35_1_2 := vc_iv [(2, 0, 7), (6, 1, 6), (9, 0, 49), (14, 0, 5), (15, 0, 49), (16, 0, 7)] [23, 24, 26, 27, 58, 59] (by decide +kernel) (fun ρ α => by
  intro r2 g2 b2 r6 g6 b6 r9 g9 b9 r14 g14 b14 r15 g15 b15 r16 g16 b16 a23 h23 a24 h24 a26 h26 a27 h27 a58 h58 a59 h59 f0 f1 f2 f3 f4 f5 f6 f7 tt
  clear f0 f2
  have e83 : PT 83 = P_eaI4 := pe83_3 hp
  simp only [hF2, hF3, hF20, hFp_83, e83, P_eaI4, den_s, den_c, Int.add_zero, List.map_cons, List.map_nil, g2.eq, g6.eq, g9.eq, g14.eq, g15.eq, g16.eq, h23, h24, h26, h27, h58, h59] at f1 f3 f4 f5 f6 f7 ⊢
  subst f3
  obtain ⟨i1, i2, i3⟩ := f5
  first
    | omega
    | exact ⟨by omega, i2, fun l h1 h2 => by have h := i3 l h1 h2; rw [show r6 = r14 by omega]; exact h⟩
    | (refine ⟨by omega, i2, fun l h1 h2 => ?_⟩; rw [foldI_s (by omega)]; unfold stpT; rw [if_neg (by omega)]; exact i3 l h1 h2)
    | (have he := MISSING; refine ⟨by obtain ⟨t, z⟩ := he; omega, fun h => prS_ent (i2 h) he (fun _ => by omega), fun l h1 h2 => ?_⟩; rw [foldI_s (by omega)]; unfold stpT; rw [if_pos (by omega)]; exact isL_ins (foldI_srt stpT_srt h1 _) (i3 l h1 h2) he))
def w_enterAll4_35_1_3 : VC := (([(0, 23), (0, 49), (1, 8), (0, 11), (0, 9), (0, 6), (1, 6), (0, 8), (0, 9), (0, 49), (0, 49), ((-2147483648), 2147483647), ((-2147483648), 2147483647), (0, 5), (0, 5), (0, 49), (0, 7), (0, 23)]), [(20, [(some 17, 0), (some 14, 0)], [23]), (1, [(none, 1), (none, 0)], []), (2, [(some 16, 0), (some 2, 0)], []), (3, [(some 16, 0), (none, 0)], []), (20, [(some 16, 0), (some 14, 0)], [24]), (2, [(some 14, 0), (some 6, 0)], []), (83, [(some 14, 0), (some 9, 0), (some 15, 0), (some 2, 0)], [26, 27, 58, 59, 23, 24]), (3, [(some 6, 0), (some 14, 0)], []), (2, [(some 9, 0), (none, 43)], [])], (2, [(some 15, 0), (none, 49)], []))
set_option maxRecDepth 20000 in
theorem v_enterAll4_35_1_3 {PT : PTy} (hp : HP3 PT) : vcOk PT w_enterAll4_35_1_3 := vc_iv [(2, 1, 8), (6, 1, 6), (9, 0, 49), (14, 0, 5), (15, 0, 49), (16, 0, 7), (17, 0, 23)] [23, 24, 26, 27, 58, 59] (by decide +kernel) (fun ρ α => by
  intro r2 g2 b2 r6 g6 b6 r9 g9 b9 r14 g14 b14 r15 g15 b15 r16 g16 b16 r17 g17 b17 a23 h23 a24 h24 a26 h26 a27 h27 a58 h58 a59 h59 f0 f1 f2 f3 f4 f5 f6 f7 f8 tt
  clear f1 f3
  have e83 : PT 83 = P_eaI4 := pe83_3 hp
  simp only [hF2, hF3, hF20, hFp_83, e83, P_eaI4, den_s, den_c, Int.add_zero, List.map_cons, List.map_nil, g2.eq, g6.eq, g9.eq, g14.eq, g15.eq, g16.eq, g17.eq, h23, h24, h26, h27, h58, h59] at f0 f2 f4 f5 f6 f7 f8 ⊢
  subst f0
  subst f4
  obtain ⟨i1, i2, i3⟩ := f6
  first
    | omega
    | exact ⟨by omega, i2, fun l h1 h2 => by have h := i3 l h1 h2; rw [show r6 = r14 by omega]; exact h⟩
    | (refine ⟨by omega, i2, fun l h1 h2 => ?_⟩; rw [foldI_s (by omega)]; unfold stpT; rw [if_neg (by omega)]; exact i3 l h1 h2)
    | (have he := MISSING; refine ⟨by obtain ⟨t, z⟩ := he; omega, fun h => prS_ent (i2 h) he (fun _ => by omega), fun l h1 h2 => ?_⟩; rw [foldI_s (by omega)]; unfold stpT; rw [if_pos (by omega)]; exact isL_ins (foldI_srt stpT_srt h1 _) (i3 l h1 h2) he))
def w_enterAll4_35_1_4 : VC := (([(0, 23), (0, 49), (1, 8), (0, 11), (0, 9), (0, 6), (1, 6), (0, 8), (0, 9), (0, 49), (0, 49), ((-2147483648), 2147483647), ((-2147483648), 2147483647), (0, 5), (0, 5), (0, 49), (0, 7), (0, 23), (0, 49)]), [(80, [(some 15, 0), (some 18, 0), (some 17, 0), (none, 4), (some 14, 0)], [58, 59, 60, 61]), (20, [(some 17, 0), (some 14, 0)], [23]), (1, [(none, 1), (none, 0)], []), (2, [(some 16, 0), (some 2, 0)], []), (3, [(some 16, 0), (none, 0)], []), (20, [(some 16, 0), (some 14, 0)], [24]), (2, [(some 14, 0), (some 6, 0)], []), (83, [(some 14, 0), (some 9, 0), (some 15, 0), (some 2, 0)], [26, 27, 58, 59, 23, 24]), (3, [(some 6, 0), (some 14, 0)], []), (2, [(some 9, 0), (none, 43)], [])], (83, [(some 14, 1), (some 9, 0), (some 18, 0), (some 2, 0)], [26, 27, 60, 61, 23, 24]))
set_option maxRecDepth 20000 in
theorem v_enterAll4_35_1_4 {PT : PTy} (hp : HP3 PT) : vcOk PT w_enterAll4_35_1_4 := vc_iv [(2, 1, 8), (6, 1, 6), (9, 0, 49), (14, 0, 5), (15, 0, 49), (16, 0, 7), (17, 0, 23), (18, 0, 49)] [23, 24, 26, 27, 58, 59, 60, 61] (by decide +kernel) (fun ρ α => by
  intro r2 g2 b2 r6 g6 b6 r9 g9 b9 r14 g14 b14 r15 g15 b15 r16 g16 b16 r17 g17 b17 r18 g18 b18 a23 h23 a24 h24 a26 h26 a27 h27 a58 h58 a59 h59 a60 h60 a61 h61 f0 f1 f2 f3 f4 f5 f6 f7 f8 f9 tt
  clear f2 f4
  have e80 : PT 80 = P_ent := pe80_3 hp
  have e83 : PT 83 = P_eaI4 := pe83_3 hp
  simp only [hF2, hF3, hF20, hFp_80, hFp_83, e80, e83, P_ent, P_eaI4, den_s, den_c, Int.add_zero, List.map_cons, List.map_nil, g2.eq, g6.eq, g9.eq, g14.eq, g15.eq, g16.eq, g17.eq, g18.eq, h23, h24, h26, h27, h58, h59, h60, h61] at f0 f1 f3 f5 f6 f7 f8 f9 ⊢
  subst f1
  subst f5
  obtain ⟨i1, i2, i3⟩ := f7
  first
    | omega
    | exact ⟨by omega, i2, fun l h1 h2 => by have h := i3 l h1 h2; rw [show r6 = r14 by omega]; exact h⟩
    | (refine ⟨by omega, i2, fun l h1 h2 => ?_⟩; rw [foldI_s (by omega)]; unfold stpT; rw [if_neg (by omega)]; exact i3 l h1 h2)
    | (have he := f0; refine ⟨by obtain ⟨t, z⟩ := he; omega, fun h => prS_ent (i2 h) he (fun _ => by omega), fun l h1 h2 => ?_⟩; rw [foldI_s (by omega)]; unfold stpT; rw [if_pos (by omega)]; exact isL_ins (foldI_srt stpT_srt h1 _) (i3 l h1 h2) he))
def w_enterAll4_35_1_5 : VC := (([(0, 23), (0, 49), (1, 8), (0, 11), (0, 9), (0, 6), (1, 6), (0, 8), (0, 9), (0, 49), (0, 49), ((-2147483648), 2147483647), ((-2147483648), 2147483647), (0, 5), (0, 5), (0, 49), (0, 7), (0, 23), (0, 49)]), [(80, [(some 15, 0), (some 18, 0), (some 17, 0), (none, 4), (some 14, 0)], [58, 59, 60, 61]), (20, [(some 17, 0), (some 14, 0)], [23]), (1, [(none, 1), (none, 0)], []), (2, [(some 16, 0), (some 2, 0)], []), (3, [(some 16, 0), (none, 0)], []), (20, [(some 16, 0), (some 14, 0)], [24]), (2, [(some 14, 0), (some 6, 0)], []), (83, [(some 14, 0), (some 9, 0), (some 15, 0), (some 2, 0)], [26, 27, 58, 59, 23, 24]), (3, [(some 6, 0), (some 14, 0)], []), (2, [(some 9, 0), (none, 43)], [])], (3, [(some 6, 0), (some 14, 1)], []))
set_option maxRecDepth 20000 in
theorem v_enterAll4_35_1_5 {PT : PTy} (hp : HP3 PT) : vcOk PT w_enterAll4_35_1_5 := vc_iv [(2, 1, 8), (6, 1, 6), (9, 0, 49), (14, 0, 5), (15, 0, 49), (16, 0, 7), (17, 0, 23), (18, 0, 49)] [23, 24, 26, 27, 58, 59, 60, 61] (by decide +kernel) (fun ρ α => by
  intro r2 g2 b2 r6 g6 b6 r9 g9 b9 r14 g14 b14 r15 g15 b15 r16 g16 b16 r17 g17 b17 r18 g18 b18 a23 h23 a24 h24 a26 h26 a27 h27 a58 h58 a59 h59 a60 h60 a61 h61 f0 f1 f2 f3 f4 f5 f6 f7 f8 f9 tt
  clear f2 f4
  have e80 : PT 80 = P_ent := pe80_3 hp
  have e83 : PT 83 = P_eaI4 := pe83_3 hp
  simp only [hF2, hF3, hF20, hFp_80, hFp_83, e80, e83, P_ent, P_eaI4, den_s, den_c, Int.add_zero, List.map_cons, List.map_nil, g2.eq, g6.eq, g9.eq, g14.eq, g15.eq, g16.eq, g17.eq, g18.eq, h23, h24, h26, h27, h58, h59, h60, h61] at f0 f1 f3 f5 f6 f7 f8 f9 ⊢
  subst f1
  subst f5
  obtain ⟨i1, i2, i3⟩ := f7
  first
    | omega
    | exact ⟨by omega, i2, fun l h1 h2 => by have h := i3 l h1 h2; rw [show r6 = r14 by omega]; exact h⟩
    | (refine ⟨by omega, i2, fun l h1 h2 => ?_⟩; rw [foldI_s (by omega)]; unfold stpT; rw [if_neg (by omega)]; exact i3 l h1 h2)
    | (have he := f0; refine ⟨by obtain ⟨t, z⟩ := he; omega, fun h => prS_ent (i2 h) he (fun _ => by omega), fun l h1 h2 => ?_⟩; rw [foldI_s (by omega)]; unfold stpT; rw [if_pos (by omega)]; exact isL_ins (foldI_srt stpT_srt h1 _) (i3 l h1 h2) he))
set_option maxRecDepth 1000000 in
theorem k_enterAll4_35 {PT : PTy} (hp : HP3 PT) : wfX c_enterAll4_35 = true ∧ xcOk PT c_enterAll4_35 := xctr (xl (k_enter35 hp) (xl0)) c_enterAll4_35 52 mX0_enterAll rfl h_enterAll4_35 (by decide +kernel) (by decide +kernel) (by decide) (vcs_by [w_enterAll4_35_0_0, w_enterAll4_35_0_1] (by decide +kernel) (vc (v_enterAll4_35_0_0 hp) (vc (v_enterAll4_35_0_1 hp) vn))) (fmc (vcs_by [w_enterAll4_35_1_0, w_enterAll4_35_1_1, w_enterAll4_35_1_2, w_enterAll4_35_1_3, w_enterAll4_35_1_4, w_enterAll4_35_1_5] (by decide +kernel) (vc (v_enterAll4_35_1_0 hp) (vc (v_enterAll4_35_1_1 hp) (vc (v_enterAll4_35_1_2 hp) (vc (v_enterAll4_35_1_3 hp) (vc (v_enterAll4_35_1_4 hp) (vc (v_enterAll4_35_1_5 hp) vn))))))) fmn)
def c_arrange35 : XC := (1, 2, (bX), [.inr (.inl 5), .inr (.inl 35)], (gX 999), [], [((bX ++ [(0, 49)]), none, (hst (gX 35) [(5, .inr (.inr (.inr (0, [.inr (.inl 6), .inr (.inl 9), .inr (.inl 14), .inr (.inl 18), .inr (.inl 22), .inr (.inl 26), .inr (.inl 27), .inr (.inl 28), .inr (.inl 29), .inr (.inl 30), .inl (some 14, 0), .inl (some 10, 0), .inl (none, 0), .inl (none, 0), .inr (.inl 35)]))))]), (ansT 58 [(26, 58), (27, 59)]), 60, [(86, [(some 2, 0), (some 3, 0), (some 8, 0), (some 5, 0), (some 6, 0), (some 14, 0)], [58, 59, 10, 12, 13, 36, 37, 19, 20, 23, 24])])])
def h_arrange35 : List XH := [(103, (bX ++ [(0, 9), (0, 49)]), [some (.inr (.inl 5)), some (.inr (.inl 35)), some (.inl (some 14, 0))], (hst (gX 35) [(5, .inr (.inr (.inr (0, [.inr (.inl 6), .inr (.inl 9), .inr (.inl 14), .inr (.inl 18), .inr (.inl 22), .inr (.inl 26), .inr (.inl 27), .inr (.inl 28), .inr (.inl 29), .inr (.inl 30), .inl (some 15, 0), .inl (some 10, 0), .inl (none, 0), .inl (none, 0), .inr (.inl 35)]))))]), (ansT 58 [(26, 58), (27, 59)]), 60, [(85, [(some 14, 0), (some 2, 0), (some 3, 0), (some 15, 0)], [58, 59, 10, 12, 13, 36, 37]), (3, [(some 8, 0), (some 14, 0)], [])], [(true, (none, 2)), (true, (some 14, 0))]),
  (22, (bX ++ [(0, 11), (0, 49)]), [some (.inr (.inl 5)), some (.inr (.inl 35)), some (.inl (some 14, 0))], (hst (gX 35) [(5, .inr (.inr (.inr (0, [.inr (.inl 6), .inr (.inl 9), .inr (.inl 14), .inr (.inl 18), .inr (.inl 22), .inr (.inl 26), .inr (.inl 27), .inr (.inl 28), .inr (.inl 29), .inr (.inl 30), .inl (some 15, 0), .inl (some 10, 0), .inl (none, 0), .inl (none, 0), .inr (.inl 35)]))))]), (ansT 58 [(26, 58), (27, 59)]), 60, [(84, [(some 14, 0), (some 2, 0), (some 15, 0)], [58, 59, 10, 12, 13]), (3, [(some 3, 0), (some 14, 0)], [])], [(true, (none, 1)), (true, (some 14, 0))])]
def w_arrange35_0_0 : VC := ((bX), [], (84, [(none, 0), (some 2, 0), (none, 0)], [26, 27, 10, 12, 13]))
set_option maxRecDepth 20000 in
theorem v_arrange35_0_0 {PT : PTy} (hp : HP3 PT) : vcOk PT w_arrange35_0_0 := vc_in [(2, 0, 8)] (by decide +kernel) (fun ρ α => by
  intro b2 tt
  have e84 : PT 84 = P_arV := pe84_3 hp
  simp only [hFp_84, e84, P_arV, den_s, den_c, Int.add_zero, List.map_cons, List.map_nil] at ⊢
  first | omega | exact ⟨by omega, fun i h1 h2 => by omega, isL_nil⟩)
def w_arrange35_0_1 : VC := ((bX), [], (3, [(some 3, 0), (none, 0)], []))
set_option maxRecDepth 20000 in
theorem v_arrange35_0_1 {PT : PTy} (hp : HP3 PT) : vcOk PT w_arrange35_0_1 := vc_in [(3, 0, 11)] (by decide +kernel) (fun ρ α => by
  intro b3 tt
  simp only [hF3, den_s, den_c, Int.add_zero, List.map_cons, List.map_nil] at ⊢
  first | omega | exact ⟨by omega, fun i h1 h2 => by omega, isL_nil⟩)
def w_arrange35_1_0 : VC := ((bX ++ [(0, 9), (0, 49)]), [(3, [(some 14, 0), (some 8, 0)], []), (85, [(some 14, 0), (some 2, 0), (some 3, 0), (some 15, 0)], [58, 59, 10, 12, 13, 36, 37]), (3, [(some 8, 0), (some 14, 0)], [])], (2, [(some 15, 0), (none, 43)], []))
set_option maxRecDepth 20000 in
theorem v_arrange35_1_0 {PT : PTy} (hp : HP3 PT) : vcOk PT w_arrange35_1_0 := vc_iv [(2, 0, 8), (3, 0, 11), (8, 0, 9), (14, 0, 9), (15, 0, 49)] [10, 12, 13, 36, 37, 58, 59] (by decide +kernel) (fun ρ α => by
  intro r2 g2 b2 r3 g3 b3 r8 g8 b8 r14 g14 b14 r15 g15 b15 a10 h10 a12 h12 a13 h13 a36 h36 a37 h37 a58 h58 a59 h59 f0 f1 f2 tt
  have e85 : PT 85 = P_arK := pe85_3 hp
  simp only [hF2, hF3, hFp_85, e85, P_arK, den_s, den_c, Int.add_zero, List.map_cons, List.map_nil, g2.eq, g3.eq, g8.eq, g14.eq, g15.eq, h10, h12, h13, h36, h37, h58, h59] at f0 f1 f2 ⊢
  obtain ⟨i1, i2, i3⟩ := f1
  first
    | omega
    | (obtain ⟨e1, e2, e3⟩ := MISSING; omega)
    | (rw [show r14 = r8 by omega] at i3; exact ⟨(MISSING).2.1 ((MISSING).2.1 i2), (MISSING).2.2 _ aL_srt ((MISSING).2.2 _ aK_srt i3)⟩)
    | (refine ⟨by omega, i2, ?_⟩; rw [foldI_s (by omega)]; unfold stpK; rw [if_neg (by omega)]; exact i3)
    | (have he := MISSING; refine ⟨by obtain ⟨t, z⟩ := he; omega, prS_ent i2 he (fun _ => by omega), ?_⟩; rw [foldI_s (by omega)]; unfold stpK; rw [if_pos (by omega)]; exact isL_ins (foldI_srt stpK_srt aV_srt _) i3 he))
def w_arrange35_1_1 : VC := ((bX ++ [(0, 9), (0, 49), (0, 49)]), [(82, [(some 5, 0), (some 15, 0), (some 16, 0), (some 2, 0)], [58, 59, 60, 61, 19, 20]), (3, [(some 14, 0), (some 8, 0)], []), (85, [(some 14, 0), (some 2, 0), (some 3, 0), (some 15, 0)], [58, 59, 10, 12, 13, 36, 37]), (3, [(some 8, 0), (some 14, 0)], [])], (2, [(some 16, 0), (none, 43)], []))
set_option maxRecDepth 20000 in
theorem v_arrange35_1_1 {PT : PTy} (hp : HP3 PT) : vcOk PT w_arrange35_1_1 := vc_iv [(2, 0, 8), (3, 0, 11), (5, 0, 6), (8, 0, 9), (14, 0, 9), (15, 0, 49), (16, 0, 49)] [10, 12, 13, 19, 20, 36, 37, 58, 59, 60, 61] (by decide +kernel) (fun ρ α => by
  intro r2 g2 b2 r3 g3 b3 r5 g5 b5 r8 g8 b8 r14 g14 b14 r15 g15 b15 r16 g16 b16 a10 h10 a12 h12 a13 h13 a19 h19 a20 h20 a36 h36 a37 h37 a58 h58 a59 h59 a60 h60 a61 h61 f0 f1 f2 f3 tt
  have e82 : PT 82 = P_eaI3 := pe82_3 hp
  have e85 : PT 85 = P_arK := pe85_3 hp
  simp only [hF2, hF3, hFp_82, hFp_85, e82, e85, P_eaI3, P_arK, den_s, den_c, Int.add_zero, List.map_cons, List.map_nil, g2.eq, g3.eq, g5.eq, g8.eq, g14.eq, g15.eq, g16.eq, h10, h12, h13, h19, h20, h36, h37, h58, h59, h60, h61] at f0 f1 f2 f3 ⊢
  obtain ⟨i1, i2, i3⟩ := f2
  first
    | omega
    | (obtain ⟨e1, e2, e3⟩ := f0; omega)
    | (rw [show r14 = r8 by omega] at i3; exact ⟨(MISSING).2.1 ((f0).2.1 i2), (MISSING).2.2 _ aL_srt ((f0).2.2 _ aK_srt i3)⟩)
    | (refine ⟨by omega, i2, ?_⟩; rw [foldI_s (by omega)]; unfold stpK; rw [if_neg (by omega)]; exact i3)
    | (have he := MISSING; refine ⟨by obtain ⟨t, z⟩ := he; omega, prS_ent i2 he (fun _ => by omega), ?_⟩; rw [foldI_s (by omega)]; unfold stpK; rw [if_pos (by omega)]; exact isL_ins (foldI_srt stpK_srt aV_srt _) i3 he))
def w_arrange35_1_2 : VC := ((bX ++ [(0, 9), (0, 49), (0, 49), (0, 49)]), [(83, [(some 6, 0), (some 16, 0), (some 17, 0), (some 2, 0)], [60, 61, 62, 63, 23, 24]), (82, [(some 5, 0), (some 15, 0), (some 16, 0), (some 2, 0)], [58, 59, 60, 61, 19, 20]), (3, [(some 14, 0), (some 8, 0)], []), (85, [(some 14, 0), (some 2, 0), (some 3, 0), (some 15, 0)], [58, 59, 10, 12, 13, 36, 37]), (3, [(some 8, 0), (some 14, 0)], [])], (86, [(some 2, 0), (some 3, 0), (some 8, 0), (some 5, 0), (some 6, 0), (some 17, 0)], [62, 63, 10, 12, 13, 36, 37, 19, 20, 23, 24]))
set_option maxRecDepth 20000 in
theorem v_arrange35_1_2 {PT : PTy} (hp : HP3 PT) : vcOk PT w_arrange35_1_2 := vc_iv [(2, 0, 8), (3, 0, 11), (5, 0, 6), (6, 0, 6), (8, 0, 9), (14, 0, 9), (15, 0, 49), (16, 0, 49), (17, 0, 49)] [10, 12, 13, 19, 20, 23, 24, 36, 37, 58, 59, 60, 61, 62, 63] (by decide +kernel) (fun ρ α => by
  intro r2 g2 b2 r3 g3 b3 r5 g5 b5 r6 g6 b6 r8 g8 b8 r14 g14 b14 r15 g15 b15 r16 g16 b16 r17 g17 b17 a10 h10 a12 h12 a13 h13 a19 h19 a20 h20 a23 h23 a24 h24 a36 h36 a37 h37 a58 h58 a59 h59 a60 h60 a61 h61 a62 h62 a63 h63 f0 f1 f2 f3 f4 tt
  have e82 : PT 82 = P_eaI3 := pe82_3 hp
  have e83 : PT 83 = P_eaI4 := pe83_3 hp
  have e85 : PT 85 = P_arK := pe85_3 hp
  have e86 : PT 86 = P_arr := pe86_3 hp
  simp only [hF3, hFp_82, hFp_83, hFp_85, hFp_86, e82, e83, e85, e86, P_eaI3, P_eaI4, P_arK, P_arr, den_s, den_c, Int.add_zero, List.map_cons, List.map_nil, g2.eq, g3.eq, g5.eq, g6.eq, g8.eq, g14.eq, g15.eq, g16.eq, g17.eq, h10, h12, h13, h19, h20, h23, h24, h36, h37, h58, h59, h60, h61, h62, h63] at f0 f1 f2 f3 f4 ⊢
  obtain ⟨i1, i2, i3⟩ := f3
  first
    | omega
    | (obtain ⟨e1, e2, e3⟩ := f1; omega)
    | (rw [show r14 = r8 by omega] at i3; exact ⟨(f0).2.1 ((f1).2.1 i2), (f0).2.2 _ aL_srt ((f1).2.2 _ aK_srt i3)⟩)
    | (refine ⟨by omega, i2, ?_⟩; rw [foldI_s (by omega)]; unfold stpK; rw [if_neg (by omega)]; exact i3)
    | (have he := MISSING; refine ⟨by obtain ⟨t, z⟩ := he; omega, prS_ent i2 he (fun _ => by omega), ?_⟩; rw [foldI_s (by omega)]; unfold stpK; rw [if_pos (by omega)]; exact isL_ins (foldI_srt stpK_srt aV_srt _) i3 he))
def w_arrange35_1_3 : VC := (([(0, 23), (0, 49), (0, 8), (0, 9), (0, 9), (0, 6), (0, 6), (0, 8), (1, 9), (0, 49), (0, 49), ((-2147483648), 2147483647), ((-2147483648), 2147483647), (0, 5), (0, 8), (0, 49), (0, 9)]), [(0, [(none, 0), (none, 0)], []), (3, [(some 16, 0), (some 3, 0)], []), (3, [(some 16, 0), (none, 0)], []), (20, [(some 16, 0), (some 14, 0)], [37]), (2, [(some 14, 0), (some 8, 0)], []), (85, [(some 14, 0), (some 2, 0), (some 3, 0), (some 15, 0)], [58, 59, 10, 12, 13, 36, 37]), (3, [(some 8, 0), (some 14, 0)], [])], (85, [(some 14, 1), (some 2, 0), (some 3, 0), (some 15, 0)], [58, 59, 10, 12, 13, 36, 37]))
set_option maxRecDepth 20000 in
theorem v_arrange35_1_3 {PT : PTy} (hp : HP3 PT) : vcOk PT w_arrange35_1_3 := vc_iv [(2, 0, 8), (3, 0, 9), (8, 1, 9), (14, 0, 8), (15, 0, 49), (16, 0, 9)] [10, 12, 13, 36, 37, 58, 59] (by decide +kernel) (fun ρ α => by
  intro r2 g2 b2 r3 g3 b3 r8 g8 b8 r14 g14 b14 r15 g15 b15 r16 g16 b16 a10 h10 a12 h12 a13 h13 a36 h36 a37 h37 a58 h58 a59 h59 f0 f1 f2 f3 f4 f5 f6 tt
  clear f0 f2
  have e85 : PT 85 = P_arK := pe85_3 hp
  simp only [hF2, hF3, hF20, hFp_85, e85, P_arK, den_s, den_c, Int.add_zero, List.map_cons, List.map_nil, g2.eq, g3.eq, g8.eq, g14.eq, g15.eq, g16.eq, h10, h12, h13, h36, h37, h58, h59] at f1 f3 f4 f5 f6 ⊢
  subst f3
  obtain ⟨i1, i2, i3⟩ := f5
  first
    | omega
    | (obtain ⟨e1, e2, e3⟩ := MISSING; omega)
    | (rw [show r14 = r8 by omega] at i3; exact ⟨(MISSING).2.1 ((MISSING).2.1 i2), (MISSING).2.2 _ aL_srt ((MISSING).2.2 _ aK_srt i3)⟩)
    | (refine ⟨by omega, i2, ?_⟩; rw [foldI_s (by omega)]; unfold stpK; rw [if_neg (by omega)]; exact i3)
    | (have he := MISSING; refine ⟨by obtain ⟨t, z⟩ := he; omega, prS_ent i2 he (fun _ => by omega), ?_⟩; rw [foldI_s (by omega)]; unfold stpK; rw [if_pos (by omega)]; exact isL_ins (foldI_srt stpK_srt aV_srt _) i3 he))
def w_arrange35_1_4 : VC := (([(0, 23), (0, 49), (0, 8), (0, 9), (0, 9), (0, 6), (0, 6), (0, 8), (1, 9), (0, 49), (0, 49), ((-2147483648), 2147483647), ((-2147483648), 2147483647), (0, 5), (0, 8), (0, 49), (0, 9)]), [(0, [(none, 0), (none, 0)], []), (3, [(some 16, 0), (some 3, 0)], []), (3, [(some 16, 0), (none, 0)], []), (20, [(some 16, 0), (some 14, 0)], [37]), (2, [(some 14, 0), (some 8, 0)], []), (85, [(some 14, 0), (some 2, 0), (some 3, 0), (some 15, 0)], [58, 59, 10, 12, 13, 36, 37]), (3, [(some 8, 0), (some 14, 0)], [])], (3, [(some 8, 0), (some 14, 1)], []))
set_option maxRecDepth 20000 in
theorem v_arrange35_1_4 {PT : PTy} (hp : HP3 PT) : vcOk PT w_arrange35_1_4 := vc_iv [(2, 0, 8), (3, 0, 9), (8, 1, 9), (14, 0, 8), (15, 0, 49), (16, 0, 9)] [10, 12, 13, 36, 37, 58, 59] (by decide +kernel) (fun ρ α => by
  intro r2 g2 b2 r3 g3 b3 r8 g8 b8 r14 g14 b14 r15 g15 b15 r16 g16 b16 a10 h10 a12 h12 a13 h13 a36 h36 a37 h37 a58 h58 a59 h59 f0 f1 f2 f3 f4 f5 f6 tt
  clear f0 f2
  have e85 : PT 85 = P_arK := pe85_3 hp
  simp only [hF2, hF3, hF20, hFp_85, e85, P_arK, den_s, den_c, Int.add_zero, List.map_cons, List.map_nil, g2.eq, g3.eq, g8.eq, g14.eq, g15.eq, g16.eq, h10, h12, h13, h36, h37, h58, h59] at f1 f3 f4 f5 f6 ⊢
  subst f3
  obtain ⟨i1, i2, i3⟩ := f5
  first
    | omega
    | (obtain ⟨e1, e2, e3⟩ := MISSING; omega)
    | (rw [show r14 = r8 by omega] at i3; exact ⟨(MISSING).2.1 ((MISSING).2.1 i2), (MISSING).2.2 _ aL_srt ((MISSING).2.2 _ aK_srt i3)⟩)
    | (refine ⟨by omega, i2, ?_⟩; rw [foldI_s (by omega)]; unfold stpK; rw [if_neg (by omega)]; exact i3)
    | (have he := MISSING; refine ⟨by obtain ⟨t, z⟩ := he; omega, prS_ent i2 he (fun _ => by omega), ?_⟩; rw [foldI_s (by omega)]; unfold stpK; rw [if_pos (by omega)]; exact isL_ins (foldI_srt stpK_srt aV_srt _) i3 he))
def w_arrange35_1_5 : VC := (([(0, 23), (0, 49), (0, 8), (1, 11), (0, 9), (0, 6), (0, 6), (0, 8), (1, 9), (0, 49), (0, 49), ((-2147483648), 2147483647), ((-2147483648), 2147483647), (0, 5), (0, 8), (0, 49), (0, 9), (0, 23)]), [(20, [(some 17, 0), (some 14, 0)], [36]), (1, [(none, 1), (none, 0)], []), (2, [(some 16, 0), (some 3, 0)], []), (3, [(some 16, 0), (none, 0)], []), (20, [(some 16, 0), (some 14, 0)], [37]), (2, [(some 14, 0), (some 8, 0)], []), (85, [(some 14, 0), (some 2, 0), (some 3, 0), (some 15, 0)], [58, 59, 10, 12, 13, 36, 37]), (3, [(some 8, 0), (some 14, 0)], [])], (2, [(some 15, 0), (none, 49)], []))
set_option maxRecDepth 20000 in
theorem v_arrange35_1_5 {PT : PTy} (hp : HP3 PT) : vcOk PT w_arrange35_1_5 := vc_iv [(2, 0, 8), (3, 1, 11), (8, 1, 9), (14, 0, 8), (15, 0, 49), (16, 0, 9), (17, 0, 23)] [10, 12, 13, 36, 37, 58, 59] (by decide +kernel) (fun ρ α => by
  intro r2 g2 b2 r3 g3 b3 r8 g8 b8 r14 g14 b14 r15 g15 b15 r16 g16 b16 r17 g17 b17 a10 h10 a12 h12 a13 h13 a36 h36 a37 h37 a58 h58 a59 h59 f0 f1 f2 f3 f4 f5 f6 f7 tt
  clear f1 f3
  have e85 : PT 85 = P_arK := pe85_3 hp
  simp only [hF2, hF3, hF20, hFp_85, e85, P_arK, den_s, den_c, Int.add_zero, List.map_cons, List.map_nil, g2.eq, g3.eq, g8.eq, g14.eq, g15.eq, g16.eq, g17.eq, h10, h12, h13, h36, h37, h58, h59] at f0 f2 f4 f5 f6 f7 ⊢
  subst f0
  subst f4
  obtain ⟨i1, i2, i3⟩ := f6
  first
    | omega
    | (obtain ⟨e1, e2, e3⟩ := MISSING; omega)
    | (rw [show r14 = r8 by omega] at i3; exact ⟨(MISSING).2.1 ((MISSING).2.1 i2), (MISSING).2.2 _ aL_srt ((MISSING).2.2 _ aK_srt i3)⟩)
    | (refine ⟨by omega, i2, ?_⟩; rw [foldI_s (by omega)]; unfold stpK; rw [if_neg (by omega)]; exact i3)
    | (have he := MISSING; refine ⟨by obtain ⟨t, z⟩ := he; omega, prS_ent i2 he (fun _ => by omega), ?_⟩; rw [foldI_s (by omega)]; unfold stpK; rw [if_pos (by omega)]; exact isL_ins (foldI_srt stpK_srt aV_srt _) i3 he))
def w_arrange35_1_6 : VC := (([(0, 23), (0, 49), (0, 8), (1, 11), (0, 9), (0, 6), (0, 6), (0, 8), (1, 9), (0, 49), (0, 49), ((-2147483648), 2147483647), ((-2147483648), 2147483647), (0, 5), (0, 8), (0, 49), (0, 9), (0, 23), (0, 49)]), [(80, [(some 15, 0), (some 18, 0), (some 17, 0), (none, 1), (some 14, 0)], [58, 59, 60, 61]), (20, [(some 17, 0), (some 14, 0)], [36]), (1, [(none, 1), (none, 0)], []), (2, [(some 16, 0), (some 3, 0)], []), (3, [(some 16, 0), (none, 0)], []), (20, [(some 16, 0), (some 14, 0)], [37]), (2, [(some 14, 0), (some 8, 0)], []), (85, [(some 14, 0), (some 2, 0), (some 3, 0), (some 15, 0)], [58, 59, 10, 12, 13, 36, 37]), (3, [(some 8, 0), (some 14, 0)], [])], (85, [(some 14, 1), (some 2, 0), (some 3, 0), (some 18, 0)], [60, 61, 10, 12, 13, 36, 37]))
set_option maxRecDepth 20000 in
theorem v_arrange35_1_6 {PT : PTy} (hp : HP3 PT) : vcOk PT w_arrange35_1_6 := vc_iv [(2, 0, 8), (3, 1, 11), (8, 1, 9), (14, 0, 8), (15, 0, 49), (16, 0, 9), (17, 0, 23), (18, 0, 49)] [10, 12, 13, 36, 37, 58, 59, 60, 61] (by decide +kernel) (fun ρ α => by
  intro r2 g2 b2 r3 g3 b3 r8 g8 b8 r14 g14 b14 r15 g15 b15 r16 g16 b16 r17 g17 b17 r18 g18 b18 a10 h10 a12 h12 a13 h13 a36 h36 a37 h37 a58 h58 a59 h59 a60 h60 a61 h61 f0 f1 f2 f3 f4 f5 f6 f7 f8 tt
  clear f2 f4
  have e80 : PT 80 = P_ent := pe80_3 hp
  have e85 : PT 85 = P_arK := pe85_3 hp
  simp only [hF2, hF3, hF20, hFp_80, hFp_85, e80, e85, P_ent, P_arK, den_s, den_c, Int.add_zero, List.map_cons, List.map_nil, g2.eq, g3.eq, g8.eq, g14.eq, g15.eq, g16.eq, g17.eq, g18.eq, h10, h12, h13, h36, h37, h58, h59, h60, h61] at f0 f1 f3 f5 f6 f7 f8 ⊢
  subst f1
  subst f5
  obtain ⟨i1, i2, i3⟩ := f7
  first
    | omega
    | (obtain ⟨e1, e2, e3⟩ := MISSING; omega)
    | (rw [show r14 = r8 by omega] at i3; exact ⟨(MISSING).2.1 ((MISSING).2.1 i2), (MISSING).2.2 _ aL_srt ((MISSING).2.2 _ aK_srt i3)⟩)
    | (refine ⟨by omega, i2, ?_⟩; rw [foldI_s (by omega)]; unfold stpK; rw [if_neg (by omega)]; exact i3)
    | (have he := f0; refine ⟨by obtain ⟨t, z⟩ := he; omega, prS_ent i2 he (fun _ => by omega), ?_⟩; rw [foldI_s (by omega)]; unfold stpK; rw [if_pos (by omega)]; exact isL_ins (foldI_srt stpK_srt aV_srt _) i3 he))
def w_arrange35_1_7 : VC := (([(0, 23), (0, 49), (0, 8), (1, 11), (0, 9), (0, 6), (0, 6), (0, 8), (1, 9), (0, 49), (0, 49), ((-2147483648), 2147483647), ((-2147483648), 2147483647), (0, 5), (0, 8), (0, 49), (0, 9), (0, 23), (0, 49)]), [(80, [(some 15, 0), (some 18, 0), (some 17, 0), (none, 1), (some 14, 0)], [58, 59, 60, 61]), (20, [(some 17, 0), (some 14, 0)], [36]), (1, [(none, 1), (none, 0)], []), (2, [(some 16, 0), (some 3, 0)], []), (3, [(some 16, 0), (none, 0)], []), (20, [(some 16, 0), (some 14, 0)], [37]), (2, [(some 14, 0), (some 8, 0)], []), (85, [(some 14, 0), (some 2, 0), (some 3, 0), (some 15, 0)], [58, 59, 10, 12, 13, 36, 37]), (3, [(some 8, 0), (some 14, 0)], [])], (3, [(some 8, 0), (some 14, 1)], []))
set_option maxRecDepth 20000 in
theorem v_arrange35_1_7 {PT : PTy} (hp : HP3 PT) : vcOk PT w_arrange35_1_7 := vc_iv [(2, 0, 8), (3, 1, 11), (8, 1, 9), (14, 0, 8), (15, 0, 49), (16, 0, 9), (17, 0, 23), (18, 0, 49)] [10, 12, 13, 36, 37, 58, 59, 60, 61] (by decide +kernel) (fun ρ α => by
  intro r2 g2 b2 r3 g3 b3 r8 g8 b8 r14 g14 b14 r15 g15 b15 r16 g16 b16 r17 g17 b17 r18 g18 b18 a10 h10 a12 h12 a13 h13 a36 h36 a37 h37 a58 h58 a59 h59 a60 h60 a61 h61 f0 f1 f2 f3 f4 f5 f6 f7 f8 tt
  clear f2 f4
  have e80 : PT 80 = P_ent := pe80_3 hp
  have e85 : PT 85 = P_arK := pe85_3 hp
  simp only [hF2, hF3, hF20, hFp_80, hFp_85, e80, e85, P_ent, P_arK, den_s, den_c, Int.add_zero, List.map_cons, List.map_nil, g2.eq, g3.eq, g8.eq, g14.eq, g15.eq, g16.eq, g17.eq, g18.eq, h10, h12, h13, h36, h37, h58, h59, h60, h61] at f0 f1 f3 f5 f6 f7 f8 ⊢
  subst f1
  subst f5
  obtain ⟨i1, i2, i3⟩ := f7
  first
    | omega
    | (obtain ⟨e1, e2, e3⟩ := MISSING; omega)
    | (rw [show r14 = r8 by omega] at i3; exact ⟨(MISSING).2.1 ((MISSING).2.1 i2), (MISSING).2.2 _ aL_srt ((MISSING).2.2 _ aK_srt i3)⟩)
    | (refine ⟨by omega, i2, ?_⟩; rw [foldI_s (by omega)]; unfold stpK; rw [if_neg (by omega)]; exact i3)
    | (have he := f0; refine ⟨by obtain ⟨t, z⟩ := he; omega, prS_ent i2 he (fun _ => by omega), ?_⟩; rw [foldI_s (by omega)]; unfold stpK; rw [if_pos (by omega)]; exact isL_ins (foldI_srt stpK_srt aV_srt _) i3 he))
def w_arrange35_2_0 : VC := ((bX ++ [(0, 11), (0, 49)]), [(3, [(some 14, 0), (some 3, 0)], []), (84, [(some 14, 0), (some 2, 0), (some 15, 0)], [58, 59, 10, 12, 13]), (3, [(some 3, 0), (some 14, 0)], [])], (85, [(none, 0), (some 2, 0), (some 3, 0), (some 15, 0)], [58, 59, 10, 12, 13, 36, 37]))
set_option maxRecDepth 20000 in
theorem v_arrange35_2_0 {PT : PTy} (hp : HP3 PT) : vcOk PT w_arrange35_2_0 := vc_iv [(2, 0, 8), (3, 0, 11), (14, 0, 11), (15, 0, 49)] [10, 12, 13, 36, 37, 58, 59] (by decide +kernel) (fun ρ α => by
  intro r2 g2 b2 r3 g3 b3 r14 g14 b14 r15 g15 b15 a10 h10 a12 h12 a13 h13 a36 h36 a37 h37 a58 h58 a59 h59 f0 f1 f2 tt
  have e84 : PT 84 = P_arV := pe84_3 hp
  have e85 : PT 85 = P_arK := pe85_3 hp
  simp only [hF3, hFp_84, hFp_85, e84, e85, P_arV, P_arK, den_s, den_c, Int.add_zero, List.map_cons, List.map_nil, g2.eq, g3.eq, g14.eq, g15.eq, h10, h12, h13, h36, h37, h58, h59] at f0 f1 f2 ⊢
  obtain ⟨i1, i2, i3⟩ := f1
  first
    | omega
    | (obtain ⟨t, z⟩ := MISSING; omega)
    | (refine ⟨by omega, i2, ?_⟩; rw [show r14 = r3 by omega] at i3; exact i3)
    | (refine ⟨by omega, i2, ?_⟩; rw [foldI_s (by omega)]; unfold stpV; rw [if_neg (by omega)]; exact i3)
    | (have he := MISSING; refine ⟨by obtain ⟨t, z⟩ := he; omega, prS_ent i2 he (fun q => by omega), ?_⟩; rw [foldI_s (by omega)]; unfold stpV; rw [if_pos (by omega), if_pos (by omega)]; exact isL_ins (foldI_srt stpV_srt (s := []) trivial _) i3 he)
    | (have he := MISSING; have hf := MISSING; refine ⟨by obtain ⟨t, z⟩ := he; obtain ⟨t2, z2⟩ := hf; omega, prS_ent (prS_ent i2 he (fun q => by omega)) hf (fun q => by omega), ?_⟩; rw [foldI_s (by omega)]; unfold stpV; rw [if_pos (by omega), if_neg (by omega)]; exact isL_ins (srt_ins (foldI_srt stpV_srt (s := []) trivial _)) (isL_ins (foldI_srt stpV_srt (s := []) trivial _) i3 he) hf))
def w_arrange35_2_1 : VC := ((bX ++ [(0, 11), (0, 49)]), [(3, [(some 14, 0), (some 3, 0)], []), (84, [(some 14, 0), (some 2, 0), (some 15, 0)], [58, 59, 10, 12, 13]), (3, [(some 3, 0), (some 14, 0)], [])], (3, [(some 8, 0), (none, 0)], []))
set_option maxRecDepth 20000 in
theorem v_arrange35_2_1 {PT : PTy} (hp : HP3 PT) : vcOk PT w_arrange35_2_1 := vc_iv [(2, 0, 8), (3, 0, 11), (8, 0, 9), (14, 0, 11), (15, 0, 49)] [10, 12, 13, 58, 59] (by decide +kernel) (fun ρ α => by
  intro r2 g2 b2 r3 g3 b3 r8 g8 b8 r14 g14 b14 r15 g15 b15 a10 h10 a12 h12 a13 h13 a58 h58 a59 h59 f0 f1 f2 tt
  have e84 : PT 84 = P_arV := pe84_3 hp
  simp only [hF3, hFp_84, e84, P_arV, den_s, den_c, Int.add_zero, List.map_cons, List.map_nil, g2.eq, g3.eq, g8.eq, g14.eq, g15.eq, h10, h12, h13, h58, h59] at f0 f1 f2 ⊢
  obtain ⟨i1, i2, i3⟩ := f1
  first
    | omega
    | (obtain ⟨t, z⟩ := MISSING; omega)
    | (refine ⟨by omega, i2, ?_⟩; rw [show r14 = r3 by omega] at i3; exact i3)
    | (refine ⟨by omega, i2, ?_⟩; rw [foldI_s (by omega)]; unfold stpV; rw [if_neg (by omega)]; exact i3)
    | (have he := MISSING; refine ⟨by obtain ⟨t, z⟩ := he; omega, prS_ent i2 he (fun q => by omega), ?_⟩; rw [foldI_s (by omega)]; unfold stpV; rw [if_pos (by omega), if_pos (by omega)]; exact isL_ins (foldI_srt stpV_srt (s := []) trivial _) i3 he)
    | (have he := MISSING; have hf := MISSING; refine ⟨by obtain ⟨t, z⟩ := he; obtain ⟨t2, z2⟩ := hf; omega, prS_ent (prS_ent i2 he (fun q => by omega)) hf (fun q => by omega), ?_⟩; rw [foldI_s (by omega)]; unfold stpV; rw [if_pos (by omega), if_neg (by omega)]; exact isL_ins (srt_ins (foldI_srt stpV_srt (s := []) trivial _)) (isL_ins (foldI_srt stpV_srt (s := []) trivial _) i3 he) hf))
def w_arrange35_2_2 : VC := (([(0, 23), (0, 49), (0, 7), (1, 11), (0, 9), (0, 6), (0, 6), (0, 8), (0, 9), (0, 49), (0, 49), ((-2147483648), 2147483647), ((-2147483648), 2147483647), (0, 5), (0, 10), (0, 49), (0, 7)]), [(0, [(none, 0), (none, 0)], []), (3, [(some 16, 0), (some 2, 0)], []), (3, [(some 16, 0), (none, 0)], []), (20, [(some 16, 0), (some 14, 0)], [10]), (2, [(some 14, 0), (some 3, 0)], []), (84, [(some 14, 0), (some 2, 0), (some 15, 0)], [58, 59, 10, 12, 13]), (3, [(some 3, 0), (some 14, 0)], [])], (84, [(some 14, 1), (some 2, 0), (some 15, 0)], [58, 59, 10, 12, 13]))
set_option maxRecDepth 20000 in
theorem v_arrange35_2_2 {PT : PTy} (hp : HP3 PT) : vcOk PT w_arrange35_2_2 := vc_iv [(2, 0, 7), (3, 1, 11), (14, 0, 10), (15, 0, 49), (16, 0, 7)] [10, 12, 13, 58, 59] (by decide +kernel) (fun ρ α => by
  intro r2 g2 b2 r3 g3 b3 r14 g14 b14 r15 g15 b15 r16 g16 b16 a10 h10 a12 h12 a13 h13 a58 h58 a59 h59 f0 f1 f2 f3 f4 f5 f6 tt
  clear f0 f2
  have e84 : PT 84 = P_arV := pe84_3 hp
  simp only [hF2, hF3, hF20, hFp_84, e84, P_arV, den_s, den_c, Int.add_zero, List.map_cons, List.map_nil, g2.eq, g3.eq, g14.eq, g15.eq, g16.eq, h10, h12, h13, h58, h59] at f1 f3 f4 f5 f6 ⊢
  subst f3
  obtain ⟨i1, i2, i3⟩ := f5
  first
    | omega
    | (obtain ⟨t, z⟩ := MISSING; omega)
    | (refine ⟨by omega, i2, ?_⟩; rw [show r14 = r3 by omega] at i3; exact i3)
    | (refine ⟨by omega, i2, ?_⟩; rw [foldI_s (by omega)]; unfold stpV; rw [if_neg (by omega)]; exact i3)
    | (have he := MISSING; refine ⟨by obtain ⟨t, z⟩ := he; omega, prS_ent i2 he (fun q => by omega), ?_⟩; rw [foldI_s (by omega)]; unfold stpV; rw [if_pos (by omega), if_pos (by omega)]; exact isL_ins (foldI_srt stpV_srt (s := []) trivial _) i3 he)
    | (have he := MISSING; have hf := MISSING; refine ⟨by obtain ⟨t, z⟩ := he; obtain ⟨t2, z2⟩ := hf; omega, prS_ent (prS_ent i2 he (fun q => by omega)) hf (fun q => by omega), ?_⟩; rw [foldI_s (by omega)]; unfold stpV; rw [if_pos (by omega), if_neg (by omega)]; exact isL_ins (srt_ins (foldI_srt stpV_srt (s := []) trivial _)) (isL_ins (foldI_srt stpV_srt (s := []) trivial _) i3 he) hf))
def w_arrange35_2_3 : VC := (([(0, 23), (0, 49), (0, 7), (1, 11), (0, 9), (0, 6), (0, 6), (0, 8), (0, 9), (0, 49), (0, 49), ((-2147483648), 2147483647), ((-2147483648), 2147483647), (0, 5), (0, 10), (0, 49), (0, 7)]), [(0, [(none, 0), (none, 0)], []), (3, [(some 16, 0), (some 2, 0)], []), (3, [(some 16, 0), (none, 0)], []), (20, [(some 16, 0), (some 14, 0)], [10]), (2, [(some 14, 0), (some 3, 0)], []), (84, [(some 14, 0), (some 2, 0), (some 15, 0)], [58, 59, 10, 12, 13]), (3, [(some 3, 0), (some 14, 0)], [])], (3, [(some 3, 0), (some 14, 1)], []))
set_option maxRecDepth 20000 in
theorem v_arrange35_2_3 {PT : PTy} (hp : HP3 PT) : vcOk PT w_arrange35_2_3 := vc_iv [(2, 0, 7), (3, 1, 11), (14, 0, 10), (15, 0, 49), (16, 0, 7)] [10, 12, 13, 58, 59] (by decide +kernel) (fun ρ α => by
  intro r2 g2 b2 r3 g3 b3 r14 g14 b14 r15 g15 b15 r16 g16 b16 a10 h10 a12 h12 a13 h13 a58 h58 a59 h59 f0 f1 f2 f3 f4 f5 f6 tt
  clear f0 f2
  have e84 : PT 84 = P_arV := pe84_3 hp
  simp only [hF2, hF3, hF20, hFp_84, e84, P_arV, den_s, den_c, Int.add_zero, List.map_cons, List.map_nil, g2.eq, g3.eq, g14.eq, g15.eq, g16.eq, h10, h12, h13, h58, h59] at f1 f3 f4 f5 f6 ⊢
  subst f3
  obtain ⟨i1, i2, i3⟩ := f5
  first
    | omega
    | (obtain ⟨t, z⟩ := MISSING; omega)
    | (refine ⟨by omega, i2, ?_⟩; rw [show r14 = r3 by omega] at i3; exact i3)
    | (refine ⟨by omega, i2, ?_⟩; rw [foldI_s (by omega)]; unfold stpV; rw [if_neg (by omega)]; exact i3)
    | (have he := MISSING; refine ⟨by obtain ⟨t, z⟩ := he; omega, prS_ent i2 he (fun q => by omega), ?_⟩; rw [foldI_s (by omega)]; unfold stpV; rw [if_pos (by omega), if_pos (by omega)]; exact isL_ins (foldI_srt stpV_srt (s := []) trivial _) i3 he)
    | (have he := MISSING; have hf := MISSING; refine ⟨by obtain ⟨t, z⟩ := he; obtain ⟨t2, z2⟩ := hf; omega, prS_ent (prS_ent i2 he (fun q => by omega)) hf (fun q => by omega), ?_⟩; rw [foldI_s (by omega)]; unfold stpV; rw [if_pos (by omega), if_neg (by omega)]; exact isL_ins (srt_ins (foldI_srt stpV_srt (s := []) trivial _)) (isL_ins (foldI_srt stpV_srt (s := []) trivial _) i3 he) hf))
def w_arrange35_2_4 : VC := (([(0, 23), (0, 49), (1, 8), (1, 11), (0, 9), (0, 6), (0, 6), (0, 8), (0, 9), (0, 49), (0, 49), ((-2147483648), 2147483647), ((-2147483648), 2147483647), (0, 5), (0, 10), (0, 49), (0, 7), (0, 23)]), [(20, [(some 17, 0), (some 14, 0)], [12]), (1, [(none, 1), (none, 0)], []), (2, [(some 16, 0), (some 2, 0)], []), (3, [(some 16, 0), (none, 0)], []), (20, [(some 16, 0), (some 14, 0)], [10]), (2, [(some 14, 0), (some 3, 0)], []), (84, [(some 14, 0), (some 2, 0), (some 15, 0)], [58, 59, 10, 12, 13]), (3, [(some 3, 0), (some 14, 0)], [])], (2, [(some 15, 0), (none, 49)], []))
set_option maxRecDepth 20000 in
theorem v_arrange35_2_4 {PT : PTy} (hp : HP3 PT) : vcOk PT w_arrange35_2_4 := vc_iv [(2, 1, 8), (3, 1, 11), (14, 0, 10), (15, 0, 49), (16, 0, 7), (17, 0, 23)] [10, 12, 13, 58, 59] (by decide +kernel) (fun ρ α => by
  intro r2 g2 b2 r3 g3 b3 r14 g14 b14 r15 g15 b15 r16 g16 b16 r17 g17 b17 a10 h10 a12 h12 a13 h13 a58 h58 a59 h59 f0 f1 f2 f3 f4 f5 f6 f7 tt
  clear f1 f3
  have e84 : PT 84 = P_arV := pe84_3 hp
  simp only [hF2, hF3, hF20, hFp_84, e84, P_arV, den_s, den_c, Int.add_zero, List.map_cons, List.map_nil, g2.eq, g3.eq, g14.eq, g15.eq, g16.eq, g17.eq, h10, h12, h13, h58, h59] at f0 f2 f4 f5 f6 f7 ⊢
  subst f0
  subst f4
  obtain ⟨i1, i2, i3⟩ := f6
  first
    | omega
    | (obtain ⟨t, z⟩ := MISSING; omega)
    | (refine ⟨by omega, i2, ?_⟩; rw [show r14 = r3 by omega] at i3; exact i3)
    | (refine ⟨by omega, i2, ?_⟩; rw [foldI_s (by omega)]; unfold stpV; rw [if_neg (by omega)]; exact i3)
    | (have he := MISSING; refine ⟨by obtain ⟨t, z⟩ := he; omega, prS_ent i2 he (fun q => by omega), ?_⟩; rw [foldI_s (by omega)]; unfold stpV; rw [if_pos (by omega), if_pos (by omega)]; exact isL_ins (foldI_srt stpV_srt (s := []) trivial _) i3 he)
    | (have he := MISSING; have hf := MISSING; refine ⟨by obtain ⟨t, z⟩ := he; obtain ⟨t2, z2⟩ := hf; omega, prS_ent (prS_ent i2 he (fun q => by omega)) hf (fun q => by omega), ?_⟩; rw [foldI_s (by omega)]; unfold stpV; rw [if_pos (by omega), if_neg (by omega)]; exact isL_ins (srt_ins (foldI_srt stpV_srt (s := []) trivial _)) (isL_ins (foldI_srt stpV_srt (s := []) trivial _) i3 he) hf))
def w_arrange35_2_5 : VC := (([(0, 23), (0, 49), (1, 8), (1, 11), (0, 9), (0, 6), (0, 6), (0, 8), (0, 9), (0, 49), (0, 49), ((-2147483648), 2147483647), ((-2147483648), 2147483647), (0, 5), (0, 10), (0, 49), (0, 7), (0, 23), (0, 49), ((-1), (-1))]), [(0, [(some 19, 0), (none, (-1))], []), (20, [(some 19, 0), (some 14, 0)], [13]), (80, [(some 15, 0), (some 18, 0), (some 17, 0), (none, 0), (some 14, 0)], [58, 59, 60, 61]), (20, [(some 17, 0), (some 14, 0)], [12]), (1, [(none, 1), (none, 0)], []), (2, [(some 16, 0), (some 2, 0)], []), (3, [(some 16, 0), (none, 0)], []), (20, [(some 16, 0), (some 14, 0)], [10]), (2, [(some 14, 0), (some 3, 0)], []), (84, [(some 14, 0), (some 2, 0), (some 15, 0)], [58, 59, 10, 12, 13]), (3, [(some 3, 0), (some 14, 0)], [])], (84, [(some 14, 1), (some 2, 0), (some 18, 0)], [60, 61, 10, 12, 13]))
set_option maxRecDepth 20000 in
theorem v_arrange35_2_5 {PT : PTy} (hp : HP3 PT) : vcOk PT w_arrange35_2_5 := vc_iv [(2, 1, 8), (3, 1, 11), (14, 0, 10), (15, 0, 49), (16, 0, 7), (17, 0, 23), (18, 0, 49), (19, (-1), (-1))] [10, 12, 13, 58, 59, 60, 61] (by decide +kernel) (fun ρ α => by
  intro r2 g2 b2 r3 g3 b3 r14 g14 b14 r15 g15 b15 r16 g16 b16 r17 g17 b17 r18 g18 b18 r19 g19 b19 a10 h10 a12 h12 a13 h13 a58 h58 a59 h59 a60 h60 a61 h61 f0 f1 f2 f3 f4 f5 f6 f7 f8 f9 f10 tt
  clear f4 f6
  have e80 : PT 80 = P_ent := pe80_3 hp
  have e84 : PT 84 = P_arV := pe84_3 hp
  simp only [hF0, hF2, hF3, hF20, hFp_80, hFp_84, e80, e84, P_ent, P_arV, den_s, den_c, Int.add_zero, List.map_cons, List.map_nil, g2.eq, g3.eq, g14.eq, g15.eq, g16.eq, g17.eq, g18.eq, g19.eq, h10, h12, h13, h58, h59, h60, h61] at f0 f1 f2 f3 f5 f7 f8 f9 f10 ⊢
  subst f1
  subst f3
  subst f7
  obtain ⟨i1, i2, i3⟩ := f9
  first
    | omega
    | (obtain ⟨t, z⟩ := f2; omega)
    | (refine ⟨by omega, i2, ?_⟩; rw [show r14 = r3 by omega] at i3; exact i3)
    | (refine ⟨by omega, i2, ?_⟩; rw [foldI_s (by omega)]; unfold stpV; rw [if_neg (by omega)]; exact i3)
    | (have he := f2; refine ⟨by obtain ⟨t, z⟩ := he; omega, prS_ent i2 he (fun q => by omega), ?_⟩; rw [foldI_s (by omega)]; unfold stpV; rw [if_pos (by omega), if_pos (by omega)]; exact isL_ins (foldI_srt stpV_srt (s := []) trivial _) i3 he)
    | (have he := MISSING; have hf := f2; refine ⟨by obtain ⟨t, z⟩ := he; obtain ⟨t2, z2⟩ := hf; omega, prS_ent (prS_ent i2 he (fun q => by omega)) hf (fun q => by omega), ?_⟩; rw [foldI_s (by omega)]; unfold stpV; rw [if_pos (by omega), if_neg (by omega)]; exact isL_ins (srt_ins (foldI_srt stpV_srt (s := []) trivial _)) (isL_ins (foldI_srt stpV_srt (s := []) trivial _) i3 he) hf))
def w_arrange35_2_6 : VC := (([(0, 23), (0, 49), (1, 8), (1, 11), (0, 9), (0, 6), (0, 6), (0, 8), (0, 9), (0, 49), (0, 49), ((-2147483648), 2147483647), ((-2147483648), 2147483647), (0, 5), (0, 10), (0, 49), (0, 7), (0, 23), (0, 49), ((-1), (-1))]), [(0, [(some 19, 0), (none, (-1))], []), (20, [(some 19, 0), (some 14, 0)], [13]), (80, [(some 15, 0), (some 18, 0), (some 17, 0), (none, 0), (some 14, 0)], [58, 59, 60, 61]), (20, [(some 17, 0), (some 14, 0)], [12]), (1, [(none, 1), (none, 0)], []), (2, [(some 16, 0), (some 2, 0)], []), (3, [(some 16, 0), (none, 0)], []), (20, [(some 16, 0), (some 14, 0)], [10]), (2, [(some 14, 0), (some 3, 0)], []), (84, [(some 14, 0), (some 2, 0), (some 15, 0)], [58, 59, 10, 12, 13]), (3, [(some 3, 0), (some 14, 0)], [])], (3, [(some 3, 0), (some 14, 1)], []))
set_option maxRecDepth 20000 in
theorem v_arrange35_2_6 {PT : PTy} (hp : HP3 PT) : vcOk PT w_arrange35_2_6 := vc_iv [(2, 1, 8), (3, 1, 11), (14, 0, 10), (15, 0, 49), (16, 0, 7), (17, 0, 23), (18, 0, 49), (19, (-1), (-1))] [10, 12, 13, 58, 59, 60, 61] (by decide +kernel) (fun ρ α => by
  intro r2 g2 b2 r3 g3 b3 r14 g14 b14 r15 g15 b15 r16 g16 b16 r17 g17 b17 r18 g18 b18 r19 g19 b19 a10 h10 a12 h12 a13 h13 a58 h58 a59 h59 a60 h60 a61 h61 f0 f1 f2 f3 f4 f5 f6 f7 f8 f9 f10 tt
  clear f4 f6
  have e80 : PT 80 = P_ent := pe80_3 hp
  have e84 : PT 84 = P_arV := pe84_3 hp
  simp only [hF0, hF2, hF3, hF20, hFp_80, hFp_84, e80, e84, P_ent, P_arV, den_s, den_c, Int.add_zero, List.map_cons, List.map_nil, g2.eq, g3.eq, g14.eq, g15.eq, g16.eq, g17.eq, g18.eq, g19.eq, h10, h12, h13, h58, h59, h60, h61] at f0 f1 f2 f3 f5 f7 f8 f9 f10 ⊢
  subst f1
  subst f3
  subst f7
  obtain ⟨i1, i2, i3⟩ := f9
  first
    | omega
    | (obtain ⟨t, z⟩ := f2; omega)
    | (refine ⟨by omega, i2, ?_⟩; rw [show r14 = r3 by omega] at i3; exact i3)
    | (refine ⟨by omega, i2, ?_⟩; rw [foldI_s (by omega)]; unfold stpV; rw [if_neg (by omega)]; exact i3)
    | (have he := f2; refine ⟨by obtain ⟨t, z⟩ := he; omega, prS_ent i2 he (fun q => by omega), ?_⟩; rw [foldI_s (by omega)]; unfold stpV; rw [if_pos (by omega), if_pos (by omega)]; exact isL_ins (foldI_srt stpV_srt (s := []) trivial _) i3 he)
    | (have he := MISSING; have hf := f2; refine ⟨by obtain ⟨t, z⟩ := he; obtain ⟨t2, z2⟩ := hf; omega, prS_ent (prS_ent i2 he (fun q => by omega)) hf (fun q => by omega), ?_⟩; rw [foldI_s (by omega)]; unfold stpV; rw [if_pos (by omega), if_neg (by omega)]; exact isL_ins (srt_ins (foldI_srt stpV_srt (s := []) trivial _)) (isL_ins (foldI_srt stpV_srt (s := []) trivial _) i3 he) hf))
def w_arrange35_2_7 : VC := (([(0, 23), (0, 49), (1, 8), (1, 11), (0, 9), (0, 6), (0, 6), (0, 8), (0, 9), (0, 49), (0, 49), ((-2147483648), 2147483647), ((-2147483648), 2147483647), (0, 5), (0, 10), (0, 49), (0, 7), (0, 23), (0, 49), (0, 23), ((-1), 23)]), [(20, [(some 20, 0), (some 14, 0)], [13]), (1, [(some 19, 0), (none, (-1))], []), (20, [(some 19, 0), (some 14, 0)], [13]), (80, [(some 15, 0), (some 18, 0), (some 17, 0), (none, 0), (some 14, 0)], [58, 59, 60, 61]), (20, [(some 17, 0), (some 14, 0)], [12]), (1, [(none, 1), (none, 0)], []), (2, [(some 16, 0), (some 2, 0)], []), (3, [(some 16, 0), (none, 0)], []), (20, [(some 16, 0), (some 14, 0)], [10]), (2, [(some 14, 0), (some 3, 0)], []), (84, [(some 14, 0), (some 2, 0), (some 15, 0)], [58, 59, 10, 12, 13]), (3, [(some 3, 0), (some 14, 0)], [])], (3, [(some 20, 0), (none, 0)], []))
set_option maxRecDepth 20000 in
theorem v_arrange35_2_7 {PT : PTy} (hp : HP3 PT) : vcOk PT w_arrange35_2_7 := vc_iv [(2, 1, 8), (3, 1, 11), (14, 0, 10), (15, 0, 49), (16, 0, 7), (17, 0, 23), (18, 0, 49), (19, 0, 23), (20, (-1), 23)] [10, 12, 13, 58, 59, 60, 61] (by decide +kernel) (fun ρ α => by
  intro r2 g2 b2 r3 g3 b3 r14 g14 b14 r15 g15 b15 r16 g16 b16 r17 g17 b17 r18 g18 b18 r19 g19 b19 r20 g20 b20 a10 h10 a12 h12 a13 h13 a58 h58 a59 h59 a60 h60 a61 h61 f0 f1 f2 f3 f4 f5 f6 f7 f8 f9 f10 f11 tt
  clear f1 f5 f7
  have e80 : PT 80 = P_ent := pe80_3 hp
  have e84 : PT 84 = P_arV := pe84_3 hp
  simp only [hF2, hF3, hF20, hFp_80, hFp_84, e80, e84, P_ent, P_arV, den_s, den_c, Int.add_zero, List.map_cons, List.map_nil, g2.eq, g3.eq, g14.eq, g15.eq, g16.eq, g17.eq, g18.eq, g19.eq, g20.eq, h10, h12, h13, h58, h59, h60, h61] at f0 f2 f3 f4 f6 f8 f9 f10 f11 ⊢
  subst f0
  subst f2
  subst f4
  subst f8
  obtain ⟨i1, i2, i3⟩ := f10
  first
    | omega
    | (obtain ⟨t, z⟩ := f3; omega)
    | (refine ⟨by omega, i2, ?_⟩; rw [show r14 = r3 by omega] at i3; exact i3)
    | (refine ⟨by omega, i2, ?_⟩; rw [foldI_s (by omega)]; unfold stpV; rw [if_neg (by omega)]; exact i3)
    | (have he := f3; refine ⟨by obtain ⟨t, z⟩ := he; omega, prS_ent i2 he (fun q => by omega), ?_⟩; rw [foldI_s (by omega)]; unfold stpV; rw [if_pos (by omega), if_pos (by omega)]; exact isL_ins (foldI_srt stpV_srt (s := []) trivial _) i3 he)
    | (have he := MISSING; have hf := f3; refine ⟨by obtain ⟨t, z⟩ := he; obtain ⟨t2, z2⟩ := hf; omega, prS_ent (prS_ent i2 he (fun q => by omega)) hf (fun q => by omega), ?_⟩; rw [foldI_s (by omega)]; unfold stpV; rw [if_pos (by omega), if_neg (by omega)]; exact isL_ins (srt_ins (foldI_srt stpV_srt (s := []) trivial _)) (isL_ins (foldI_srt stpV_srt (s := []) trivial _) i3 he) hf))
def w_arrange35_2_8 : VC := (([(0, 23), (0, 49), (1, 8), (1, 11), (0, 9), (0, 6), (0, 6), (0, 8), (0, 9), (0, 49), (0, 49), ((-2147483648), 2147483647), ((-2147483648), 2147483647), (0, 5), (0, 10), (0, 49), (0, 7), (0, 23), (0, 49), (0, 23), ((-1), 23)]), [(20, [(some 20, 0), (some 14, 0)], [13]), (1, [(some 19, 0), (none, (-1))], []), (20, [(some 19, 0), (some 14, 0)], [13]), (80, [(some 15, 0), (some 18, 0), (some 17, 0), (none, 0), (some 14, 0)], [58, 59, 60, 61]), (20, [(some 17, 0), (some 14, 0)], [12]), (1, [(none, 1), (none, 0)], []), (2, [(some 16, 0), (some 2, 0)], []), (3, [(some 16, 0), (none, 0)], []), (20, [(some 16, 0), (some 14, 0)], [10]), (2, [(some 14, 0), (some 3, 0)], []), (84, [(some 14, 0), (some 2, 0), (some 15, 0)], [58, 59, 10, 12, 13]), (3, [(some 3, 0), (some 14, 0)], [])], (3, [(none, 23), (some 20, 0)], []))
set_option maxRecDepth 20000 in
theorem v_arrange35_2_8 {PT : PTy} (hp : HP3 PT) : vcOk PT w_arrange35_2_8 := vc_iv [(2, 1, 8), (3, 1, 11), (14, 0, 10), (15, 0, 49), (16, 0, 7), (17, 0, 23), (18, 0, 49), (19, 0, 23), (20, (-1), 23)] [10, 12, 13, 58, 59, 60, 61] (by decide +kernel) (fun ρ α => by
  intro r2 g2 b2 r3 g3 b3 r14 g14 b14 r15 g15 b15 r16 g16 b16 r17 g17 b17 r18 g18 b18 r19 g19 b19 r20 g20 b20 a10 h10 a12 h12 a13 h13 a58 h58 a59 h59 a60 h60 a61 h61 f0 f1 f2 f3 f4 f5 f6 f7 f8 f9 f10 f11 tt
  clear f1 f5 f7
  have e80 : PT 80 = P_ent := pe80_3 hp
  have e84 : PT 84 = P_arV := pe84_3 hp
  simp only [hF2, hF3, hF20, hFp_80, hFp_84, e80, e84, P_ent, P_arV, den_s, den_c, Int.add_zero, List.map_cons, List.map_nil, g2.eq, g3.eq, g14.eq, g15.eq, g16.eq, g17.eq, g18.eq, g19.eq, g20.eq, h10, h12, h13, h58, h59, h60, h61] at f0 f2 f3 f4 f6 f8 f9 f10 f11 ⊢
  subst f0
  subst f2
  subst f4
  subst f8
  obtain ⟨i1, i2, i3⟩ := f10
  first
    | omega
    | (obtain ⟨t, z⟩ := f3; omega)
    | (refine ⟨by omega, i2, ?_⟩; rw [show r14 = r3 by omega] at i3; exact i3)
    | (refine ⟨by omega, i2, ?_⟩; rw [foldI_s (by omega)]; unfold stpV; rw [if_neg (by omega)]; exact i3)
    | (have he := f3; refine ⟨by obtain ⟨t, z⟩ := he; omega, prS_ent i2 he (fun q => by omega), ?_⟩; rw [foldI_s (by omega)]; unfold stpV; rw [if_pos (by omega), if_pos (by omega)]; exact isL_ins (foldI_srt stpV_srt (s := []) trivial _) i3 he)
    | (have he := MISSING; have hf := f3; refine ⟨by obtain ⟨t, z⟩ := he; obtain ⟨t2, z2⟩ := hf; omega, prS_ent (prS_ent i2 he (fun q => by omega)) hf (fun q => by omega), ?_⟩; rw [foldI_s (by omega)]; unfold stpV; rw [if_pos (by omega), if_neg (by omega)]; exact isL_ins (srt_ins (foldI_srt stpV_srt (s := []) trivial _)) (isL_ins (foldI_srt stpV_srt (s := []) trivial _) i3 he) hf))
def w_arrange35_2_9 : VC := (([(0, 23), (0, 49), (1, 8), (1, 11), (0, 9), (0, 6), (0, 6), (0, 8), (0, 9), (0, 49), (0, 49), ((-2147483648), 2147483647), ((-2147483648), 2147483647), (0, 5), (0, 10), (0, 49), (0, 7), (0, 23), (0, 49), (0, 23), ((-1), 23)]), [(20, [(some 20, 0), (some 14, 0)], [13]), (1, [(some 19, 0), (none, (-1))], []), (20, [(some 19, 0), (some 14, 0)], [13]), (80, [(some 15, 0), (some 18, 0), (some 17, 0), (none, 0), (some 14, 0)], [58, 59, 60, 61]), (20, [(some 17, 0), (some 14, 0)], [12]), (1, [(none, 1), (none, 0)], []), (2, [(some 16, 0), (some 2, 0)], []), (3, [(some 16, 0), (none, 0)], []), (20, [(some 16, 0), (some 14, 0)], [10]), (2, [(some 14, 0), (some 3, 0)], []), (84, [(some 14, 0), (some 2, 0), (some 15, 0)], [58, 59, 10, 12, 13]), (3, [(some 3, 0), (some 14, 0)], [])], (2, [(some 18, 0), (none, 49)], []))
set_option maxRecDepth 20000 in
theorem v_arrange35_2_9 {PT : PTy} (hp : HP3 PT) : vcOk PT w_arrange35_2_9 := vc_iv [(2, 1, 8), (3, 1, 11), (14, 0, 10), (15, 0, 49), (16, 0, 7), (17, 0, 23), (18, 0, 49), (19, 0, 23), (20, (-1), 23)] [10, 12, 13, 58, 59, 60, 61] (by decide +kernel) (fun ρ α => by
  intro r2 g2 b2 r3 g3 b3 r14 g14 b14 r15 g15 b15 r16 g16 b16 r17 g17 b17 r18 g18 b18 r19 g19 b19 r20 g20 b20 a10 h10 a12 h12 a13 h13 a58 h58 a59 h59 a60 h60 a61 h61 f0 f1 f2 f3 f4 f5 f6 f7 f8 f9 f10 f11 tt
  clear f1 f5 f7
  have e80 : PT 80 = P_ent := pe80_3 hp
  have e84 : PT 84 = P_arV := pe84_3 hp
  simp only [hF2, hF3, hF20, hFp_80, hFp_84, e80, e84, P_ent, P_arV, den_s, den_c, Int.add_zero, List.map_cons, List.map_nil, g2.eq, g3.eq, g14.eq, g15.eq, g16.eq, g17.eq, g18.eq, g19.eq, g20.eq, h10, h12, h13, h58, h59, h60, h61] at f0 f2 f3 f4 f6 f8 f9 f10 f11 ⊢
  subst f0
  subst f2
  subst f4
  subst f8
  obtain ⟨i1, i2, i3⟩ := f10
  first
    | omega
    | (obtain ⟨t, z⟩ := f3; omega)
    | (refine ⟨by omega, i2, ?_⟩; rw [show r14 = r3 by omega] at i3; exact i3)
    | (refine ⟨by omega, i2, ?_⟩; rw [foldI_s (by omega)]; unfold stpV; rw [if_neg (by omega)]; exact i3)
    | (have he := f3; refine ⟨by obtain ⟨t, z⟩ := he; omega, prS_ent i2 he (fun q => by omega), ?_⟩; rw [foldI_s (by omega)]; unfold stpV; rw [if_pos (by omega), if_pos (by omega)]; exact isL_ins (foldI_srt stpV_srt (s := []) trivial _) i3 he)
    | (have he := MISSING; have hf := f3; refine ⟨by obtain ⟨t, z⟩ := he; obtain ⟨t2, z2⟩ := hf; omega, prS_ent (prS_ent i2 he (fun q => by omega)) hf (fun q => by omega), ?_⟩; rw [foldI_s (by omega)]; unfold stpV; rw [if_pos (by omega), if_neg (by omega)]; exact isL_ins (srt_ins (foldI_srt stpV_srt (s := []) trivial _)) (isL_ins (foldI_srt stpV_srt (s := []) trivial _) i3 he) hf))
def w_arrange35_2_10 : VC := (([(0, 23), (0, 49), (1, 8), (1, 11), (0, 9), (0, 6), (0, 6), (0, 8), (0, 9), (0, 49), (0, 49), ((-2147483648), 2147483647), ((-2147483648), 2147483647), (0, 5), (0, 10), (0, 49), (0, 7), (0, 23), (0, 49), (0, 23), (0, 23), (0, 49)]), [(80, [(some 18, 0), (some 21, 0), (some 20, 0), (none, 2), (some 14, 0)], [60, 61, 62, 63]), (20, [(some 20, 0), (some 14, 0)], [13]), (1, [(some 19, 0), (none, (-1))], []), (20, [(some 19, 0), (some 14, 0)], [13]), (80, [(some 15, 0), (some 18, 0), (some 17, 0), (none, 0), (some 14, 0)], [58, 59, 60, 61]), (20, [(some 17, 0), (some 14, 0)], [12]), (1, [(none, 1), (none, 0)], []), (2, [(some 16, 0), (some 2, 0)], []), (3, [(some 16, 0), (none, 0)], []), (20, [(some 16, 0), (some 14, 0)], [10]), (2, [(some 14, 0), (some 3, 0)], []), (84, [(some 14, 0), (some 2, 0), (some 15, 0)], [58, 59, 10, 12, 13]), (3, [(some 3, 0), (some 14, 0)], [])], (84, [(some 14, 1), (some 2, 0), (some 21, 0)], [62, 63, 10, 12, 13]))
set_option maxRecDepth 20000 in
theorem v_arrange35_2_10 {PT : PTy} (hp : HP3 PT) : vcOk PT w_arrange35_2_10 := vc_iv [(2, 1, 8), (3, 1, 11), (14, 0, 10), (15, 0, 49), (16, 0, 7), (17, 0, 23), (18, 0, 49), (19, 0, 23), (20, 0, 23), (21, 0, 49)] [10, 12, 13, 58, 59, 60, 61, 62, 63] (by decide +kernel) (fun ρ α => by
  intro r2 g2 b2 r3 g3 b3 r14 g14 b14 r15 g15 b15 r16 g16 b16 r17 g17 b17 r18 g18 b18 r19 g19 b19 r20 g20 b20 r21 g21 b21 a10 h10 a12 h12 a13 h13 a58 h58 a59 h59 a60 h60 a61 h61 a62 h62 a63 h63 f0 f1 f2 f3 f4 f5 f6 f7 f8 f9 f10 f11 f12 tt
  clear f2 f6 f8
  have e80 : PT 80 = P_ent := pe80_3 hp
  have e84 : PT 84 = P_arV := pe84_3 hp
  simp only [hF2, hF3, hF20, hFp_80, hFp_84, e80, e84, P_ent, P_arV, den_s, den_c, Int.add_zero, List.map_cons, List.map_nil, g2.eq, g3.eq, g14.eq, g15.eq, g16.eq, g17.eq, g18.eq, g19.eq, g20.eq, g21.eq, h10, h12, h13, h58, h59, h60, h61, h62, h63] at f0 f1 f3 f4 f5 f7 f9 f10 f11 f12 ⊢
  subst f1
  subst f3
  subst f5
  subst f9
  obtain ⟨i1, i2, i3⟩ := f11
  first
    | omega
    | (obtain ⟨t, z⟩ := f0; omega)
    | (refine ⟨by omega, i2, ?_⟩; rw [show r14 = r3 by omega] at i3; exact i3)
    | (refine ⟨by omega, i2, ?_⟩; rw [foldI_s (by omega)]; unfold stpV; rw [if_neg (by omega)]; exact i3)
    | (have he := f0; refine ⟨by obtain ⟨t, z⟩ := he; omega, prS_ent i2 he (fun q => by omega), ?_⟩; rw [foldI_s (by omega)]; unfold stpV; rw [if_pos (by omega), if_pos (by omega)]; exact isL_ins (foldI_srt stpV_srt (s := []) trivial _) i3 he)
    | (have he := f4; have hf := f0; refine ⟨by obtain ⟨t, z⟩ := he; obtain ⟨t2, z2⟩ := hf; omega, prS_ent (prS_ent i2 he (fun q => by omega)) hf (fun q => by omega), ?_⟩; rw [foldI_s (by omega)]; unfold stpV; rw [if_pos (by omega), if_neg (by omega)]; exact isL_ins (srt_ins (foldI_srt stpV_srt (s := []) trivial _)) (isL_ins (foldI_srt stpV_srt (s := []) trivial _) i3 he) hf))
def w_arrange35_2_11 : VC := (([(0, 23), (0, 49), (1, 8), (1, 11), (0, 9), (0, 6), (0, 6), (0, 8), (0, 9), (0, 49), (0, 49), ((-2147483648), 2147483647), ((-2147483648), 2147483647), (0, 5), (0, 10), (0, 49), (0, 7), (0, 23), (0, 49), (0, 23), (0, 23), (0, 49)]), [(80, [(some 18, 0), (some 21, 0), (some 20, 0), (none, 2), (some 14, 0)], [60, 61, 62, 63]), (20, [(some 20, 0), (some 14, 0)], [13]), (1, [(some 19, 0), (none, (-1))], []), (20, [(some 19, 0), (some 14, 0)], [13]), (80, [(some 15, 0), (some 18, 0), (some 17, 0), (none, 0), (some 14, 0)], [58, 59, 60, 61]), (20, [(some 17, 0), (some 14, 0)], [12]), (1, [(none, 1), (none, 0)], []), (2, [(some 16, 0), (some 2, 0)], []), (3, [(some 16, 0), (none, 0)], []), (20, [(some 16, 0), (some 14, 0)], [10]), (2, [(some 14, 0), (some 3, 0)], []), (84, [(some 14, 0), (some 2, 0), (some 15, 0)], [58, 59, 10, 12, 13]), (3, [(some 3, 0), (some 14, 0)], [])], (3, [(some 3, 0), (some 14, 1)], []))
set_option maxRecDepth 20000 in
theorem v_arrange35_2_11 {PT : PTy} (hp : HP3 PT) : vcOk PT w_arrange35_2_11 := vc_iv [(2, 1, 8), (3, 1, 11), (14, 0, 10), (15, 0, 49), (16, 0, 7), (17, 0, 23), (18, 0, 49), (19, 0, 23), (20, 0, 23), (21, 0, 49)] [10, 12, 13, 58, 59, 60, 61, 62, 63] (by decide +kernel) (fun ρ α => by
  intro r2 g2 b2 r3 g3 b3 r14 g14 b14 r15 g15 b15 r16 g16 b16 r17 g17 b17 r18 g18 b18 r19 g19 b19 r20 g20 b20 r21 g21 b21 a10 h10 a12 h12 a13 h13 a58 h58 a59 h59 a60 h60 a61 h61 a62 h62 a63 h63 f0 f1 f2 f3 f4 f5 f6 f7 f8 f9 f10 f11 f12 tt
  clear f2 f6 f8
  have e80 : PT 80 = P_ent := pe80_3 hp
  have e84 : PT 84 = P_arV := pe84_3 hp
  simp only [hF2, hF3, hF20, hFp_80, hFp_84, e80, e84, P_ent, P_arV, den_s, den_c, Int.add_zero, List.map_cons, List.map_nil, g2.eq, g3.eq, g14.eq, g15.eq, g16.eq, g17.eq, g18.eq, g19.eq, g20.eq, g21.eq, h10, h12, h13, h58, h59, h60, h61, h62, h63] at f0 f1 f3 f4 f5 f7 f9 f10 f11 f12 ⊢
  subst f1
  subst f3
  subst f5
  subst f9
  obtain ⟨i1, i2, i3⟩ := f11
  first
    | omega
    | (obtain ⟨t, z⟩ := f0; omega)
    | (refine ⟨by omega, i2, ?_⟩; rw [show r14 = r3 by omega] at i3; exact i3)
    | (refine ⟨by omega, i2, ?_⟩; rw [foldI_s (by omega)]; unfold stpV; rw [if_neg (by omega)]; exact i3)
    | (have he := f0; refine ⟨by obtain ⟨t, z⟩ := he; omega, prS_ent i2 he (fun q => by omega), ?_⟩; rw [foldI_s (by omega)]; unfold stpV; rw [if_pos (by omega), if_pos (by omega)]; exact isL_ins (foldI_srt stpV_srt (s := []) trivial _) i3 he)
    | (have he := f4; have hf := f0; refine ⟨by obtain ⟨t, z⟩ := he; obtain ⟨t2, z2⟩ := hf; omega, prS_ent (prS_ent i2 he (fun q => by omega)) hf (fun q => by omega), ?_⟩; rw [foldI_s (by omega)]; unfold stpV; rw [if_pos (by omega), if_neg (by omega)]; exact isL_ins (srt_ins (foldI_srt stpV_srt (s := []) trivial _)) (isL_ins (foldI_srt stpV_srt (s := []) trivial _) i3 he) hf))
set_option maxRecDepth 1000000 in
theorem k_arrange35 {PT : PTy} (hp : HP3 PT) : wfX c_arrange35 = true ∧ xcOk PT c_arrange35 := xctr (xl (k_enter35 hp) (xl (k_enterAll3_35 hp) (xl (k_enterAll4_35 hp) (xl0)))) c_arrange35 71 mX0_arrange rfl h_arrange35 (by decide +kernel) (by decide +kernel) (by decide) (vcs_by [w_arrange35_0_0, w_arrange35_0_1] (by decide +kernel) (vc (v_arrange35_0_0 hp) (vc (v_arrange35_0_1 hp) vn))) (fmc (vcs_by [w_arrange35_1_0, w_arrange35_1_1, w_arrange35_1_2, w_arrange35_1_3, w_arrange35_1_4, w_arrange35_1_5, w_arrange35_1_6, w_arrange35_1_7] (by decide +kernel) (vc (v_arrange35_1_0 hp) (vc (v_arrange35_1_1 hp) (vc (v_arrange35_1_2 hp) (vc (v_arrange35_1_3 hp) (vc (v_arrange35_1_4 hp) (vc (v_arrange35_1_5 hp) (vc (v_arrange35_1_6 hp) (vc (v_arrange35_1_7 hp) vn))))))))) (fmc (vcs_by [w_arrange35_2_0, w_arrange35_2_1, w_arrange35_2_2, w_arrange35_2_3, w_arrange35_2_4, w_arrange35_2_5, w_arrange35_2_6, w_arrange35_2_7, w_arrange35_2_8, w_arrange35_2_9, w_arrange35_2_10, w_arrange35_2_11] (by decide +kernel) (vc (v_arrange35_2_0 hp) (vc (v_arrange35_2_1 hp) (vc (v_arrange35_2_2 hp) (vc (v_arrange35_2_3 hp) (vc (v_arrange35_2_4 hp) (vc (v_arrange35_2_5 hp) (vc (v_arrange35_2_6 hp) (vc (v_arrange35_2_7 hp) (vc (v_arrange35_2_8 hp) (vc (v_arrange35_2_9 hp) (vc (v_arrange35_2_10 hp) (vc (v_arrange35_2_11 hp) vn))))))))))))) fmn))
