/-! ===== the class's course: acts in their order ===== -/
/-- an act entered: those of greater keys go one place on -/
def entS (n n' key sub : Int) (f g f' g' : Int → Int) : Prop := ∃ t, 0 ≤ t ∧ t ≤ n ∧ n' = n + 1 ∧ (∀ i, t ≤ i → i < n → key < f i) ∧ (t = 0 ∨ f (t - 1) ≤ key) ∧ (∀ i, 0 ≤ i → i < t → f' i = f i ∧ g' i = g i) ∧ f' t = key ∧ g' t = sub ∧ (∀ i, t < i → i ≤ n → f' i = f (i - 1) ∧ g' i = g (i - 1))
/-- within the loop -/
def entI (t n key : Int) (f g F G : Int → Int) : Prop := t ≤ n ∧ (∀ i, t ≤ i → i < n → key < f i) ∧ (∀ i, 0 ≤ i → i ≤ t → i < n → F i = f i ∧ G i = g i) ∧ (∀ i, t < i → i ≤ n → F i = f (i - 1) ∧ G i = g (i - 1))
theorem entI_z {n key : Int} {f g : Int → Int} : entI n n key f g f g := ⟨by omega, fun i h1 h2 => by omega, fun i _ _ _ => ⟨rfl, rfl⟩, fun i h1 h2 => by omega⟩
theorem entI_s {t n key : Int} {f g F G : Int → Int} (h : entI t n key f g F G) (h0 : 0 < t) (hk : key < F (t + -1)) : entI (t + -1) n key f g (updI F t (F (t + -1))) (updI G t (G (t + -1))) := by
  obtain ⟨h1, h2, h3, h4⟩ := h
  rw [show t + -1 = t - 1 by omega] at hk ⊢
  have e := h3 (t - 1) (by omega) (by omega) (by omega)
  refine ⟨by omega, fun i i1 i2 => ?_, fun i i1 i2 i3 => ?_, fun i i1 i2 => ?_⟩
  · by_cases q : i = t - 1
    · rw [q, ← e.1]; exact hk
    · exact h2 i (by omega) i2
  · rw [updI_ne (by omega), updI_ne (by omega)]
    exact h3 i i1 (by omega) i3
  · by_cases q : i = t
    · subst q
      rw [updI_at, updI_at]
      exact e
    · rw [updI_ne q, updI_ne q]
      exact h4 i (by omega) i2
theorem entI_e {t n key sub : Int} {f g F G : Int → Int} (h : entI t n key f g F G) (h0 : 0 ≤ t) (hk : t = 0 ∨ F (t + -1) ≤ key) : entS n (n + 1) key sub f g (updI F t key) (updI G t sub) := by
  obtain ⟨h1, h2, h3, h4⟩ := h
  rw [show t + -1 = t - 1 by omega] at hk
  refine ⟨t, h0, h1, rfl, h2, ?_, fun i i1 i2 => ?_, updI_at _ _ _, updI_at _ _ _, fun i i1 i2 => ?_⟩
  · rcases hk with q | q
    · exact Or.inl q
    · by_cases z : t = 0
      · exact Or.inl z
      · right
        have e := h3 (t - 1) (by omega) (by omega) (by omega)
        rw [← e.1]
        exact q
  · rw [updI_ne (by omega), updI_ne (by omega)]
    exact h3 i i1 (by omega) (by omega)
  · rw [updI_ne (by omega), updI_ne (by omega)]
    exact h4 i i1 i2
/-! acts as a list -/
abbrev AL : Type := List (Int × Int)
def ins (x : Int × Int) (l : AL) : AL := l.filter (fun y => decide (y.1 ≤ x.1)) ++ x :: l.filter (fun y => decide (x.1 < y.1))
def srt : AL → Prop
  | [] => True
  | x :: l => (∀ y ∈ l, x.1 ≤ y.1) ∧ srt l
def isL (l : AL) (n : Int) (f g : Int → Int) : Prop := n = l.length ∧ ∀ i : Nat, i < l.length → f (i : Int) = (l.getD i (0, 0)).1 ∧ g (i : Int) = (l.getD i (0, 0)).2
theorem srt_app : ∀ {l k : AL}, srt (l ++ k) ↔ srt l ∧ srt k ∧ ∀ x ∈ l, ∀ y ∈ k, x.1 ≤ y.1
  | [], k => ⟨fun h => ⟨trivial, h, fun x hx => absurd hx List.not_mem_nil⟩, fun h => h.2.1⟩
  | a :: l, k => by
    show ((∀ y ∈ l ++ k, a.1 ≤ y.1) ∧ srt (l ++ k)) ↔ ((∀ y ∈ l, a.1 ≤ y.1) ∧ srt l) ∧ srt k ∧ _
    rw [srt_app (l := l) (k := k)]
    constructor
    · rintro ⟨h1, h2, h3, h4⟩
      refine ⟨⟨fun y hy => h1 y (List.mem_append_left _ hy), h2⟩, h3, fun x hx y hy => ?_⟩
      rcases List.mem_cons.mp hx with rfl | q
      · exact h1 y (List.mem_append_right _ hy)
      · exact h4 x q y hy
    · rintro ⟨⟨h1, h2⟩, h3, h4⟩
      refine ⟨fun y hy => ?_, h2, h3, fun x hx y hy => h4 x (List.mem_cons_of_mem _ hx) y hy⟩
      rcases List.mem_append.mp hy with q | q
      · exact h1 y q
      · exact h4 a List.mem_cons_self y q
theorem srt_filter {p : Int × Int → Bool} : ∀ {l : AL}, srt l → srt (l.filter p)
  | [], _ => trivial
  | a :: l, h => by
    have ih := srt_filter (p := p) (l := l) h.2
    rw [List.filter_cons]
    split
    · exact ⟨fun y hy => h.1 y (List.mem_filter.mp hy).1, ih⟩
    · exact ih
theorem srt_ins {x : Int × Int} {l : AL} (h : srt l) : srt (ins x l) := by
  unfold ins
  refine srt_app.mpr ⟨srt_filter h, ⟨fun y hy => ?_, srt_filter h⟩, fun a ha b hb => ?_⟩
  · have := of_decide_eq_true (List.mem_filter.mp hy).2
    omega
  · have h1 := of_decide_eq_true (List.mem_filter.mp ha).2
    rcases List.mem_cons.mp hb with rfl | q
    · exact h1
    · have h2 := of_decide_eq_true (List.mem_filter.mp q).2
      omega
/-- a sorted list falls into those up to a key and those above it -/
theorem srt_cut {k : Int} : ∀ {l : AL}, srt l → ∃ n : Nat, n ≤ l.length ∧ l.filter (fun y => decide (y.1 ≤ k)) = l.take n ∧ l.filter (fun y => decide (k < y.1)) = l.drop n
  | [], _ => ⟨0, Nat.le_refl _, rfl, rfl⟩
  | a :: l, h => by
    obtain ⟨n, h1, h2, h3⟩ := srt_cut (k := k) h.2
    by_cases ha : a.1 ≤ k
    · refine ⟨n + 1, by simp; exact h1, ?_, ?_⟩
      · rw [List.filter_cons, if_pos (decide_eq_true ha), h2]; rfl
      · rw [List.filter_cons, if_neg (by simp; exact ha), h3]; rfl
    · refine ⟨0, Nat.zero_le _, ?_, ?_⟩
      · show _ = []
        rw [List.filter_eq_nil_iff]
        intro y hy
        rcases List.mem_cons.mp hy with rfl | q
        · simpa using ha
        · have := h.1 y q
          simp
          omega
      · show _ = a :: l
        rw [List.filter_eq_self]
        intro y hy
        rcases List.mem_cons.mp hy with rfl | q
        · simpa using ha
        · have := h.1 y q
          simp
          omega
theorem isL_at {l : AL} {n : Int} {f g : Int → Int} (h : isL l n f g) {i : Int} (h0 : 0 ≤ i) (h1 : i < n) : f i = (l.getD i.toNat (0, 0)).1 ∧ g i = (l.getD i.toNat (0, 0)).2 ∧ l.getD i.toNat (0, 0) ∈ l := by
  have hl : i.toNat < l.length := by have := h.1; omega
  have := h.2 i.toNat hl
  rw [Int.toNat_of_nonneg h0] at this
  refine ⟨this.1, this.2, ?_⟩
  rw [List.getD_eq_getElem?_getD, List.getElem?_eq_getElem hl]
  exact List.getElem_mem hl
theorem getD_app_l {l k : AL} {i : Nat} (h : i < l.length) : (l ++ k).getD i (0, 0) = l.getD i (0, 0) := by
  rw [List.getD_eq_getElem?_getD, List.getD_eq_getElem?_getD, List.getElem?_append_left h]
theorem getD_app_r {l k : AL} {i : Nat} (h : l.length ≤ i) : (l ++ k).getD i (0, 0) = k.getD (i - l.length) (0, 0) := by
  rw [List.getD_eq_getElem?_getD, List.getD_eq_getElem?_getD, List.getElem?_append_right h]
theorem isL_ins {l : AL} {n n' key sub : Int} {f g f' g' : Int → Int} (hs : srt l) (h : isL l n f g) (he : entS n n' key sub f g f' g') : isL (ins (key, sub) l) n' f' g' := by
  obtain ⟨t, t0, tn, e, h1, h2, h3, h4, h5, h6⟩ := he
  obtain ⟨c, c1, c2, c3⟩ := srt_cut (k := key) hs
  have hn := h.1
  -- the cut is t
  have hct : (c : Int) = t := by
    have low : ∀ i : Nat, i < c → (l.getD i (0, 0)).1 ≤ key := fun i hi => by
      have hm : l.getD i (0, 0) ∈ l.take c := by
        rw [List.getD_eq_getElem?_getD, ← List.getElem?_take_of_lt hi, List.getElem?_eq_getElem (by rw [List.length_take]; omega)]
        exact List.getElem_mem _
      rw [← c2] at hm
      exact of_decide_eq_true (List.mem_filter.mp hm).2
    have high : ∀ i : Nat, c ≤ i → i < l.length → key < (l.getD i (0, 0)).1 := fun i hi hl => by
      have hm : l.getD i (0, 0) ∈ l.drop c := by
        have e1 : (l.drop c)[i - c]? = l[i]? := by rw [List.getElem?_drop]; congr 1; omega
        rw [List.getD_eq_getElem?_getD, ← e1, List.getElem?_eq_getElem (by rw [List.length_drop]; omega)]
        exact List.getElem_mem _
      rw [← c3] at hm
      exact of_decide_eq_true (List.mem_filter.mp hm).2
    by_cases q : (c : Int) < t
    · exfalso
      rcases h2 with z | z
      · omega
      · have := (isL_at h (i := t - 1) (by omega) (by omega)).1
        rw [this] at z
        have := high (t - 1).toNat (by omega) (by omega)
        omega
    · by_cases q2 : t < (c : Int)
      · exfalso
        have z := h1 t (by omega) (by omega)
        rw [(isL_at h (i := t) t0 (by omega)).1] at z
        have := low t.toNat (by omega)
        omega
      · omega
  have hlen : (l.take c).length = c := by rw [List.length_take]; omega
  have hld : (l.drop c).length = l.length - c := List.length_drop
  unfold ins
  rw [c2, c3]
  refine ⟨by rw [List.length_append, List.length_cons, hlen, hld]; omega, fun i hi => ?_⟩
  rw [List.length_append, List.length_cons, hlen, hld] at hi
  by_cases q : i < c
  · rw [getD_app_l (by omega)]
    have e1 : (l.take c).getD i (0, 0) = l.getD i (0, 0) := by
      rw [List.getD_eq_getElem?_getD, List.getD_eq_getElem?_getD, List.getElem?_take_of_lt q]
    rw [e1]
    have := h3 i (by omega) (by omega)
    rw [this.1, this.2]
    exact h.2 i (by omega)
  · rw [getD_app_r (by omega), hlen]
    by_cases q2 : i = c
    · subst q2
      rw [Nat.sub_self, hct]
      exact ⟨h4, h5⟩
    · have e2 : i - c = (i - c - 1) + 1 := by omega
      rw [e2, List.getD_cons_succ]
      have e1 : (l.drop c).getD (i - c - 1) (0, 0) = l.getD (i - 1) (0, 0) := by
        rw [List.getD_eq_getElem?_getD, List.getD_eq_getElem?_getD, List.getElem?_drop]
        congr 2
        omega
      rw [e1]
      have := h6 i (by omega) (by omega)
      rw [this.1, this.2]
      have e3 : (i : Int) - 1 = ((i - 1 : Nat) : Int) := by omega
      rw [e3]
      exact h.2 (i - 1) (by omega)
/-! the acts of a year -/
def stpV (n : Int) (wh md du : Int → Int) (i : Int) (l : AL) : AL := if 0 ≤ wh i ∧ wh i < n then (if du i = -1 then ins (5 * md i, i) l else ins (5 * du i + 2, i) (ins (5 * md i, i) l)) else l
def stpK (m : Int) (kd ko : Int → Int) (i : Int) (l : AL) : AL := if 0 ≤ ko i ∧ ko i < m then ins (5 * kd i + 1, i) l else l
def stpT (n kind : Int) (td tw : Int → Int) (i : Int) (l : AL) : AL := if 0 ≤ tw i ∧ tw i < n then ins (5 * td i + kind, i) l else l
def aV (n m : Int) (wh md du : Int → Int) : AL := foldI (stpV n wh md du) [] m.toNat
def aK (n m nk : Int) (wh md du kd ko : Int → Int) : AL := foldI (stpK m kd ko) (aV n m wh md du) nk.toNat
def aL (n m nk nl : Int) (wh md du kd ko ld lw : Int → Int) : AL := foldI (stpT n 3 ld lw) (aK n m nk wh md du kd ko) nl.toNat
def aT (n m nk nl nt : Int) (wh md du kd ko ld lw td tw : Int → Int) : AL := foldI (stpT n 4 td tw) (aL n m nk nl wh md du kd ko ld lw) nt.toNat
theorem foldI_srt {f : Int → AL → AL} (hf : ∀ i l, srt l → srt (f i l)) {s : AL} (h : srt s) : ∀ n, srt (foldI f s n)
  | 0 => h
  | n + 1 => hf _ _ (foldI_srt hf h n)
theorem stpV_srt {n : Int} {wh md du : Int → Int} : ∀ i l, srt l → srt (stpV n wh md du i l) := fun i l h => by
  unfold stpV
  split
  · split
    · exact srt_ins h
    · exact srt_ins (srt_ins h)
  · exact h
theorem stpK_srt {m : Int} {kd ko : Int → Int} : ∀ i l, srt l → srt (stpK m kd ko i l) := fun i l h => by
  unfold stpK
  split
  · exact srt_ins h
  · exact h
theorem stpT_srt {n k : Int} {td tw : Int → Int} : ∀ i l, srt l → srt (stpT n k td tw i l) := fun i l h => by
  unfold stpT
  split
  · exact srt_ins h
  · exact h
theorem aV_srt {n m : Int} {wh md du : Int → Int} : srt (aV n m wh md du) := foldI_srt stpV_srt (s := []) trivial _
theorem aK_srt {n m nk : Int} {wh md du kd ko : Int → Int} : srt (aK n m nk wh md du kd ko) := foldI_srt stpK_srt aV_srt _
theorem aL_srt {n m nk nl : Int} {wh md du kd ko ld lw : Int → Int} : srt (aL n m nk nl wh md du kd ko ld lw) := foldI_srt stpT_srt aK_srt _
theorem aT_srt {n m nk nl nt : Int} {wh md du kd ko ld lw td tw : Int → Int} : srt (aT n m nk nl nt wh md du kd ko ld lw td tw) := foldI_srt stpT_srt aL_srt _
theorem isL_nil {f g : Int → Int} : isL [] 0 f g := ⟨rfl, fun i hi => absurd hi (Nat.not_lt_zero _)⟩
/-- an act of a KEEPING, a LIE, a LETTING has its row's number for its subject -/
def prS (n : Int) (f g : Int → Int) : Prop := ∀ i, 0 ≤ i → i < n → (f i % 5 = 1 ∨ f i % 5 = 3 ∨ f i % 5 = 4) → g i ≤ 8
theorem prS_ent {n n' key sub : Int} {f g f' g' : Int → Int} (h : prS n f g) (he : entS n n' key sub f g f' g') (hs : (key % 5 = 1 ∨ key % 5 = 3 ∨ key % 5 = 4) → sub ≤ 8) : prS n' f' g' := by
  obtain ⟨t, t0, tn, e, h1, h2, h3, h4, h5, h6⟩ := he
  intro i i0 i1 hk
  by_cases q : i < t
  · have := h3 i i0 q
    rw [this.1] at hk
    rw [this.2]
    exact h i i0 (by omega) hk
  · by_cases q2 : i = t
    · subst q2
      rw [h4] at hk
      rw [h5]
      exact hs hk
    · have := h6 i (by omega) (by omega)
      rw [this.1] at hk
      rw [this.2]
      exact h (i - 1) (by omega) (by omega) hk
/-! what an act does -/
abbrev ST3 : Type := (Int → Int) × (Int → Int) × (Int → Int)
def lgF (c : Int → Int) (k by_ : Int) : Int → Int := updI c k (if c k + by_ > 99 then 99 else c k + by_)
def shF (c : Int → Int) (k by_ : Int) : Int → Int := updI c k (if c k - by_ < 0 then 0 else c k - by_)
def gnF (so wh gr : Int → Int) (p : Int) : Int := if so (wh p) = 1 then 2 * gr p else if so (wh p) = 2 then gr p else gr p / 2
def fuF (sz wh gr : Int → Int) (p : Int) (σ : ST3) : ST3 := if σ.2.2 p = 1 then (updI σ.1 (wh p) (if σ.1 (wh p) > sz (wh p) then max (sz (wh p)) (σ.1 (wh p) - gr p) else min (sz (wh p)) (σ.1 (wh p) + gr p)), σ.2.1, updI σ.2.2 p 2) else σ
def faF (so wh gr : Int → Int) (p : Int) (σ : ST3) : ST3 := if σ.2.2 p = 1 then (shF σ.1 (wh p) (if so (wh p) = 2 then gnF so wh gr p + 2 else gnF so wh gr p), updI σ.2.1 (wh p) (mAdd (σ.2.1 (wh p)) 1), updI σ.2.2 p 3) else σ
def acF (so sz wh gr ko lw lm tw tm : Int → Int) (nk nh : Int) (key sub : Int) (σ : ST3) : ST3 :=
  if key % 5 = 0 then (lgF σ.1 (wh sub) (gnF so wh gr sub), σ.2.1, updI σ.2.2 sub 1)
  else if key % 5 = 1 then (if mAnd (mShr nk sub) 1 = 0 then fuF sz wh gr (ko sub) σ else σ)
  else if key % 5 = 2 then faF so wh gr sub σ
  else if key % 5 = 3 then (if mAnd (mShr nh sub) 1 = 0 then (shF σ.1 (lw sub) (lm sub), σ.2) else σ)
  else (lgF σ.1 (tw sub) (tm sub), σ.2)
/-- from act a on, n of them -/
def rnF (F : Int → Int → ST3 → ST3) (f g : Int → Int) (a : Int) (σ : ST3) : Nat → ST3 := foldI (fun i s => F (f (a + i)) (g (a + i)) s) σ
def adI (a b n lim : Int) (F : Int → Int → ST3 → ST3) (f g c t s c' t' s' : Int → Int) : Prop := a ≤ b ∧ (a ≤ n → b ≤ n) ∧ (∀ i, a ≤ i → i < b → f i < lim) ∧ (c', t', s') = rnF F f g a (c, t, s) (b - a).toNat
theorem adI_z {a n lim : Int} {F : Int → Int → ST3 → ST3} {f g c t s : Int → Int} : adI a a n lim F f g c t s c t s := ⟨by omega, fun h => h, fun i h1 h2 => by omega, by rw [Int.sub_self]; rfl⟩
theorem adI_s {a b n lim : Int} {F : Int → Int → ST3 → ST3} {f g c t s c' t' s' c2 t2 s2 : Int → Int} (h : adI a b n lim F f g c t s c' t' s') (hb : b < n) (hl : f b < lim) (e : (c2, t2, s2) = F (f b) (g b) (c', t', s')) : adI a (b + 1) n lim F f g c t s c2 t2 s2 := by
  obtain ⟨h1, h2, h3, h4⟩ := h
  refine ⟨by omega, fun _ => by omega, fun i i1 i2 => ?_, ?_⟩
  · by_cases q : i = b
    · rw [q]; exact hl
    · exact h3 i i1 (by omega)
  · rw [e, h4, show b + 1 - a = (b - a) + 1 by omega]
    unfold rnF
    rw [foldI_s (by omega), show a + (b - a) = b by omega]
section ACF
variable {so sz wh gr ko lw lm tw tm : Int → Int} {nk nh key sub : Int} {σ : ST3}
theorem acF_0 (h : key % 5 = 0) : acF so sz wh gr ko lw lm tw tm nk nh key sub σ = (lgF σ.1 (wh sub) (gnF so wh gr sub), σ.2.1, updI σ.2.2 sub 1) := by unfold acF; rw [if_pos h]
theorem acF_1 (h : key % 5 = 1) : acF so sz wh gr ko lw lm tw tm nk nh key sub σ = if mAnd (mShr nk sub) 1 = 0 then fuF sz wh gr (ko sub) σ else σ := by unfold acF; rw [if_neg (by omega), if_pos h]
theorem acF_2 (h : key % 5 = 2) : acF so sz wh gr ko lw lm tw tm nk nh key sub σ = faF so wh gr sub σ := by unfold acF; rw [if_neg (by omega), if_neg (by omega), if_pos h]
theorem acF_3 (h : key % 5 = 3) : acF so sz wh gr ko lw lm tw tm nk nh key sub σ = if mAnd (mShr nh sub) 1 = 0 then (shF σ.1 (lw sub) (lm sub), σ.2) else σ := by unfold acF; rw [if_neg (by omega), if_neg (by omega), if_neg (by omega), if_pos h]
theorem acF_4 (h : key % 5 = 4) : acF so sz wh gr ko lw lm tw tm nk nh key sub σ = (lgF σ.1 (tw sub) (tm sub), σ.2) := by unfold acF; rw [if_neg (by omega), if_neg (by omega), if_neg (by omega), if_neg (by omega)]
end ACF
