/-! ===== arrays that are alike below, or but at one place ===== -/
theorem al_up {n k v : Int} {A B : Int → Int} (hk : n ≤ k) (h : ∀ i, 0 ≤ i → i < n → A i = B i) : ∀ i, 0 ≤ i → i < n → updI A k v i = B i := fun i h1 h2 => by
  rw [updI_ne (by omega)]
  exact h i h1 h2
theorem al_tr {n : Int} {A B C : Int → Int} (h : ∀ i, 0 ≤ i → i < n → A i = B i) (k : ∀ i, 0 ≤ i → i < n → B i = C i) : ∀ i, 0 ≤ i → i < n → A i = C i := fun i h1 h2 => (h i h1 h2).trans (k i h1 h2)
theorem upd_bk {k : Int} {A B : Int → Int} (h : ∀ i, ¬ i = k → A i = B i) : updI A k (B k) = B := by
  funext i
  by_cases q : i = k
  · rw [q, updI_at]
  · rw [updI_ne q]
    exact h i q
theorem bu_up {k v : Int} {A B : Int → Int} (h : ∀ i, ¬ i = k → A i = B i) : ∀ i, ¬ i = k → updI A k v i = B i := fun i q => by
  rw [updI_ne q]
  exact h i q
/-! ===== texts and counts alone; printed by wip/gen/x ===== -/
def P_XN (l : List Int) (a : List (Int → Int)) : Prop := match l, a with
  | [n, m, p, q], [A, V] => nP n p A ∧ nV m q V
  | _, _ => False
theorem hFp_146 {PT : PTy} {ρ : Nat → Int} {α : Nat → Int → Int} (l : List AN) (a : List Nat) : hF PT ρ α (146, l, a) = PT 146 (l.map (den ρ)) (a.map α) := rfl
def HP10 (PT : PTy) : Prop := HP9 PT ∧ (PT 146 = P_XN ∧ True)
/-! ===== the class's year, told ===== -/
def bgP (sz c t s : Int → Int) : Prop := (∀ i, 0 ≤ i → i < 8 → c i = sz i ∧ t i = 0) ∧ ∀ i, 0 ≤ i → i < 11 → s i = 0
/-- coats, tears and promises behind all acts below a key -/
def yX (lim n m nk nl nt u h : Int) (so sz wh gr md du kd ko ld lw lm td tw tm C T S : Int → Int) : Prop := ∃ c t s, bgP sz c t s ∧ (C, T, S) = fdA (acF so sz wh gr ko lw lm tw tm u h) (c, t, s) (fLt lim (aT n m nk nl nt wh md du kd ko ld lw td tw))
/-- on the way: the first b acts are done, all below a key -/
def yI (b lim n m nk nl nt u h : Int) (so sz wh gr md du kd ko ld lw lm td tw tm f C T S : Int → Int) : Prop := ∃ c t s, bgP sz c t s ∧ 0 ≤ b ∧ b ≤ (aT n m nk nl nt wh md du kd ko ld lw td tw).length ∧ (∀ i, 0 ≤ i → i < b → f i < lim) ∧ (C, T, S) = fdA (acF so sz wh gr ko lw lm tw tm u h) (c, t, s) ((aT n m nk nl nt wh md du kd ko ld lw td tw).take b.toNat)
section YS
variable {lim n m nk nl nt u h : Int} {so sz wh gr md du kd ko ld lw lm td tw tm f g C T S C' T' S' : Int → Int}
theorem yI_z (hb : bgP sz C T S) : yI 0 lim n m nk nl nt u h so sz wh gr md du kd ko ld lw lm td tw tm f C T S := ⟨C, T, S, hb, by omega, by omega, fun i h1 h2 => by omega, rfl⟩
theorem yI_s {a b d : Int} (hl : isL (aT n m nk nl nt wh md du kd ko ld lw td tw) a f g) (hy : yI b lim n m nk nl nt u h so sz wh gr md du kd ko ld lw lm td tw tm f C T S) (hd : lim ≤ 5 * (d + 1)) {b' : Int} (ha : adI b b' a (5 * (d + 1)) (acF so sz wh gr ko lw lm tw tm u h) f g C T S C' T' S') : yI b' (5 * (d + 1)) n m nk nl nt u h so sz wh gr md du kd ko ld lw lm td tw tm f C' T' S' := by
  obtain ⟨c, t, s, y1, y2, y3, y4, y5⟩ := hy
  obtain ⟨a1, a2, a3, a4⟩ := ha
  have hn := hl.1
  have hb' : b' ≤ a := a2 (by omega)
  refine ⟨c, t, s, y1, by omega, by omega, fun i h1 h2 => ?_, ?_⟩
  · by_cases q : i < b
    · have := y4 i h1 q
      omega
    · exact a3 i (by omega) h2
  · rw [a4, y5]
    have e := rnF_fdA (F := acF so sz wh gr ko lw lm tw tm u h) hl (σ := (c, t, s)) b.toNat (b' - b).toNat (by omega)
    rw [Int.toNat_of_nonneg y2] at e
    rw [e, show b.toNat + (b' - b).toNat = b'.toNat by omega]
theorem yI_e {a b d : Int} (hl : isL (aT n m nk nl nt wh md du kd ko ld lw td tw) a f g) (hy : yI b (5 * (d + 1)) n m nk nl nt u h so sz wh gr md du kd ko ld lw lm td tw tm f C T S) (he : ¬ (b < a ∧ f b < 5 * (d + 1))) : yX (5 * (d + 1)) n m nk nl nt u h so sz wh gr md du kd ko ld lw lm td tw tm C T S := by
  obtain ⟨c, t, s, y1, y2, y3, y4, y5⟩ := hy
  have hn := hl.1
  refine ⟨c, t, s, y1, ?_⟩
  rw [y5, take_fLt aT_srt hl (b := b.toNat) (by omega) (fun i h1 h2 => y4 i h1 (by omega)) (by rw [Int.toNat_of_nonneg y2]; exact he)]
/-- the whole of it at once -/
theorem yX_by {a b d : Int} {c t s : Int → Int} (hl : isL (aT n m nk nl nt wh md du kd ko ld lw td tw) a f g) (hb : bgP sz c t s) (ha : adI 0 b a (5 * (d + 1)) (acF so sz wh gr ko lw lm tw tm u h) f g c t s C T S ∧ ¬ (b < a ∧ f b < 5 * (d + 1))) : yX (5 * (d + 1)) n m nk nl nt u h so sz wh gr md du kd ko ld lw lm td tw tm C T S := yI_e hl (yI_s hl (yI_z (lim := 5 * (d + 1)) hb) (Int.le_refl _) ha.1) ha.2
end YS
/-! ===== bits counted ===== -/
def bcA (x : Int) : Int := mSub x (mAnd (mUsh x 1) 1431655765)
def bcB (a : Int) : Int := mAdd (mAnd a 858993459) (mAnd (mUsh a 2) 858993459)
def bcC (b : Int) : Int := mAnd (mAdd b (mUsh b 4)) 252645135
def bcD (c : Int) : Int := mAdd c (mUsh c 8)
def bcE (d : Int) : Int := mAdd d (mUsh d 16)
def bcF (x : Int) : Int := mAnd (bcE (bcD (bcC (bcB (bcA x))))) 63
def bitG (p : Int → Bool) (n : Nat) : Int := foldI (fun i b => if p i = true then mOr b (mShl 1 i) else b) 0 n
def cntG (p : Int → Bool) (n : Nat) : Int := foldI (fun i c => if p i = true then c + 1 else c) 0 n
set_option maxRecDepth 100000 in
theorem bc_step : (List.range 8).all (fun n => (List.range (2 ^ n)).all (fun b => decide (mOr (b : Int) (mShl 1 (n : Int)) = ((b + 2 ^ n : Nat) : Int)) && decide (bcF ((b + 2 ^ n : Nat) : Int) = bcF (b : Int) + 1))) = true := by decide +kernel
theorem bc_G (p : Int → Bool) : ∀ n : Nat, n ≤ 8 → ∃ b : Nat, b < 2 ^ n ∧ bitG p n = (b : Int) ∧ bcF (b : Int) = cntG p n
  | 0, _ => ⟨0, by decide, rfl, by show bcF ((0 : Nat) : Int) = 0; decide +kernel⟩
  | n + 1, h => by
    obtain ⟨b, b1, b2, b3⟩ := bc_G p n (by omega)
    have q := List.all_eq_true.mp (List.all_eq_true.mp bc_step n (List.mem_range.mpr (by omega))) b (List.mem_range.mpr b1)
    rw [Bool.and_eq_true, decide_eq_true_eq, decide_eq_true_eq] at q
    have e1 : bitG p (n + 1) = if p (n : Int) = true then mOr (bitG p n) (mShl 1 (n : Int)) else bitG p n := rfl
    have e2 : cntG p (n + 1) = if p (n : Int) = true then cntG p n + 1 else cntG p n := rfl
    by_cases hp : p (n : Int) = true
    · refine ⟨b + 2 ^ n, by rw [Nat.pow_succ]; omega, ?_, ?_⟩
      · rw [e1, if_pos hp, b2]; exact q.1
      · rw [e2, if_pos hp, q.2, b3]
    · refine ⟨b, by rw [Nat.pow_succ]; omega, ?_, ?_⟩
      · rw [e1, if_neg hp, b2]
      · rw [e2, if_neg hp, b3]
def fitP (C Z : Int → Int) (i : Int) : Prop := C i - Z i = 0 ∨ C i - Z i = 1
def bitF (C Z : Int → Int) (n : Int) : Int := foldI (fun i b => if C i - Z i = 0 ∨ C i - Z i = 1 then mOr b (mShl 1 i) else b) 0 n.toNat
def cntF (C Z : Int → Int) (n : Int) : Int := foldI (fun i c => if C i - Z i = 0 ∨ C i - Z i = 1 then c + 1 else c) 0 n.toNat
def nkdF (C : Int → Int) (n : Int) : Int := foldI (fun i b => if C i = 0 then mOr b (mShl 1 i) else b) 0 n.toNat
def rpsF (T : Int → Int) (n : Int) : Int := foldI (fun i b => mAdd b (T i)) 0 n.toNat
theorem bit_G (C Z : Int → Int) (n : Int) : bitF C Z n = bitG (fun i => decide (C i - Z i = 0 ∨ C i - Z i = 1)) n.toNat := foldI_cg _ (fun i _ _ t => by simp only [decide_eq_true_eq])
theorem cnt_G (C Z : Int → Int) (n : Int) : cntF C Z n = cntG (fun i => decide (C i - Z i = 0 ∨ C i - Z i = 1)) n.toNat := foldI_cg _ (fun i _ _ t => by simp only [decide_eq_true_eq])
theorem bc_bit {C Z : Int → Int} {n : Int} (h : n ≤ 8) : bcF (bitF C Z n) = cntF C Z n := by
  obtain ⟨b, -, b2, b3⟩ := bc_G (fun i => decide (C i - Z i = 0 ∨ C i - Z i = 1)) n.toNat (by omega)
  rw [bit_G, cnt_G, b2, b3]
theorem cntG_nn (p : Int → Bool) : ∀ n : Nat, 0 ≤ cntG p n ∧ cntG p n ≤ n
  | 0 => ⟨Int.le_refl _, Int.le_refl _⟩
  | n + 1 => by
    have ih := cntG_nn p n
    have e2 : cntG p (n + 1) = if p (n : Int) = true then cntG p n + 1 else cntG p n := rfl
    rw [e2]
    split <;> omega
theorem bc_nn {C Z : Int → Int} {n : Int} (h : n ≤ 8) : 0 ≤ bcF (bitF C Z n) := by
  rw [bc_bit h, cnt_G]
  exact (cntG_nn _ _).1
theorem bits_cg {C Z C' Z' : Int → Int} {n : Int} (h : ∀ k, 0 ≤ k → k < n → C k = C' k ∧ Z k = Z' k) : bitF C Z n = bitF C' Z' n ∧ cntF C Z n = cntF C' Z' n := by
  constructor
  · exact foldI_cg _ (fun i h1 h2 t => by rw [(h i h1 (by omega)).1, (h i h1 (by omega)).2])
  · exact foldI_cg _ (fun i h1 h2 t => by rw [(h i h1 (by omega)).1, (h i h1 (by omega)).2])
theorem nkd_cg {C C' : Int → Int} {n : Int} (h : ∀ k, 0 ≤ k → k < n → C k = C' k) : nkdF C n = nkdF C' n := foldI_cg _ (fun i h1 h2 t => by rw [h i h1 (by omega)])
theorem rps_cg {C C' : Int → Int} {n : Int} (h : ∀ k, 0 ≤ k → k < n → C k = C' k) : rpsF C n = rpsF C' n := foldI_cg _ (fun i h1 h2 t => by rw [h i h1 (by omega)])
/-! ===== the first greatest ===== -/
/-- of i tries the first greatest, above -1 -/
def amx (i w v : Int) (G : Int → Int) : Prop := (i = 0 → w = -1 ∧ v = -1) ∧ (0 < i → 0 ≤ w ∧ w < i ∧ v = G w ∧ (∀ j, 0 ≤ j → j < i → G j ≤ v) ∧ ∀ j, 0 ≤ j → j < w → G j < v)
theorem amx_z {G : Int → Int} : amx 0 (-1) (-1) G := ⟨fun _ => ⟨rfl, rfl⟩, fun h => by omega⟩
theorem amx_t {i w v : Int} {G : Int → Int} (h : amx i w v G) (hi : 0 ≤ i) (hv : v < G i) (hg : 0 ≤ G i) : amx (i + 1) i (G i) G := by
  refine ⟨fun q => by omega, fun _ => ⟨hi, by omega, rfl, fun j h1 h2 => ?_, fun j h1 h2 => ?_⟩⟩
  · by_cases q : j = i
    · rw [q]; omega
    · have := (h.2 (by omega)).2.2.2.1 j h1 (by omega)
      omega
  · have := (h.2 (by omega)).2.2.2.1 j h1 h2
    omega
theorem amx_k {i w v : Int} {G : Int → Int} (h : amx i w v G) (hi : 0 ≤ i) (hv : G i ≤ v) (hg : 0 ≤ G i) : amx (i + 1) w v G := by
  have h0 : 0 < i := by
    by_cases q : i = 0
    · have := (h.1 q).2
      omega
    · omega
  obtain ⟨a1, a2, a3, a4, a5⟩ := h.2 h0
  refine ⟨fun q => by omega, fun _ => ⟨a1, by omega, a3, fun j h1 h2 => ?_, a5⟩⟩
  by_cases q : j = i
  · rw [q]; exact hv
  · exact a4 j h1 (by omega)
theorem amx_eq {i w v w' v' : Int} {G G' : Int → Int} (h : amx i w v G) (h' : amx i w' v' G') (hi : 0 ≤ i) (hG : ∀ j, 0 ≤ j → j < i → G j = G' j) : w = w' ∧ v = v' := by
  by_cases q : i = 0
  · have a := h.1 q
    have b := h'.1 q
    omega
  · obtain ⟨a1, a2, a3, a4, a5⟩ := h.2 (by omega)
    obtain ⟨b1, b2, b3, b4, b5⟩ := h'.2 (by omega)
    have e1 := hG w a1 a2
    have e2 := hG w' b1 b2
    have u1 := a4 w' b1 b2
    have u2 := b4 w a1 a2
    rcases Int.lt_trichotomy w w' with c | c | c
    · have := b5 w a1 c
      omega
    · exact ⟨c, by omega⟩
    · have := a5 w' b1 c
      omega
/-- tries one behind the other, each with what it gives -/
def obS (Q : Int → Int → Prop) (i w v : Int) : Prop := ∃ G, (∀ d, 0 ≤ d → d < i → Q d (G d)) ∧ amx i w v G
theorem obS_z {Q : Int → Int → Prop} : obS Q 0 (-1) (-1) := ⟨fun _ => 0, fun d h1 h2 => by omega, amx_z⟩
theorem amx_cg {i w v : Int} {G G' : Int → Int} (h : amx i w v G) (hG : ∀ j, 0 ≤ j → j < i → G' j = G j) : amx i w v G' := by
  refine ⟨h.1, fun h0 => ?_⟩
  obtain ⟨a1, a2, a3, a4, a5⟩ := h.2 h0
  exact ⟨a1, a2, by rw [hG w a1 a2]; exact a3, fun j h1 h2 => by rw [hG j h1 h2]; exact a4 j h1 h2, fun j h1 h2 => by rw [hG j h1 (by omega)]; exact a5 j h1 h2⟩
theorem obS_t {Q : Int → Int → Prop} {i w v x : Int} (h : obS Q i w v) (hi : 0 ≤ i) (hq : Q i x) (hv : v < x) (hx : 0 ≤ x) : obS Q (i + 1) i x := by
  obtain ⟨G, g1, g2⟩ := h
  have e : updI G i x i = x := updI_at _ _ _
  refine ⟨updI G i x, fun d h1 h2 => ?_, ?_⟩
  · by_cases q : d = i
    · rw [q, e]; exact hq
    · rw [updI_ne q]; exact g1 d h1 (by omega)
  · have := amx_t (amx_cg g2 (G' := updI G i x) (fun j h1 h2 => updI_ne (by omega))) hi (by rw [e]; exact hv) (by rw [e]; exact hx)
    rw [e] at this
    exact this
theorem obS_k {Q : Int → Int → Prop} {i w v x : Int} (h : obS Q i w v) (hi : 0 ≤ i) (hq : Q i x) (hv : x ≤ v) (hx : 0 ≤ x) : obS Q (i + 1) w v := by
  obtain ⟨G, g1, g2⟩ := h
  have e : updI G i x i = x := updI_at _ _ _
  refine ⟨updI G i x, fun d h1 h2 => ?_, ?_⟩
  · by_cases q : d = i
    · rw [q, e]; exact hq
    · rw [updI_ne q]; exact g1 d h1 (by omega)
  · exact amx_k (amx_cg g2 (G' := updI G i x) (fun j h1 h2 => updI_ne (by omega))) hi (by rw [e]; exact hv) (by rw [e]; exact hx)
theorem obS_eq {Q Q' : Int → Int → Prop} {i w v w' v' : Int} (h : obS Q i w v) (h' : obS Q' i w' v') (hi : 0 ≤ i) (hQ : ∀ d x y, 0 ≤ d → d < i → Q d x → Q' d y → x = y) : w = w' ∧ v = v' := by
  obtain ⟨G, g1, g2⟩ := h
  obtain ⟨G', g1', g2'⟩ := h'
  exact amx_eq g2 g2' hi (fun j h1 h2 => hQ j _ _ h1 h2 (g1 j h1 h2) (g1' j h1 h2))
/-- how many fit behind a day -/
def fitQ (n m nk nl nt u h : Int) (so sz wh gr md du kd ko ld lw lm td tw tm : Int → Int) (d v : Int) : Prop := ∃ C T S, yX (5 * (d + 1)) n m nk nl nt u h so sz wh gr md du kd ko ld lw lm td tw tm C T S ∧ v = bcF (bitF C sz n)
/-- what is written of a coat behind a day -/
def cutF (f v : Int) : Int := if f = 0 then mI2b v else if f = 1 then mI2s v else v
def cutQ (f k n m nk nl nt u h : Int) (so sz wh gr md du kd ko ld lw lm td tw tm : Int → Int) (d v : Int) : Prop := ∃ C T S, yX (5 * (d + 1)) n m nk nl nt u h so sz wh gr md du kd ko ld lw lm td tw tm C T S ∧ v = cutF f (C k)
theorem rowX_0 {a b c d : Int → Int} : rowX 0 a b c d = a := if_pos rfl
theorem rowX_1 {a b c d : Int → Int} : rowX 1 a b c d = b := by unfold rowX; rw [if_neg (by omega), if_pos rfl]
theorem rowX_2 {a b c d : Int → Int} : rowX 2 a b c d = c := by unfold rowX; rw [if_neg (by omega), if_neg (by omega), if_pos rfl]
theorem rowX_3 {a b c d : Int → Int} : rowX 3 a b c d = d := by unfold rowX; rw [if_neg (by omega), if_neg (by omega), if_neg (by omega)]
def wcS (Q : Int → Int → Prop) (i s : Int) (q0 q1 q2 q3 r0 r1 r2 r3 : Int → Int) : Prop := (∀ d, 0 ≤ d → d < i → Q d (rowX s q0 q1 q2 q3 d)) ∧ (∀ d, ¬ (0 ≤ d ∧ d < i) → rowX s q0 q1 q2 q3 d = rowX s r0 r1 r2 r3 d) ∧ ∀ t, 0 ≤ t → t ≤ 3 → ¬ t = s → rowX t q0 q1 q2 q3 = rowX t r0 r1 r2 r3
theorem wcS_z {Q : Int → Int → Prop} {s : Int} {r0 r1 r2 r3 : Int → Int} : wcS Q 0 s r0 r1 r2 r3 r0 r1 r2 r3 := ⟨fun d h1 h2 => by omega, fun d _ => rfl, fun t _ _ _ => rfl⟩
theorem wcS_s {Q : Int → Int → Prop} {i s x : Int} {q0 q1 q2 q3 p0 p1 p2 p3 r0 r1 r2 r3 : Int → Int} (h : wcS Q i s q0 q1 q2 q3 r0 r1 r2 r3) (hi : 0 ≤ i) (e : rowX s p0 p1 p2 p3 = updI (rowX s q0 q1 q2 q3) i x) (hq : Q i x) (ho : ∀ t, 0 ≤ t → t ≤ 3 → ¬ t = s → rowX t p0 p1 p2 p3 = rowX t q0 q1 q2 q3) : wcS Q (i + 1) s p0 p1 p2 p3 r0 r1 r2 r3 := by
  obtain ⟨h1, h2, h3⟩ := h
  refine ⟨fun d d1 d2 => ?_, fun d hd => ?_, fun t t1 t2 t3 => (ho t t1 t2 t3).trans (h3 t t1 t2 t3)⟩
  · rw [e]
    by_cases q : d = i
    · rw [q, updI_at]; exact hq
    · rw [updI_ne q]; exact h1 d d1 (by omega)
  · rw [e, updI_ne (by omega)]
    exact h2 d (by omega)
/-! ===== the reference's year, told ===== -/
def toY (n m nk : Int) (L T so sz wh gr md du KD KO kd ko : Int → Int) : Prop := (∃ a b, rdP a n (L 0) T so sz ∧ rdV b m (L 1) (sh T) wh gr md du) ∧ ∀ j, 0 ≤ j → j < nk → KD j = kd j ∧ KO j = ko j
def yY (n m nk nl nt u h : Int) (so sz wh gr md du kd ko ld lw lm td tw tm CA TA SA C U S : Int → Int) : Prop := ∃ c t s, (C, U, S) = rnS (dyS n m m nk nl nt u h so sz wh gr md du kd ko ld lw lm td tw tm) (inS n m sz c t s) (24 : Int).toNat ∧ roS n m 24 (dyS n m m nk nl nt u h so sz wh gr md du kd ko ld lw lm td tw tm) (inS n m sz c t s) CA TA SA
theorem nP_ex (L : Int) (A : Int → Int) : ∃ n, nP n L A := by
  by_cases w : wellP L A
  · exact ⟨_, fun _ => rfl, fun h => absurd w h⟩
  · exact ⟨_, fun h => absurd h w, fun _ => rfl⟩
theorem nV_ex (L : Int) (A : Int → Int) : ∃ n, nV n L A := by
  by_cases w : wellV L A
  · exact ⟨_, fun _ => rfl, fun h => absurd w h⟩
  · exact ⟨_, fun h => absurd h w, fun _ => rfl⟩
theorem nP_un {n n' L : Int} {A : Int → Int} (h : nP n L A) (h' : nP n' L A) : n = n' := by
  by_cases w : wellP L A
  · rw [h.1 w, h'.1 w]
  · rw [h.2 w, h'.2 w]
theorem nV_un {n n' L : Int} {A : Int → Int} (h : nV n L A) (h' : nV n' L A) : n = n' := by
  by_cases w : wellV L A
  · rw [h.1 w, h'.1 w]
  · rw [h.2 w, h'.2 w]
theorem mOr_0 {b : Int} (h1 : -2147483648 ≤ b) (h2 : b ≤ 2147483647) : mOr b 0 = b := by
  unfold mOr
  rw [show Int32.ofInt 0 = 0 from rfl, Int32.or_zero, Int32.toInt_ofInt, show Int32.size = 4294967296 from rfl]
  exact Int.bmod_eq_of_le (by omega) (by omega)
/-- of k the first greatest -/
def lgS (k w : Int) (G : Int → Int) : Prop := (k = 0 → w = -1) ∧ (0 < k → 0 ≤ w ∧ w < k ∧ (∀ j, 0 ≤ j → j < k → G j ≤ G w) ∧ ∀ j, 0 ≤ j → j < w → G j < G w)
theorem lgS_z {G : Int → Int} : lgS 0 (-1) G := ⟨fun _ => rfl, fun h => by omega⟩
theorem lgS_1 {G : Int → Int} : lgS 1 0 G := ⟨fun h => by omega, fun _ => ⟨by omega, by omega, fun j h1 h2 => by rw [show j = 0 by omega]; exact Int.le_refl _, fun j h1 h2 => by omega⟩⟩
theorem lgS_t {k w : Int} {G : Int → Int} (h : lgS k w G) (hk : 0 ≤ k) (hv : w = -1 ∨ G w < G k) : lgS (k + 1) k G := by
  refine ⟨fun q => by omega, fun _ => ⟨hk, by omega, fun j h1 h2 => ?_, fun j h1 h2 => ?_⟩⟩
  · by_cases q : j = k
    · rw [q]; exact Int.le_refl _
    · obtain ⟨a1, a2, a3, a4⟩ := h.2 (by omega)
      have := a3 j h1 (by omega)
      omega
  · obtain ⟨a1, a2, a3, a4⟩ := h.2 (by omega)
    have := a3 j h1 h2
    omega
theorem lgS_k {k w : Int} {G : Int → Int} (h : lgS k w G) (hk : 0 ≤ k) (hw : ¬ w = -1) (hv : G k ≤ G w) : lgS (k + 1) w G := by
  have h0 : 0 < k := by
    by_cases q : k = 0
    · exact absurd (h.1 q) hw
    · omega
  obtain ⟨a1, a2, a3, a4⟩ := h.2 h0
  refine ⟨fun q => by omega, fun _ => ⟨a1, by omega, fun j h1 h2 => ?_, a4⟩⟩
  by_cases q : j = k
  · rw [q]; exact hv
  · exact a3 j h1 (by omega)
theorem lg_amx {k w w' v : Int} {G G' : Int → Int} (h : amx k w v G) (h' : lgS k w' G') (hk : 0 ≤ k) (hG : ∀ j, 0 ≤ j → j < k → G j = G' j) : w = w' := by
  by_cases q : k = 0
  · have a := (h.1 q).1
    have b := h'.1 q
    omega
  · obtain ⟨a1, a2, a3, a4, a5⟩ := h.2 (by omega)
    obtain ⟨b1, b2, b3, b4⟩ := h'.2 (by omega)
    have e1 := hG w a1 a2
    have e2 := hG w' b1 b2
    have u1 := a4 w' b1 b2
    have u2 := b3 w a1 a2
    rcases Int.lt_trichotomy w w' with c | c | c
    · have := b4 w a1 c
      omega
    · exact c
    · have := a5 w' b1 c
      omega
def atD (d : Int) (CA : Int → Int) : Int → Int := fun k => CA (8 * d + k)
/-! ===== the class: what runs a year; printed by wip/gen/x ===== -/
def P_wrX (l : List Int) (a : List (Int → Int)) : Prop := match l, a with
  | [r, k, s, n], [L, M] => (¬ (0 ≤ k ∧ k < n ∧ 0 ≤ s ∧ s ≤ 3) → r = -2) ∧ (0 ≤ k ∧ k < n ∧ 0 ≤ s ∧ s ≤ 3 → M s = -1 → r = -11) ∧ (0 ≤ k ∧ k < n ∧ 0 ≤ s ∧ s ≤ 3 → ¬ M s = -1 → L s ≤ 24 → r = L s) ∧ (0 ≤ k ∧ k < n ∧ 0 ≤ s ∧ s ≤ 3 → ¬ M s = -1 → 24 ≤ L s → r = 24)
  | _, _ => False
theorem hFp_147 {PT : PTy} {ρ : Nat → Int} {α : Nat → Int → Int} (l : List AN) (a : List Nat) : hF PT ρ α (147, l, a) = PT 147 (l.map (den ρ)) (a.map α) := rfl
def P_yx (l : List Int) (a : List (Int → Int)) : Prop := match l, a with
  | [d, n, m, nk, nl, nt, u, h], [so, sz, wh, gr, md, du, kd, ko, ld, lw, lm, td, tw, tm, C, T, S] => yX (5 * (d + 1)) n m nk nl nt u h so sz wh gr md du kd ko ld lw lm td tw tm C T S
  | _, _ => False
theorem hFp_148 {PT : PTy} {ρ : Nat → Int} {α : Nat → Int → Int} (l : List AN) (a : List Nat) : hF PT ρ α (148, l, a) = PT 148 (l.map (den ρ)) (a.map α) := rfl
def P_yi (l : List Int) (a : List (Int → Int)) : Prop := match l, a with
  | [b, d, n, m, nk, nl, nt, u, h], [so, sz, wh, gr, md, du, kd, ko, ld, lw, lm, td, tw, tm, f, C, T, S] => yI b (5 * d) n m nk nl nt u h so sz wh gr md du kd ko ld lw lm td tw tm f C T S
  | _, _ => False
theorem hFp_149 {PT : PTy} {ρ : Nat → Int} {α : Nat → Int → Int} (l : List AN) (a : List Nat) : hF PT ρ α (149, l, a) = PT 149 (l.map (den ρ)) (a.map α) := rfl
def P_ar2 (l : List Int) (a : List (Int → Int)) : Prop := match l, a with
  | [a, n, m, nk, nl, nt], [f, g, so, sz, wh, gr, md, du, kd, ko, ld, lw, lm, td, tw, tm] => prS a f g ∧ isL (aT n m nk nl nt wh md du kd ko ld lw td tw) a f g
  | _, _ => False
theorem hFp_150 {PT : PTy} {ρ : Nat → Int} {α : Nat → Int → Int} (l : List AN) (a : List Nat) : hF PT ρ α (150, l, a) = PT 150 (l.map (den ρ)) (a.map α) := rfl
def P_ocX (l : List Int) (a : List (Int → Int)) : Prop := match l, a with
  | [r, d, k, w, n, m, nk, nl, nt, u, h], [so, sz, wh, gr, md, du, kd, ko, ld, lw, lm, td, tw, tm, C, T, S] => (¬ (0 ≤ d ∧ d ≤ 23 ∧ 0 ≤ k ∧ k < n ∧ 0 ≤ w ∧ w ≤ 2) → r = -2) ∧ (0 ≤ d ∧ d ≤ 23 ∧ 0 ≤ k ∧ k < n ∧ 0 ≤ w ∧ w ≤ 2 → yX (5 * (d + 1)) n m nk nl nt u h so sz wh gr md du kd ko ld lw lm td tw tm C T S ∧ (w = 0 → r = C k) ∧ (w = 1 → fitP C sz k → r = 1) ∧ (w = 1 → ¬ fitP C sz k → r = 0) ∧ (w = 2 → r = T k))
  | _, _ => False
theorem hFp_151 {PT : PTy} {ρ : Nat → Int} {α : Nat → Int → Int} (l : List AN) (a : List Nat) : hF PT ρ α (151, l, a) = PT 151 (l.map (den ρ)) (a.map α) := rfl
def P_osX (l : List Int) (a : List (Int → Int)) : Prop := match l, a with
  | [r, d, k, n, m, nk, nl, nt, u, h], [so, sz, wh, gr, md, du, kd, ko, ld, lw, lm, td, tw, tm, C, T, S] => (¬ (0 ≤ d ∧ d ≤ 23 ∧ 0 ≤ k ∧ k < m) → r = -2) ∧ (0 ≤ d ∧ d ≤ 23 ∧ 0 ≤ k ∧ k < m → yX (5 * (d + 1)) n m nk nl nt u h so sz wh gr md du kd ko ld lw lm td tw tm C T S ∧ r = S k)
  | _, _ => False
theorem hFp_152 {PT : PTy} {ρ : Nat → Int} {α : Nat → Int → Int} (l : List AN) (a : List Nat) : hF PT ρ α (152, l, a) = PT 152 (l.map (den ρ)) (a.map α) := rfl
def P_onX (l : List Int) (a : List (Int → Int)) : Prop := match l, a with
  | [r, d, n, m, nk, nl, nt, u, h], [so, sz, wh, gr, md, du, kd, ko, ld, lw, lm, td, tw, tm, C, T, S] => (¬ (0 ≤ d ∧ d ≤ 23) → r = -2) ∧ (0 ≤ d ∧ d ≤ 23 → yX (5 * (d + 1)) n m nk nl nt u h so sz wh gr md du kd ko ld lw lm td tw tm C T S ∧ r = bitF C sz n)
  | _, _ => False
theorem hFp_153 {PT : PTy} {ρ : Nat → Int} {α : Nat → Int → Int} (l : List AN) (a : List Nat) : hF PT ρ α (153, l, a) = PT 153 (l.map (den ρ)) (a.map α) := rfl
def P_okX (l : List Int) (a : List (Int → Int)) : Prop := match l, a with
  | [r, d, n, m, nk, nl, nt, u, h], [so, sz, wh, gr, md, du, kd, ko, ld, lw, lm, td, tw, tm, C, T, S] => (¬ (0 ≤ d ∧ d ≤ 23) → r = -2) ∧ (0 ≤ d ∧ d ≤ 23 → yX (5 * (d + 1)) n m nk nl nt u h so sz wh gr md du kd ko ld lw lm td tw tm C T S ∧ r = nkdF C n)
  | _, _ => False
theorem hFp_154 {PT : PTy} {ρ : Nat → Int} {α : Nat → Int → Int} (l : List AN) (a : List Nat) : hF PT ρ α (154, l, a) = PT 154 (l.map (den ρ)) (a.map α) := rfl
def P_olX (l : List Int) (a : List (Int → Int)) : Prop := match l, a with
  | [r, d, n, m, nk, nl, nt, u, h], [so, sz, wh, gr, md, du, kd, ko, ld, lw, lm, td, tw, tm, C, T, S] => (¬ (0 ≤ d ∧ d ≤ 23) → r = -2) ∧ (0 ≤ d ∧ d ≤ 23 → yX (5 * (d + 1)) n m nk nl nt u h so sz wh gr md du kd ko ld lw lm td tw tm C T S ∧ ∃ v, amx n r v C)
  | _, _ => False
theorem hFp_155 {PT : PTy} {ρ : Nat → Int} {α : Nat → Int → Int} (l : List AN) (a : List Nat) : hF PT ρ α (155, l, a) = PT 155 (l.map (den ρ)) (a.map α) := rfl
def P_opX (l : List Int) (a : List (Int → Int)) : Prop := match l, a with
  | [r, n, m, nk, nl, nt, u, h], [so, sz, wh, gr, md, du, kd, ko, ld, lw, lm, td, tw, tm, C, T, S] => yX (5 * (23 + 1)) n m nk nl nt u h so sz wh gr md du kd ko ld lw lm td tw tm C T S ∧ r = rpsF T n
  | _, _ => False
theorem hFp_156 {PT : PTy} {ρ : Nat → Int} {α : Nat → Int → Int} (l : List AN) (a : List Nat) : hF PT ρ α (156, l, a) = PT 156 (l.map (den ρ)) (a.map α) := rfl
def P_amC (l : List Int) (a : List (Int → Int)) : Prop := match l, a with
  | [i, w, v], [C] => amx i w v C
  | _, _ => False
theorem hFp_157 {PT : PTy} {ρ : Nat → Int} {α : Nat → Int → Int} (l : List AN) (a : List Nat) : hF PT ρ α (157, l, a) = PT 157 (l.map (den ρ)) (a.map α) := rfl
def P_obI (l : List Int) (a : List (Int → Int)) : Prop := match l, a with
  | [i, w, v, n, m, nk, nl, nt, u, h], [so, sz, wh, gr, md, du, kd, ko, ld, lw, lm, td, tw, tm] => obS (fitQ n m nk nl nt u h so sz wh gr md du kd ko ld lw lm td tw tm) i w v
  | _, _ => False
theorem hFp_158 {PT : PTy} {ρ : Nat → Int} {α : Nat → Int → Int} (l : List AN) (a : List Nat) : hF PT ρ α (158, l, a) = PT 158 (l.map (den ρ)) (a.map α) := rfl
def P_obX (l : List Int) (a : List (Int → Int)) : Prop := match l, a with
  | [r, n, m, nk, nl, nt, u, h], [so, sz, wh, gr, md, du, kd, ko, ld, lw, lm, td, tw, tm] => (n = 0 → r = -1) ∧ (0 < n → ∃ v, obS (fitQ n m nk nl nt u h so sz wh gr md du kd ko ld lw lm td tw tm) 24 r v)
  | _, _ => False
theorem hFp_159 {PT : PTy} {ρ : Nat → Int} {α : Nat → Int → Int} (l : List AN) (a : List Nat) : hF PT ρ α (159, l, a) = PT 159 (l.map (den ρ)) (a.map α) := rfl
def P_bc (l : List Int) (a : List (Int → Int)) : Prop := match l, a with
  | [r, x], [] => r = bcF x
  | _, _ => False
theorem hFp_160 {PT : PTy} {ρ : Nat → Int} {α : Nat → Int → Int} (l : List AN) (a : List Nat) : hF PT ρ α (160, l, a) = PT 160 (l.map (den ρ)) (a.map α) := rfl
def P_wcX (l : List Int) (a : List (Int → Int)) : Prop := match l, a with
  | [i, k, s, n, m, nk, nl, nt, u, h], [so, sz, wh, gr, md, du, kd, ko, ld, lw, lm, td, tw, tm, M, r0, r1, r2, r3, q0, q1, q2, q3] => wcS (cutQ (M s) k n m nk nl nt u h so sz wh gr md du kd ko ld lw lm td tw tm) i s q0 q1 q2 q3 r0 r1 r2 r3
  | _, _ => False
theorem hFp_161 {PT : PTy} {ρ : Nat → Int} {α : Nat → Int → Int} (l : List AN) (a : List Nat) : hF PT ρ α (161, l, a) = PT 161 (l.map (den ρ)) (a.map α) := rfl
def P_owX (l : List Int) (a : List (Int → Int)) : Prop := match l, a with
  | [r, k, s, g, G, n, m, nk, nl, nt, u, h], [so, sz, wh, gr, md, du, kd, ko, ld, lw, lm, td, tw, tm, L, M, r0, r1, r2, r3, q0, q1, q2, q3] => (¬ (0 ≤ k ∧ k < n ∧ 0 ≤ s ∧ s ≤ 3) → r = -2 ∧ G = g ∧ q0 = r0 ∧ q1 = r1 ∧ q2 = r2 ∧ q3 = r3) ∧ (0 ≤ k ∧ k < n ∧ 0 ≤ s ∧ s ≤ 3 → M s = -1 → r = -11 ∧ G = 1 ∧ q0 = r0 ∧ q1 = r1 ∧ q2 = r2 ∧ q3 = r3) ∧ (0 ≤ k ∧ k < n ∧ 0 ≤ s ∧ s ≤ 3 → ¬ M s = -1 → (L s ≤ 24 → r = L s) ∧ (24 ≤ L s → r = 24) ∧ G = g ∧ wcS (cutQ (M s) k n m nk nl nt u h so sz wh gr md du kd ko ld lw lm td tw tm) r s q0 q1 q2 q3 r0 r1 r2 r3)
  | _, _ => False
theorem hFp_162 {PT : PTy} {ρ : Nat → Int} {α : Nat → Int → Int} (l : List AN) (a : List Nat) : hF PT ρ α (162, l, a) = PT 162 (l.map (den ρ)) (a.map α) := rfl
def HP11 (PT : PTy) : Prop := HP10 PT ∧ (PT 147 = P_wrX ∧ PT 148 = P_yx ∧ PT 149 = P_yi ∧ PT 150 = P_ar2 ∧ PT 151 = P_ocX ∧ PT 152 = P_osX ∧ PT 153 = P_onX ∧ PT 154 = P_okX ∧ PT 155 = P_olX ∧ PT 156 = P_opX ∧ PT 157 = P_amC ∧ PT 158 = P_obI ∧ PT 159 = P_obX ∧ PT 160 = P_bc ∧ PT 161 = P_wcX ∧ PT 162 = P_owX ∧ True)
def c_liveX : XC := (89, 3, (bX ++ [(0, 23)]), [.inr (.inl 0), .inl (some 14, 0)], (gX 999), [], [((bX ++ [(0, 23), (0, 49), (0, 49)]), none, (hst (gX 14) [(5, .inr (.inr (.inr (0, [.inr (.inl 6), .inr (.inl 9), .inr (.inl 14), .inr (.inl 18), .inr (.inl 22), .inr (.inl 26), .inr (.inl 27), .inr (.inl 28), .inr (.inl 29), .inr (.inl 30), .inl (some 15, 0), .inl (some 16, 0), .inl (none, 0), .inl (none, 0), .inr (.inl 14)]))))]), (ansT 58 [(26, 58), (27, 59), (28, 60), (29, 61), (30, 62)]), 63, [(148, [(some 14, 0), (some 2, 0), (some 3, 0), (some 4, 0), (some 5, 0), (some 6, 0), (none, 0), (none, 0)], [7, 8, 10, 11, 12, 13, 15, 16, 19, 20, 21, 23, 24, 25, 60, 61, 62])])])
def h_liveX : List XH := []
def w_liveX_0_0 : VC := ((bX ++ [(0, 23), (0, 49)]), [(89, [], [8, 60, 61, 62]), (86, [(some 2, 0), (some 3, 0), (some 4, 0), (some 5, 0), (some 6, 0), (some 15, 0)], [58, 59, 10, 12, 13, 15, 16, 19, 20, 23, 24])], (87, [(some 15, 0)], [58, 59]))
theorem pe86_11 {PT : PTy} (hp : HP11 PT) : PT 86 = P_arr := hp.1.1.1.1.1.1.1.1.2.2.2.2.2.2.2.1
theorem pe87_11 {PT : PTy} (hp : HP11 PT) : PT 87 = P_pr := hp.1.1.1.1.1.1.1.1.2.2.2.2.2.2.2.2.1
theorem pe89_11 {PT : PTy} (hp : HP11 PT) : PT 89 = P_bg := hp.1.1.1.1.1.1.1.1.2.2.2.2.2.2.2.2.2.2.1
set_option maxRecDepth 20000 in
theorem v_liveX_0_0 {PT : PTy} (hp : HP11 PT) : vcOk PT w_liveX_0_0 := vc_in [(2, 0, 8), (3, 0, 11), (4, 0, 9), (5, 0, 6), (6, 0, 6), (15, 0, 49)] (by decide +kernel) (fun ρ α => by
  intro b2 b3 b4 b5 b6 b15 f0 f1 tt
  have e86 : PT 86 = P_arr := pe86_11 hp
  have e87 : PT 87 = P_pr := pe87_11 hp
  have e89 : PT 89 = P_bg := pe89_11 hp
  simp only [hFp_86, hFp_87, hFp_89, e86, e87, e89, P_arr, P_pr, P_bg, den_s, den_c, Int.add_zero, List.map_cons, List.map_nil] at f0 f1 ⊢
  exact (f1).1)
def w_liveX_0_1 : VC := ((bX ++ [(0, 23), (0, 49), (0, 49)]), [(91, [(none, 0), (some 16, 0), (some 15, 0), (some 14, 0), (none, 0), (none, 0)], [58, 59, 7, 8, 10, 11, 16, 20, 21, 24, 25, 60, 61, 62, 63, 64, 65]), (89, [], [8, 60, 61, 62]), (86, [(some 2, 0), (some 3, 0), (some 4, 0), (some 5, 0), (some 6, 0), (some 15, 0)], [58, 59, 10, 12, 13, 15, 16, 19, 20, 23, 24])], (148, [(some 14, 0), (some 2, 0), (some 3, 0), (some 4, 0), (some 5, 0), (some 6, 0), (none, 0), (none, 0)], [7, 8, 10, 11, 12, 13, 15, 16, 19, 20, 21, 23, 24, 25, 63, 64, 65]))
theorem pe91_11 {PT : PTy} (hp : HP11 PT) : PT 91 = P_adE := hp.1.1.1.1.1.1.1.1.2.2.2.2.2.2.2.2.2.2.2.2.1
theorem pe148_11 {PT : PTy} (hp : HP11 PT) : PT 148 = P_yx := hp.2.2.1
set_option maxRecDepth 20000 in
theorem v_liveX_0_1 {PT : PTy} (hp : HP11 PT) : vcOk PT w_liveX_0_1 := vc_in [(2, 0, 8), (3, 0, 11), (4, 0, 9), (5, 0, 6), (6, 0, 6), (14, 0, 23), (15, 0, 49), (16, 0, 49)] (by decide +kernel) (fun ρ α => by
  intro b2 b3 b4 b5 b6 b14 b15 b16 f0 f1 f2 tt
  have e86 : PT 86 = P_arr := pe86_11 hp
  have e89 : PT 89 = P_bg := pe89_11 hp
  have e91 : PT 91 = P_adE := pe91_11 hp
  have e148 : PT 148 = P_yx := pe148_11 hp
  simp only [hFp_86, hFp_89, hFp_91, hFp_148, e86, e89, e91, e148, P_arr, P_bg, P_adE, P_yx, den_s, den_c, Int.add_zero, List.map_cons, List.map_nil] at f0 f1 f2 ⊢
  first | omega | exact yX_by (f2).2 f1 f0)
set_option maxRecDepth 1000000 in
theorem k_liveX {PT : PTy} (hp : HP11 PT) : wfX c_liveX = true ∧ xcOk PT c_liveX := xctr (xl (k_arrange14 hp.1.1.1.1.1.1.1.1) (xl (k_begin14 hp.1.1.1.1.1.1.1) (xl (k_advance14 hp.1.1.1.1.1.1.1) (xl0)))) c_liveX 33 mX6_liveUntil rfl h_liveX (by decide +kernel) (by decide +kernel) (by decide) (vcs_by [w_liveX_0_0, w_liveX_0_1] (by decide +kernel) (vc (v_liveX_0_0 hp) (vc (v_liveX_0_1 hp) vn))) fmn
def c_bitCount : XC := (201, 0, (bX ++ [((-2147483648), 2147483647)]), [.inl (some 14, 0)], (gX 14), [], [((bX ++ [((-2147483648), 2147483647), ((-2147483648), 2147483647)]), some (.inl (some 15, 0)), (gX 14), (List.range 58), 58, [(160, [(some 15, 0), (some 14, 0)], [])])])
def h_bitCount : List XH := []
def w_bitCount_0_0 : VC := ((bX ++ List.replicate 13 ((-2147483648), 2147483647) ++ [(0, 65535), ((-2147483648), 2147483647), ((-2147483648), 2147483647)]), [(10, [(some 29, 0), (some 28, 0), (none, 63)], []), (16, [(some 28, 0), (some 26, 0), (some 27, 0)], []), (15, [(some 27, 0), (some 26, 0), (none, 16)], []), (16, [(some 26, 0), (some 24, 0), (some 25, 0)], []), (15, [(some 25, 0), (some 24, 0), (none, 8)], []), (10, [(some 24, 0), (some 23, 0), (none, 252645135)], []), (16, [(some 23, 0), (some 21, 0), (some 22, 0)], []), (15, [(some 22, 0), (some 21, 0), (none, 4)], []), (16, [(some 21, 0), (some 18, 0), (some 20, 0)], []), (10, [(some 20, 0), (some 19, 0), (none, 858993459)], []), (15, [(some 19, 0), (some 17, 0), (none, 2)], []), (10, [(some 18, 0), (some 17, 0), (none, 858993459)], []), (29, [(some 17, 0), (some 14, 0), (some 16, 0)], []), (10, [(some 16, 0), (some 15, 0), (none, 1431655765)], []), (15, [(some 15, 0), (some 14, 0), (none, 1)], [])], (160, [(some 29, 0), (some 14, 0)], []))
theorem pe160_11 {PT : PTy} (hp : HP11 PT) : PT 160 = P_bc := hp.2.2.2.2.2.2.2.2.2.2.2.2.2.2.1
set_option maxRecDepth 20000 in
theorem v_bitCount_0_0 {PT : PTy} (hp : HP11 PT) : vcOk PT w_bitCount_0_0 := vc_iv [(14, (-2147483648), 2147483647), (15, (-2147483648), 2147483647), (16, (-2147483648), 2147483647), (17, (-2147483648), 2147483647), (18, (-2147483648), 2147483647), (19, (-2147483648), 2147483647), (20, (-2147483648), 2147483647), (21, (-2147483648), 2147483647), (22, (-2147483648), 2147483647), (23, (-2147483648), 2147483647), (24, (-2147483648), 2147483647), (25, (-2147483648), 2147483647), (26, (-2147483648), 2147483647), (27, 0, 65535), (28, (-2147483648), 2147483647), (29, (-2147483648), 2147483647)] [] (by decide +kernel) (fun ρ α => by
  intro r14 g14 b14 r15 g15 b15 r16 g16 b16 r17 g17 b17 r18 g18 b18 r19 g19 b19 r20 g20 b20 r21 g21 b21 r22 g22 b22 r23 g23 b23 r24 g24 b24 r25 g25 b25 r26 g26 b26 r27 g27 b27 r28 g28 b28 r29 g29 b29 f0 f1 f2 f3 f4 f5 f6 f7 f8 f9 f10 f11 f12 f13 f14 tt
  have e160 : PT 160 = P_bc := pe160_11 hp
  simp only [hF10, hF15, hF16, hF29, hFp_160, e160, P_bc, den_s, den_c, Int.add_zero, List.map_cons, List.map_nil, g14.eq, g15.eq, g16.eq, g17.eq, g18.eq, g19.eq, g20.eq, g21.eq, g22.eq, g23.eq, g24.eq, g25.eq, g26.eq, g27.eq, g28.eq, g29.eq] at f0 f1 f2 f3 f4 f5 f6 f7 f8 f9 f10 f11 f12 f13 f14 ⊢
  subst f0
  subst f1
  subst f2
  subst f3
  subst f4
  subst f5
  subst f6
  subst f7
  subst f8
  subst f9
  subst f10
  subst f11
  subst f12
  subst f13
  subst f14
  rfl)
set_option maxRecDepth 1000000 in
theorem k_bitCount {PT : PTy} (hp : HP11 PT) : wfX c_bitCount = true ∧ xcOk PT c_bitCount := xctr (xl0) c_bitCount 62 mJ6_bitCount_0f7a4 rfl h_bitCount (by decide +kernel) (by decide +kernel) (by decide) (vcs_by [w_bitCount_0_0] (by decide +kernel) (vc (v_bitCount_0_0 hp) vn)) fmn
def c_xo_writeC : XC := (77, 3, (bT ++ [((-2147483648), 2147483647), ((-2147483648), 2147483647)]), [.inr (.inl 0), .inl (some 14, 0), .inl (some 15, 0)], (gX 999), [], [((bT ++ [((-2147483648), 2147483647), ((-2147483648), 2147483647), ((-11), 24), (0, 5), (0, 49), (0, 49), ((-2147483648), 2147483647), ((-2147483648), 2147483647)]), some (.inl (some 16, 0)), (hst (gX 999) [(0, .inr (.inr (.inr (6, [.inr (.inl 1), .inr (.inl 3), .inr (.inl 5), .inr (.inl 6), .inr (.inl 9), .inr (.inl 14), .inr (.inl 18), .inr (.inl 22), .inr (.inl 31), .inr (.inl 35), .inr (.inl 39), .inr (.inl 47), .inl (some 17, 0)])))), (5, .inr (.inr (.inr (0, [.inr (.inl 6), .inr (.inl 9), .inr (.inl 14), .inr (.inl 18), .inr (.inl 22), .inr (.inl 26), .inr (.inl 27), .inr (.inl 28), .inr (.inl 29), .inr (.inl 30), .inl (some 18, 0), .inl (some 19, 0), .inl (some 20, 0), .inl (some 21, 0), .inr (.inl 999)]))))]), (ansT 58 [(26, 58), (27, 59), (28, 60), (29, 61), (30, 62), (41, 63), (42, 64), (43, 65), (44, 66)]), 67, [(162, [(some 16, 0), (some 14, 0), (some 15, 0), (some 13, 0), (some 17, 0), (some 2, 0), (some 3, 0), (some 4, 0), (some 5, 0), (some 6, 0), (none, 0), (none, 0)], [7, 8, 10, 11, 12, 13, 15, 16, 19, 20, 21, 23, 24, 25, 45, 46, 41, 42, 43, 44, 63, 64, 65, 66])])])
def h_xo_writeC : List XH := [(74, ([(0, 23), (0, 49), (1, 8), (0, 10), (0, 8), (0, 6), (0, 6), (0, 8), (0, 9), (0, 49), (0, 49), ((-2147483648), 2147483647), ((-2147483648), 2147483647), (0, 5), (0, 7), (0, 3), (0, 24), (0, 24), (0, 49), (0, 49)]), [some (.inr (.inl 0)), some (.inl (some 14, 0)), some (.inl (some 15, 0)), some (.inl (some 16, 0)), some (.inl (some 17, 0))], (hst (gX 14) [(5, .inr (.inr (.inr (0, [.inr (.inl 6), .inr (.inl 9), .inr (.inl 14), .inr (.inl 18), .inr (.inl 22), .inr (.inl 26), .inr (.inl 27), .inr (.inl 28), .inr (.inl 29), .inr (.inl 30), .inl (some 18, 0), .inl (some 19, 0), .inl (none, 0), .inl (none, 0), .inr (.inl 14)]))))]), (ansT 58 [(26, 58), (27, 59), (28, 60), (29, 61), (30, 62), (41, 63), (42, 64), (43, 65), (44, 66)]), 67, [(150, [(some 18, 0), (some 2, 0), (some 3, 0), (some 4, 0), (some 5, 0), (some 6, 0)], [58, 59, 7, 8, 10, 11, 12, 13, 15, 16, 19, 20, 21, 23, 24, 25]), (149, [(some 19, 0), (some 17, 0), (some 2, 0), (some 3, 0), (some 4, 0), (some 5, 0), (some 6, 0), (none, 0), (none, 0)], [7, 8, 10, 11, 12, 13, 15, 16, 19, 20, 21, 23, 24, 25, 58, 60, 61, 62]), (147, [(some 16, 0), (some 14, 0), (some 15, 0), (some 2, 0)], [45, 46]), (161, [(some 17, 0), (some 14, 0), (some 15, 0), (some 2, 0), (some 3, 0), (some 4, 0), (some 5, 0), (some 6, 0), (none, 0), (none, 0)], [7, 8, 10, 11, 12, 13, 15, 16, 19, 20, 21, 23, 24, 25, 46, 41, 42, 43, 44, 63, 64, 65, 66]), (3, [(some 16, 0), (some 17, 0)], []), (3, [(some 15, 0), (none, 0)], []), (3, [(none, 3), (some 15, 0)], []), (3, [(some 14, 0), (none, 0)], []), (2, [(some 14, 0), (some 2, 0)], [])], [(true, (none, 1)), (true, (some 17, 0))])]
def w_xo_writeC_0_0 : VC := ((bT ++ [((-2147483648), (-1)), ((-2147483648), 2147483647)]), [(0, [(none, 0), (none, 0)], []), (2, [(some 14, 0), (none, 0)], [])], (162, [(none, (-2)), (some 14, 0), (some 15, 0), (some 13, 0), (some 13, 0), (some 2, 0), (some 3, 0), (some 4, 0), (some 5, 0), (some 6, 0), (none, 0), (none, 0)], [7, 8, 10, 11, 12, 13, 15, 16, 19, 20, 21, 23, 24, 25, 45, 46, 41, 42, 43, 44, 41, 42, 43, 44]))
theorem pe162_11 {PT : PTy} (hp : HP11 PT) : PT 162 = P_owX := hp.2.2.2.2.2.2.2.2.2.2.2.2.2.2.2.2.1
set_option maxRecDepth 20000 in
theorem v_xo_writeC_0_0 {PT : PTy} (hp : HP11 PT) : vcOk PT w_xo_writeC_0_0 := vc_iv [(2, 0, 8), (3, 0, 10), (4, 0, 8), (5, 0, 6), (6, 0, 6), (13, 0, 5), (14, (-2147483648), (-1)), (15, (-2147483648), 2147483647)] [7, 8, 10, 11, 12, 13, 15, 16, 19, 20, 21, 23, 24, 25, 41, 42, 43, 44, 45, 46] (by decide +kernel) (fun ρ α => by
  intro r2 g2 b2 r3 g3 b3 r4 g4 b4 r5 g5 b5 r6 g6 b6 r13 g13 b13 r14 g14 b14 r15 g15 b15 a7 h7 a8 h8 a10 h10 a11 h11 a12 h12 a13 h13 a15 h15 a16 h16 a19 h19 a20 h20 a21 h21 a23 h23 a24 h24 a25 h25 a41 h41 a42 h42 a43 h43 a44 h44 a45 h45 a46 h46 f0 f1 tt
  clear f0 f1
  have e162 : PT 162 = P_owX := pe162_11 hp
  simp only [hFp_162, e162, P_owX, den_s, den_c, Int.add_zero, List.map_cons, List.map_nil, g2.eq, g3.eq, g4.eq, g5.eq, g6.eq, g13.eq, g14.eq, g15.eq, h7, h8, h10, h11, h12, h13, h15, h16, h19, h20, h21, h23, h24, h25, h41, h42, h43, h44, h45, h46] at ⊢
  ((repeat' (first | apply And.intro | intro h)) <;> first | omega | rfl | trivial | (exfalso; omega) | (congr 1; omega) | (congr 1; (repeat' split) <;> first | rfl | (exfalso; omega))))
def w_xo_writeC_0_1 : VC := ((bT ++ [(0, 2147483647), ((-2147483648), 2147483647)]), [(0, [(none, 0), (none, 0)], []), (3, [(some 14, 0), (some 2, 0)], []), (3, [(some 14, 0), (none, 0)], [])], (162, [(none, (-2)), (some 14, 0), (some 15, 0), (some 13, 0), (some 13, 0), (some 2, 0), (some 3, 0), (some 4, 0), (some 5, 0), (some 6, 0), (none, 0), (none, 0)], [7, 8, 10, 11, 12, 13, 15, 16, 19, 20, 21, 23, 24, 25, 45, 46, 41, 42, 43, 44, 41, 42, 43, 44]))
set_option maxRecDepth 20000 in
theorem v_xo_writeC_0_1 {PT : PTy} (hp : HP11 PT) : vcOk PT w_xo_writeC_0_1 := vc_iv [(2, 0, 8), (3, 0, 10), (4, 0, 8), (5, 0, 6), (6, 0, 6), (13, 0, 5), (14, 0, 2147483647), (15, (-2147483648), 2147483647)] [7, 8, 10, 11, 12, 13, 15, 16, 19, 20, 21, 23, 24, 25, 41, 42, 43, 44, 45, 46] (by decide +kernel) (fun ρ α => by
  intro r2 g2 b2 r3 g3 b3 r4 g4 b4 r5 g5 b5 r6 g6 b6 r13 g13 b13 r14 g14 b14 r15 g15 b15 a7 h7 a8 h8 a10 h10 a11 h11 a12 h12 a13 h13 a15 h15 a16 h16 a19 h19 a20 h20 a21 h21 a23 h23 a24 h24 a25 h25 a41 h41 a42 h42 a43 h43 a44 h44 a45 h45 a46 h46 f0 f1 f2 tt
  clear f0 f2
  have e162 : PT 162 = P_owX := pe162_11 hp
  simp only [hF3, hFp_162, e162, P_owX, den_s, den_c, Int.add_zero, List.map_cons, List.map_nil, g2.eq, g3.eq, g4.eq, g5.eq, g6.eq, g13.eq, g14.eq, g15.eq, h7, h8, h10, h11, h12, h13, h15, h16, h19, h20, h21, h23, h24, h25, h41, h42, h43, h44, h45, h46] at f1 ⊢
  ((repeat' (first | apply And.intro | intro h)) <;> first | omega | rfl | trivial | (exfalso; omega) | (congr 1; omega) | (congr 1; (repeat' split) <;> first | rfl | (exfalso; omega))))
def w_xo_writeC_0_2 : VC := (([(0, 23), (0, 49), (1, 8), (0, 10), (0, 8), (0, 6), (0, 6), (0, 8), (0, 9), (0, 49), (0, 49), ((-2147483648), 2147483647), ((-2147483648), 2147483647), (0, 5), (0, 7), ((-2147483648), (-1))]), [(0, [(none, 0), (none, 0)], []), (2, [(some 15, 0), (none, 0)], []), (1, [(none, 1), (none, 0)], []), (2, [(some 14, 0), (some 2, 0)], []), (3, [(some 14, 0), (none, 0)], [])], (162, [(none, (-2)), (some 14, 0), (some 15, 0), (some 13, 0), (some 13, 0), (some 2, 0), (some 3, 0), (some 4, 0), (some 5, 0), (some 6, 0), (none, 0), (none, 0)], [7, 8, 10, 11, 12, 13, 15, 16, 19, 20, 21, 23, 24, 25, 45, 46, 41, 42, 43, 44, 41, 42, 43, 44]))
set_option maxRecDepth 20000 in
theorem v_xo_writeC_0_2 {PT : PTy} (hp : HP11 PT) : vcOk PT w_xo_writeC_0_2 := vc_iv [(2, 1, 8), (3, 0, 10), (4, 0, 8), (5, 0, 6), (6, 0, 6), (13, 0, 5), (14, 0, 7), (15, (-2147483648), (-1))] [7, 8, 10, 11, 12, 13, 15, 16, 19, 20, 21, 23, 24, 25, 41, 42, 43, 44, 45, 46] (by decide +kernel) (fun ρ α => by
  intro r2 g2 b2 r3 g3 b3 r4 g4 b4 r5 g5 b5 r6 g6 b6 r13 g13 b13 r14 g14 b14 r15 g15 b15 a7 h7 a8 h8 a10 h10 a11 h11 a12 h12 a13 h13 a15 h15 a16 h16 a19 h19 a20 h20 a21 h21 a23 h23 a24 h24 a25 h25 a41 h41 a42 h42 a43 h43 a44 h44 a45 h45 a46 h46 f0 f1 f2 f3 f4 tt
  clear f0 f1 f2 f4
  have e162 : PT 162 = P_owX := pe162_11 hp
  simp only [hF2, hFp_162, e162, P_owX, den_s, den_c, Int.add_zero, List.map_cons, List.map_nil, g2.eq, g3.eq, g4.eq, g5.eq, g6.eq, g13.eq, g14.eq, g15.eq, h7, h8, h10, h11, h12, h13, h15, h16, h19, h20, h21, h23, h24, h25, h41, h42, h43, h44, h45, h46] at f3 ⊢
  ((repeat' (first | apply And.intro | intro h)) <;> first | omega | rfl | trivial | (exfalso; omega) | (congr 1; omega) | (congr 1; (repeat' split) <;> first | rfl | (exfalso; omega))))
def w_xo_writeC_0_3 : VC := (([(0, 23), (0, 49), (1, 8), (0, 10), (0, 8), (0, 6), (0, 6), (0, 8), (0, 9), (0, 49), (0, 49), ((-2147483648), 2147483647), ((-2147483648), 2147483647), (0, 5), (0, 7), (4, 2147483647)]), [(0, [(none, 0), (none, 0)], []), (2, [(none, 3), (some 15, 0)], []), (3, [(some 15, 0), (none, 0)], []), (1, [(none, 1), (none, 0)], []), (2, [(some 14, 0), (some 2, 0)], []), (3, [(some 14, 0), (none, 0)], [])], (162, [(none, (-2)), (some 14, 0), (some 15, 0), (some 13, 0), (some 13, 0), (some 2, 0), (some 3, 0), (some 4, 0), (some 5, 0), (some 6, 0), (none, 0), (none, 0)], [7, 8, 10, 11, 12, 13, 15, 16, 19, 20, 21, 23, 24, 25, 45, 46, 41, 42, 43, 44, 41, 42, 43, 44]))
set_option maxRecDepth 20000 in
theorem v_xo_writeC_0_3 {PT : PTy} (hp : HP11 PT) : vcOk PT w_xo_writeC_0_3 := vc_iv [(2, 1, 8), (3, 0, 10), (4, 0, 8), (5, 0, 6), (6, 0, 6), (13, 0, 5), (14, 0, 7), (15, 4, 2147483647)] [7, 8, 10, 11, 12, 13, 15, 16, 19, 20, 21, 23, 24, 25, 41, 42, 43, 44, 45, 46] (by decide +kernel) (fun ρ α => by
  intro r2 g2 b2 r3 g3 b3 r4 g4 b4 r5 g5 b5 r6 g6 b6 r13 g13 b13 r14 g14 b14 r15 g15 b15 a7 h7 a8 h8 a10 h10 a11 h11 a12 h12 a13 h13 a15 h15 a16 h16 a19 h19 a20 h20 a21 h21 a23 h23 a24 h24 a25 h25 a41 h41 a42 h42 a43 h43 a44 h44 a45 h45 a46 h46 f0 f1 f2 f3 f4 f5 tt
  clear f0 f1 f2 f3 f5
  have e162 : PT 162 = P_owX := pe162_11 hp
  simp only [hF2, hFp_162, e162, P_owX, den_s, den_c, Int.add_zero, List.map_cons, List.map_nil, g2.eq, g3.eq, g4.eq, g5.eq, g6.eq, g13.eq, g14.eq, g15.eq, h7, h8, h10, h11, h12, h13, h15, h16, h19, h20, h21, h23, h24, h25, h41, h42, h43, h44, h45, h46] at f4 ⊢
  ((repeat' (first | apply And.intro | intro h)) <;> first | omega | rfl | trivial | (exfalso; omega) | (congr 1; omega) | (congr 1; (repeat' split) <;> first | rfl | (exfalso; omega))))
def w_xo_writeC_0_4 : VC := (([(0, 23), (0, 49), (1, 8), (0, 10), (0, 8), (0, 6), (0, 6), (0, 8), (0, 9), (0, 49), (0, 49), ((-2147483648), 2147483647), ((-2147483648), 2147483647), (0, 5), (0, 7), (0, 3), (0, 2), (0, 60), (0, 24), (0, 49)]), [(89, [], [8, 60, 61, 62]), (86, [(some 2, 0), (some 3, 0), (some 4, 0), (some 5, 0), (some 6, 0), (some 19, 0)], [58, 59, 10, 12, 13, 15, 16, 19, 20, 23, 24]), (23, [(some 18, 0), (none, 24), (some 17, 0)], []), (20, [(some 17, 0), (some 15, 0)], [45]), (0, [(none, 0), (none, 0)], []), (1, [(some 16, 0), (none, (-1))], []), (20, [(some 16, 0), (some 15, 0)], [46]), (1, [(none, 1), (none, 0)], []), (3, [(none, 3), (some 15, 0)], []), (3, [(some 15, 0), (none, 0)], []), (1, [(none, 1), (none, 0)], []), (2, [(some 14, 0), (some 2, 0)], []), (3, [(some 14, 0), (none, 0)], [])], (150, [(some 19, 0), (some 2, 0), (some 3, 0), (some 4, 0), (some 5, 0), (some 6, 0)], [58, 59, 7, 8, 10, 11, 12, 13, 15, 16, 19, 20, 21, 23, 24, 25]))
theorem pe150_11 {PT : PTy} (hp : HP11 PT) : PT 150 = P_ar2 := hp.2.2.2.2.1
set_option maxRecDepth 20000 in
theorem v_xo_writeC_0_4 {PT : PTy} (hp : HP11 PT) : vcOk PT w_xo_writeC_0_4 := vc_in [(2, 1, 8), (3, 0, 10), (4, 0, 8), (5, 0, 6), (6, 0, 6), (14, 0, 7), (15, 0, 3), (16, 0, 2), (17, 0, 60), (18, 0, 24), (19, 0, 49)] (by decide +kernel) (fun ρ α => by
  intro b2 b3 b4 b5 b6 b14 b15 b16 b17 b18 b19 f0 f1 f2 f3 f4 f5 f6 f7 f8 f9 f10 f11 f12 tt
  clear f4 f5 f7 f8 f9 f10 f12
  have e86 : PT 86 = P_arr := pe86_11 hp
  have e89 : PT 89 = P_bg := pe89_11 hp
  have e150 : PT 150 = P_ar2 := pe150_11 hp
  simp only [hF2, hF20, hF23, hFp_86, hFp_89, hFp_150, e86, e89, e150, P_arr, P_bg, P_ar2, den_s, den_c, Int.add_zero, List.map_cons, List.map_nil] at f0 f1 f2 f3 f6 f11 ⊢
  exact f1)
def w_xo_writeC_0_5 : VC := (([(0, 23), (0, 49), (1, 8), (0, 10), (0, 8), (0, 6), (0, 6), (0, 8), (0, 9), (0, 49), (0, 49), ((-2147483648), 2147483647), ((-2147483648), 2147483647), (0, 5), (0, 7), (0, 3), (0, 2), (0, 60), (0, 24), (0, 49)]), [(89, [], [8, 60, 61, 62]), (86, [(some 2, 0), (some 3, 0), (some 4, 0), (some 5, 0), (some 6, 0), (some 19, 0)], [58, 59, 10, 12, 13, 15, 16, 19, 20, 23, 24]), (23, [(some 18, 0), (none, 24), (some 17, 0)], []), (20, [(some 17, 0), (some 15, 0)], [45]), (0, [(none, 0), (none, 0)], []), (1, [(some 16, 0), (none, (-1))], []), (20, [(some 16, 0), (some 15, 0)], [46]), (1, [(none, 1), (none, 0)], []), (3, [(none, 3), (some 15, 0)], []), (3, [(some 15, 0), (none, 0)], []), (1, [(none, 1), (none, 0)], []), (2, [(some 14, 0), (some 2, 0)], []), (3, [(some 14, 0), (none, 0)], [])], (149, [(none, 0), (none, 0), (some 2, 0), (some 3, 0), (some 4, 0), (some 5, 0), (some 6, 0), (none, 0), (none, 0)], [7, 8, 10, 11, 12, 13, 15, 16, 19, 20, 21, 23, 24, 25, 58, 60, 61, 62]))
theorem pe149_11 {PT : PTy} (hp : HP11 PT) : PT 149 = P_yi := hp.2.2.2.1
set_option maxRecDepth 20000 in
theorem v_xo_writeC_0_5 {PT : PTy} (hp : HP11 PT) : vcOk PT w_xo_writeC_0_5 := vc_in [(2, 1, 8), (3, 0, 10), (4, 0, 8), (5, 0, 6), (6, 0, 6), (14, 0, 7), (15, 0, 3), (16, 0, 2), (17, 0, 60), (18, 0, 24), (19, 0, 49)] (by decide +kernel) (fun ρ α => by
  intro b2 b3 b4 b5 b6 b14 b15 b16 b17 b18 b19 f0 f1 f2 f3 f4 f5 f6 f7 f8 f9 f10 f11 f12 tt
  clear f4 f5 f7 f8 f9 f10 f12
  have e86 : PT 86 = P_arr := pe86_11 hp
  have e89 : PT 89 = P_bg := pe89_11 hp
  have e149 : PT 149 = P_yi := pe149_11 hp
  simp only [hF2, hF20, hF23, hFp_86, hFp_89, hFp_149, e86, e89, e149, P_arr, P_bg, P_yi, den_s, den_c, Int.add_zero, List.map_cons, List.map_nil] at f0 f1 f2 f3 f6 f11 ⊢
  exact yI_z f0)
def w_xo_writeC_0_6 : VC := (([(0, 23), (0, 49), (1, 8), (0, 10), (0, 8), (0, 6), (0, 6), (0, 8), (0, 9), (0, 49), (0, 49), ((-2147483648), 2147483647), ((-2147483648), 2147483647), (0, 5), (0, 7), (0, 3), (0, 2), (0, 60), (0, 24), (0, 49)]), [(89, [], [8, 60, 61, 62]), (86, [(some 2, 0), (some 3, 0), (some 4, 0), (some 5, 0), (some 6, 0), (some 19, 0)], [58, 59, 10, 12, 13, 15, 16, 19, 20, 23, 24]), (23, [(some 18, 0), (none, 24), (some 17, 0)], []), (20, [(some 17, 0), (some 15, 0)], [45]), (0, [(none, 0), (none, 0)], []), (1, [(some 16, 0), (none, (-1))], []), (20, [(some 16, 0), (some 15, 0)], [46]), (1, [(none, 1), (none, 0)], []), (3, [(none, 3), (some 15, 0)], []), (3, [(some 15, 0), (none, 0)], []), (1, [(none, 1), (none, 0)], []), (2, [(some 14, 0), (some 2, 0)], []), (3, [(some 14, 0), (none, 0)], [])], (147, [(some 18, 0), (some 14, 0), (some 15, 0), (some 2, 0)], [45, 46]))
theorem pe147_11 {PT : PTy} (hp : HP11 PT) : PT 147 = P_wrX := hp.2.1
set_option maxRecDepth 20000 in
theorem v_xo_writeC_0_6 {PT : PTy} (hp : HP11 PT) : vcOk PT w_xo_writeC_0_6 := vc_iv [(2, 1, 8), (3, 0, 10), (4, 0, 8), (5, 0, 6), (6, 0, 6), (14, 0, 7), (15, 0, 3), (16, 0, 2), (17, 0, 60), (18, 0, 24), (19, 0, 49)] [8, 10, 12, 13, 15, 16, 19, 20, 23, 24, 45, 46, 58, 59, 60, 61, 62] (by decide +kernel) (fun ρ α => by
  intro r2 g2 b2 r3 g3 b3 r4 g4 b4 r5 g5 b5 r6 g6 b6 r14 g14 b14 r15 g15 b15 r16 g16 b16 r17 g17 b17 r18 g18 b18 r19 g19 b19 a8 h8 a10 h10 a12 h12 a13 h13 a15 h15 a16 h16 a19 h19 a20 h20 a23 h23 a24 h24 a45 h45 a46 h46 a58 h58 a59 h59 a60 h60 a61 h61 a62 h62 f0 f1 f2 f3 f4 f5 f6 f7 f8 f9 f10 f11 f12 tt
  clear f4 f5 f7 f8 f9 f10 f12
  have e86 : PT 86 = P_arr := pe86_11 hp
  have e89 : PT 89 = P_bg := pe89_11 hp
  have e147 : PT 147 = P_wrX := pe147_11 hp
  simp only [hF2, hF20, hF23, hFp_86, hFp_89, hFp_147, e86, e89, e147, P_arr, P_bg, P_wrX, den_s, den_c, Int.add_zero, List.map_cons, List.map_nil, g2.eq, g3.eq, g4.eq, g5.eq, g6.eq, g14.eq, g15.eq, g16.eq, g17.eq, g18.eq, g19.eq, h8, h10, h12, h13, h15, h16, h19, h20, h23, h24, h45, h46, h58, h59, h60, h61, h62] at f0 f1 f2 f3 f6 f11 ⊢
  subst f2
  subst f3
  subst f6
  ((repeat' (first | apply And.intro | intro h)) <;> first | omega | rfl | trivial | (exfalso; omega)))
def w_xo_writeC_0_7 : VC := (([(0, 23), (0, 49), (1, 8), (0, 10), (0, 8), (0, 6), (0, 6), (0, 8), (0, 9), (0, 49), (0, 49), ((-2147483648), 2147483647), ((-2147483648), 2147483647), (0, 5), (0, 7), (0, 3), (0, 2), (0, 60), (0, 24), (0, 49)]), [(89, [], [8, 60, 61, 62]), (86, [(some 2, 0), (some 3, 0), (some 4, 0), (some 5, 0), (some 6, 0), (some 19, 0)], [58, 59, 10, 12, 13, 15, 16, 19, 20, 23, 24]), (23, [(some 18, 0), (none, 24), (some 17, 0)], []), (20, [(some 17, 0), (some 15, 0)], [45]), (0, [(none, 0), (none, 0)], []), (1, [(some 16, 0), (none, (-1))], []), (20, [(some 16, 0), (some 15, 0)], [46]), (1, [(none, 1), (none, 0)], []), (3, [(none, 3), (some 15, 0)], []), (3, [(some 15, 0), (none, 0)], []), (1, [(none, 1), (none, 0)], []), (2, [(some 14, 0), (some 2, 0)], []), (3, [(some 14, 0), (none, 0)], [])], (161, [(none, 0), (some 14, 0), (some 15, 0), (some 2, 0), (some 3, 0), (some 4, 0), (some 5, 0), (some 6, 0), (none, 0), (none, 0)], [7, 8, 10, 11, 12, 13, 15, 16, 19, 20, 21, 23, 24, 25, 46, 41, 42, 43, 44, 41, 42, 43, 44]))
theorem pe161_11 {PT : PTy} (hp : HP11 PT) : PT 161 = P_wcX := hp.2.2.2.2.2.2.2.2.2.2.2.2.2.2.2.1
set_option maxRecDepth 20000 in
theorem v_xo_writeC_0_7 {PT : PTy} (hp : HP11 PT) : vcOk PT w_xo_writeC_0_7 := vc_in [(2, 1, 8), (3, 0, 10), (4, 0, 8), (5, 0, 6), (6, 0, 6), (14, 0, 7), (15, 0, 3), (16, 0, 2), (17, 0, 60), (18, 0, 24), (19, 0, 49)] (by decide +kernel) (fun ρ α => by
  intro b2 b3 b4 b5 b6 b14 b15 b16 b17 b18 b19 f0 f1 f2 f3 f4 f5 f6 f7 f8 f9 f10 f11 f12 tt
  clear f4 f5 f7 f8 f9 f10 f12
  have e86 : PT 86 = P_arr := pe86_11 hp
  have e89 : PT 89 = P_bg := pe89_11 hp
  have e161 : PT 161 = P_wcX := pe161_11 hp
  simp only [hF2, hF20, hF23, hFp_86, hFp_89, hFp_161, e86, e89, e161, P_arr, P_bg, P_wcX, den_s, den_c, Int.add_zero, List.map_cons, List.map_nil] at f0 f1 f2 f3 f6 f11 ⊢
  exact wcS_z)
def w_xo_writeC_0_8 : VC := (([(0, 23), (0, 49), (1, 8), (0, 10), (0, 8), (0, 6), (0, 6), (0, 8), (0, 9), (0, 49), (0, 49), ((-2147483648), 2147483647), ((-2147483648), 2147483647), (0, 5), (0, 7), (0, 3), (0, 2), (0, 60), (0, 24), (0, 49)]), [(89, [], [8, 60, 61, 62]), (86, [(some 2, 0), (some 3, 0), (some 4, 0), (some 5, 0), (some 6, 0), (some 19, 0)], [58, 59, 10, 12, 13, 15, 16, 19, 20, 23, 24]), (23, [(some 18, 0), (none, 24), (some 17, 0)], []), (20, [(some 17, 0), (some 15, 0)], [45]), (0, [(none, 0), (none, 0)], []), (1, [(some 16, 0), (none, (-1))], []), (20, [(some 16, 0), (some 15, 0)], [46]), (1, [(none, 1), (none, 0)], []), (3, [(none, 3), (some 15, 0)], []), (3, [(some 15, 0), (none, 0)], []), (1, [(none, 1), (none, 0)], []), (2, [(some 14, 0), (some 2, 0)], []), (3, [(some 14, 0), (none, 0)], [])], (3, [(some 18, 0), (none, 0)], []))
set_option maxRecDepth 20000 in
theorem v_xo_writeC_0_8 {PT : PTy} (hp : HP11 PT) : vcOk PT w_xo_writeC_0_8 := vc_iv [(2, 1, 8), (3, 0, 10), (4, 0, 8), (5, 0, 6), (6, 0, 6), (14, 0, 7), (15, 0, 3), (16, 0, 2), (17, 0, 60), (18, 0, 24), (19, 0, 49)] [8, 10, 12, 13, 15, 16, 19, 20, 23, 24, 45, 46, 58, 59, 60, 61, 62] (by decide +kernel) (fun ρ α => by
  intro r2 g2 b2 r3 g3 b3 r4 g4 b4 r5 g5 b5 r6 g6 b6 r14 g14 b14 r15 g15 b15 r16 g16 b16 r17 g17 b17 r18 g18 b18 r19 g19 b19 a8 h8 a10 h10 a12 h12 a13 h13 a15 h15 a16 h16 a19 h19 a20 h20 a23 h23 a24 h24 a45 h45 a46 h46 a58 h58 a59 h59 a60 h60 a61 h61 a62 h62 f0 f1 f2 f3 f4 f5 f6 f7 f8 f9 f10 f11 f12 tt
  clear f4 f5 f7 f8 f9 f10 f12
  have e86 : PT 86 = P_arr := pe86_11 hp
  have e89 : PT 89 = P_bg := pe89_11 hp
  simp only [hF2, hF3, hF20, hF23, hFp_86, hFp_89, e86, e89, P_arr, P_bg, den_s, den_c, Int.add_zero, List.map_cons, List.map_nil, g2.eq, g3.eq, g4.eq, g5.eq, g6.eq, g14.eq, g15.eq, g16.eq, g17.eq, g18.eq, g19.eq, h8, h10, h12, h13, h15, h16, h19, h20, h23, h24, h45, h46, h58, h59, h60, h61, h62] at f0 f1 f2 f3 f6 f11 ⊢
  subst f2
  subst f3
  subst f6
  ((repeat' (first | apply And.intro | intro h)) <;> first | omega | rfl | trivial | (exfalso; omega)))
def w_xo_writeC_0_9 : VC := (([(0, 23), (0, 49), (1, 8), (0, 10), (0, 8), (0, 6), (0, 6), (0, 8), (0, 9), (0, 49), (0, 49), ((-2147483648), 2147483647), ((-2147483648), 2147483647), (0, 5), (0, 7), (0, 3), ((-1), (-1))]), [(1, [(none, 1), (none, 0)], []), (0, [(some 16, 0), (none, (-1))], []), (20, [(some 16, 0), (some 15, 0)], [46]), (1, [(none, 1), (none, 0)], []), (3, [(none, 3), (some 15, 0)], []), (3, [(some 15, 0), (none, 0)], []), (1, [(none, 1), (none, 0)], []), (2, [(some 14, 0), (some 2, 0)], []), (3, [(some 14, 0), (none, 0)], [])], (162, [(none, (-11)), (some 14, 0), (some 15, 0), (some 13, 0), (none, 1), (some 2, 0), (some 3, 0), (some 4, 0), (some 5, 0), (some 6, 0), (none, 0), (none, 0)], [7, 8, 10, 11, 12, 13, 15, 16, 19, 20, 21, 23, 24, 25, 45, 46, 41, 42, 43, 44, 41, 42, 43, 44]))
set_option maxRecDepth 20000 in
theorem v_xo_writeC_0_9 {PT : PTy} (hp : HP11 PT) : vcOk PT w_xo_writeC_0_9 := vc_iv [(2, 1, 8), (3, 0, 10), (4, 0, 8), (5, 0, 6), (6, 0, 6), (13, 0, 5), (14, 0, 7), (15, 0, 3), (16, (-1), (-1))] [7, 8, 10, 11, 12, 13, 15, 16, 19, 20, 21, 23, 24, 25, 41, 42, 43, 44, 45, 46] (by decide +kernel) (fun ρ α => by
  intro r2 g2 b2 r3 g3 b3 r4 g4 b4 r5 g5 b5 r6 g6 b6 r13 g13 b13 r14 g14 b14 r15 g15 b15 r16 g16 b16 a7 h7 a8 h8 a10 h10 a11 h11 a12 h12 a13 h13 a15 h15 a16 h16 a19 h19 a20 h20 a21 h21 a23 h23 a24 h24 a25 h25 a41 h41 a42 h42 a43 h43 a44 h44 a45 h45 a46 h46 f0 f1 f2 f3 f4 f5 f6 f7 f8 tt
  clear f0 f3 f4 f5 f6 f8
  have e162 : PT 162 = P_owX := pe162_11 hp
  simp only [hF0, hF2, hF20, hFp_162, e162, P_owX, den_s, den_c, Int.add_zero, List.map_cons, List.map_nil, g2.eq, g3.eq, g4.eq, g5.eq, g6.eq, g13.eq, g14.eq, g15.eq, g16.eq, h7, h8, h10, h11, h12, h13, h15, h16, h19, h20, h21, h23, h24, h25, h41, h42, h43, h44, h45, h46] at f1 f2 f7 ⊢
  subst f2
  ((repeat' (first | apply And.intro | intro h)) <;> first | omega | rfl | trivial | (exfalso; omega) | (congr 1; omega) | (congr 1; (repeat' split) <;> first | rfl | (exfalso; omega))))
def w_xo_writeC_1_0 : VC := (([(0, 23), (0, 49), (1, 8), (0, 10), (0, 8), (0, 6), (0, 6), (0, 8), (0, 9), (0, 49), (0, 49), ((-2147483648), 2147483647), ((-2147483648), 2147483647), (0, 5), (0, 7), (0, 3), (0, 24), (0, 24), (0, 49), (0, 49)]), [(3, [(some 17, 0), (some 16, 0)], []), (150, [(some 18, 0), (some 2, 0), (some 3, 0), (some 4, 0), (some 5, 0), (some 6, 0)], [58, 59, 7, 8, 10, 11, 12, 13, 15, 16, 19, 20, 21, 23, 24, 25]), (149, [(some 19, 0), (some 17, 0), (some 2, 0), (some 3, 0), (some 4, 0), (some 5, 0), (some 6, 0), (none, 0), (none, 0)], [7, 8, 10, 11, 12, 13, 15, 16, 19, 20, 21, 23, 24, 25, 58, 60, 61, 62]), (147, [(some 16, 0), (some 14, 0), (some 15, 0), (some 2, 0)], [45, 46]), (161, [(some 17, 0), (some 14, 0), (some 15, 0), (some 2, 0), (some 3, 0), (some 4, 0), (some 5, 0), (some 6, 0), (none, 0), (none, 0)], [7, 8, 10, 11, 12, 13, 15, 16, 19, 20, 21, 23, 24, 25, 46, 41, 42, 43, 44, 63, 64, 65, 66]), (3, [(some 16, 0), (some 17, 0)], []), (3, [(some 15, 0), (none, 0)], []), (3, [(none, 3), (some 15, 0)], []), (3, [(some 14, 0), (none, 0)], []), (2, [(some 14, 0), (some 2, 0)], [])], (162, [(some 16, 0), (some 14, 0), (some 15, 0), (some 13, 0), (some 13, 0), (some 2, 0), (some 3, 0), (some 4, 0), (some 5, 0), (some 6, 0), (none, 0), (none, 0)], [7, 8, 10, 11, 12, 13, 15, 16, 19, 20, 21, 23, 24, 25, 45, 46, 41, 42, 43, 44, 63, 64, 65, 66]))
set_option maxRecDepth 20000 in
theorem v_xo_writeC_1_0 {PT : PTy} (hp : HP11 PT) : vcOk PT w_xo_writeC_1_0 := vc_iv [(2, 1, 8), (3, 0, 10), (4, 0, 8), (5, 0, 6), (6, 0, 6), (13, 0, 5), (14, 0, 7), (15, 0, 3), (16, 0, 24), (17, 0, 24), (18, 0, 49), (19, 0, 49)] [7, 8, 10, 11, 12, 13, 15, 16, 19, 20, 21, 23, 24, 25, 41, 42, 43, 44, 45, 46, 58, 59, 60, 61, 62, 63, 64, 65, 66] (by decide +kernel) (fun ρ α => by
  intro r2 g2 b2 r3 g3 b3 r4 g4 b4 r5 g5 b5 r6 g6 b6 r13 g13 b13 r14 g14 b14 r15 g15 b15 r16 g16 b16 r17 g17 b17 r18 g18 b18 r19 g19 b19 a7 h7 a8 h8 a10 h10 a11 h11 a12 h12 a13 h13 a15 h15 a16 h16 a19 h19 a20 h20 a21 h21 a23 h23 a24 h24 a25 h25 a41 h41 a42 h42 a43 h43 a44 h44 a45 h45 a46 h46 a58 h58 a59 h59 a60 h60 a61 h61 a62 h62 a63 h63 a64 h64 a65 h65 a66 h66 f0 f1 f2 f3 f4 f5 f6 f7 f8 f9 tt
  clear f6 f7 f8
  have e147 : PT 147 = P_wrX := pe147_11 hp
  have e149 : PT 149 = P_yi := pe149_11 hp
  have e150 : PT 150 = P_ar2 := pe150_11 hp
  have e161 : PT 161 = P_wcX := pe161_11 hp
  have e162 : PT 162 = P_owX := pe162_11 hp
  simp only [hF2, hF3, hFp_147, hFp_149, hFp_150, hFp_161, hFp_162, e147, e149, e150, e161, e162, P_wrX, P_yi, P_ar2, P_wcX, P_owX, den_s, den_c, Int.add_zero, List.map_cons, List.map_nil, g2.eq, g3.eq, g4.eq, g5.eq, g6.eq, g13.eq, g14.eq, g15.eq, g16.eq, g17.eq, g18.eq, g19.eq, h7, h8, h10, h11, h12, h13, h15, h16, h19, h20, h21, h23, h24, h25, h41, h42, h43, h44, h45, h46, h58, h59, h60, h61, h62, h63, h64, h65, h66] at f0 f1 f2 f3 f4 f5 f9 ⊢
  have hw := f4
  obtain ⟨x1, x2, x3, x4⟩ := f3
  rw [show r17 = r16 by omega] at hw
  refine ⟨fun h => ?_, fun h m => ?_, fun h m => ⟨x3 h m, x4 h m, by first | rfl | trivial, hw⟩⟩
  · exfalso; omega
  · have := x2 h m; exfalso; omega)
def w_xo_writeC_1_1 : VC := (([(0, 23), (0, 49), (1, 8), (0, 10), (0, 8), (0, 6), (0, 6), (0, 8), (0, 9), (0, 49), (0, 49), ((-2147483648), 2147483647), ((-2147483648), 2147483647), (0, 5), (0, 7), (0, 3), (1, 24), (0, 23), (0, 49), (0, 49)]), [(2, [(some 17, 0), (some 16, 0)], []), (150, [(some 18, 0), (some 2, 0), (some 3, 0), (some 4, 0), (some 5, 0), (some 6, 0)], [58, 59, 7, 8, 10, 11, 12, 13, 15, 16, 19, 20, 21, 23, 24, 25]), (149, [(some 19, 0), (some 17, 0), (some 2, 0), (some 3, 0), (some 4, 0), (some 5, 0), (some 6, 0), (none, 0), (none, 0)], [7, 8, 10, 11, 12, 13, 15, 16, 19, 20, 21, 23, 24, 25, 58, 60, 61, 62]), (147, [(some 16, 0), (some 14, 0), (some 15, 0), (some 2, 0)], [45, 46]), (161, [(some 17, 0), (some 14, 0), (some 15, 0), (some 2, 0), (some 3, 0), (some 4, 0), (some 5, 0), (some 6, 0), (none, 0), (none, 0)], [7, 8, 10, 11, 12, 13, 15, 16, 19, 20, 21, 23, 24, 25, 46, 41, 42, 43, 44, 63, 64, 65, 66]), (3, [(some 16, 0), (some 17, 0)], []), (3, [(some 15, 0), (none, 0)], []), (3, [(none, 3), (some 15, 0)], []), (3, [(some 14, 0), (none, 0)], []), (2, [(some 14, 0), (some 2, 0)], [])], (87, [(some 18, 0)], [58, 59]))
set_option maxRecDepth 20000 in
theorem v_xo_writeC_1_1 {PT : PTy} (hp : HP11 PT) : vcOk PT w_xo_writeC_1_1 := vc_in [(2, 1, 8), (3, 0, 10), (4, 0, 8), (5, 0, 6), (6, 0, 6), (14, 0, 7), (15, 0, 3), (16, 1, 24), (17, 0, 23), (18, 0, 49), (19, 0, 49)] (by decide +kernel) (fun ρ α => by
  intro b2 b3 b4 b5 b6 b14 b15 b16 b17 b18 b19 f0 f1 f2 f3 f4 f5 f6 f7 f8 f9 tt
  clear f6 f7 f8
  have e87 : PT 87 = P_pr := pe87_11 hp
  have e147 : PT 147 = P_wrX := pe147_11 hp
  have e149 : PT 149 = P_yi := pe149_11 hp
  have e150 : PT 150 = P_ar2 := pe150_11 hp
  have e161 : PT 161 = P_wcX := pe161_11 hp
  simp only [hF2, hF3, hFp_87, hFp_147, hFp_149, hFp_150, hFp_161, e87, e147, e149, e150, e161, P_pr, P_wrX, P_yi, P_ar2, P_wcX, den_s, den_c, Int.add_zero, List.map_cons, List.map_nil] at f0 f1 f2 f3 f4 f5 f9 ⊢
  exact (f1).1)
def w_xo_writeC_1_2 : VC := (([(0, 23), (0, 49), (1, 8), (0, 10), (0, 8), (0, 6), (0, 6), (0, 8), (0, 9), (0, 49), (0, 49), ((-2147483648), 2147483647), ((-2147483648), 2147483647), (0, 5), (0, 7), (0, 0), (1, 24), (0, 23), (0, 49), (0, 49), (0, 49), (0, 99), ((-1), 2), ((-1), 2)]), [(21, [(some 17, 0), (some 21, 0)], [70, 63]), (1, [(some 23, 0), (none, 1)], []), (20, [(some 23, 0), (some 15, 0)], [46]), (1, [(some 22, 0), (none, 0)], []), (20, [(some 22, 0), (some 15, 0)], [46]), (0, [(some 15, 0), (none, 0)], []), (20, [(some 21, 0), (some 14, 0)], [67]), (91, [(some 19, 0), (some 20, 0), (some 18, 0), (some 17, 0), (none, 0), (none, 0)], [58, 59, 7, 8, 10, 11, 16, 20, 21, 24, 25, 60, 61, 62, 67, 68, 69]), (2, [(some 17, 0), (some 16, 0)], []), (150, [(some 18, 0), (some 2, 0), (some 3, 0), (some 4, 0), (some 5, 0), (some 6, 0)], [58, 59, 7, 8, 10, 11, 12, 13, 15, 16, 19, 20, 21, 23, 24, 25]), (149, [(some 19, 0), (some 17, 0), (some 2, 0), (some 3, 0), (some 4, 0), (some 5, 0), (some 6, 0), (none, 0), (none, 0)], [7, 8, 10, 11, 12, 13, 15, 16, 19, 20, 21, 23, 24, 25, 58, 60, 61, 62]), (147, [(some 16, 0), (some 14, 0), (some 15, 0), (some 2, 0)], [45, 46]), (161, [(some 17, 0), (some 14, 0), (some 15, 0), (some 2, 0), (some 3, 0), (some 4, 0), (some 5, 0), (some 6, 0), (none, 0), (none, 0)], [7, 8, 10, 11, 12, 13, 15, 16, 19, 20, 21, 23, 24, 25, 46, 41, 42, 43, 44, 63, 64, 65, 66]), (3, [(some 16, 0), (some 17, 0)], []), (3, [(some 15, 0), (none, 0)], []), (3, [(none, 3), (some 15, 0)], []), (3, [(some 14, 0), (none, 0)], []), (2, [(some 14, 0), (some 2, 0)], [])], (149, [(some 20, 0), (some 17, 1), (some 2, 0), (some 3, 0), (some 4, 0), (some 5, 0), (some 6, 0), (none, 0), (none, 0)], [7, 8, 10, 11, 12, 13, 15, 16, 19, 20, 21, 23, 24, 25, 58, 67, 68, 69]))
set_option maxRecDepth 20000 in
theorem v_xo_writeC_1_2 {PT : PTy} (hp : HP11 PT) : vcOk PT w_xo_writeC_1_2 := vc_in [(2, 1, 8), (3, 0, 10), (4, 0, 8), (5, 0, 6), (6, 0, 6), (14, 0, 7), (15, 0, 0), (16, 1, 24), (17, 0, 23), (18, 0, 49), (19, 0, 49), (20, 0, 49), (21, 0, 99), (22, (-1), 2), (23, (-1), 2)] (by decide +kernel) (fun ρ α => by
  intro b2 b3 b4 b5 b6 b14 b15 b16 b17 b18 b19 b20 b21 b22 b23 f0 f1 f2 f3 f4 f5 f6 f7 f8 f9 f10 f11 f12 f13 f14 f15 f16 f17 tt
  clear f14 f15 f16
  have e91 : PT 91 = P_adE := pe91_11 hp
  have e147 : PT 147 = P_wrX := pe147_11 hp
  have e149 : PT 149 = P_yi := pe149_11 hp
  have e150 : PT 150 = P_ar2 := pe150_11 hp
  have e161 : PT 161 = P_wcX := pe161_11 hp
  simp only [hF0, hF1, hF2, hF3, hF20, hF21, hFp_91, hFp_147, hFp_149, hFp_150, hFp_161, e91, e147, e149, e150, e161, P_adE, P_wrX, P_yi, P_ar2, P_wcX, den_s, den_c, Int.add_zero, List.map_cons, List.map_nil] at f0 f1 f2 f3 f4 f5 f6 f7 f8 f9 f10 f11 f12 f13 f17 ⊢
  exact yI_s (f9).2 f10 (by omega) (f7).1)
def w_xo_writeC_1_3 : VC := (([(0, 23), (0, 49), (1, 8), (0, 10), (0, 8), (0, 6), (0, 6), (0, 8), (0, 9), (0, 49), (0, 49), ((-2147483648), 2147483647), ((-2147483648), 2147483647), (0, 5), (0, 7), (0, 0), (1, 24), (0, 23), (0, 49), (0, 49), (0, 49), (0, 99), ((-1), 2), ((-1), 2)]), [(21, [(some 17, 0), (some 21, 0)], [70, 63]), (1, [(some 23, 0), (none, 1)], []), (20, [(some 23, 0), (some 15, 0)], [46]), (1, [(some 22, 0), (none, 0)], []), (20, [(some 22, 0), (some 15, 0)], [46]), (0, [(some 15, 0), (none, 0)], []), (20, [(some 21, 0), (some 14, 0)], [67]), (91, [(some 19, 0), (some 20, 0), (some 18, 0), (some 17, 0), (none, 0), (none, 0)], [58, 59, 7, 8, 10, 11, 16, 20, 21, 24, 25, 60, 61, 62, 67, 68, 69]), (2, [(some 17, 0), (some 16, 0)], []), (150, [(some 18, 0), (some 2, 0), (some 3, 0), (some 4, 0), (some 5, 0), (some 6, 0)], [58, 59, 7, 8, 10, 11, 12, 13, 15, 16, 19, 20, 21, 23, 24, 25]), (149, [(some 19, 0), (some 17, 0), (some 2, 0), (some 3, 0), (some 4, 0), (some 5, 0), (some 6, 0), (none, 0), (none, 0)], [7, 8, 10, 11, 12, 13, 15, 16, 19, 20, 21, 23, 24, 25, 58, 60, 61, 62]), (147, [(some 16, 0), (some 14, 0), (some 15, 0), (some 2, 0)], [45, 46]), (161, [(some 17, 0), (some 14, 0), (some 15, 0), (some 2, 0), (some 3, 0), (some 4, 0), (some 5, 0), (some 6, 0), (none, 0), (none, 0)], [7, 8, 10, 11, 12, 13, 15, 16, 19, 20, 21, 23, 24, 25, 46, 41, 42, 43, 44, 63, 64, 65, 66]), (3, [(some 16, 0), (some 17, 0)], []), (3, [(some 15, 0), (none, 0)], []), (3, [(none, 3), (some 15, 0)], []), (3, [(some 14, 0), (none, 0)], []), (2, [(some 14, 0), (some 2, 0)], [])], (161, [(some 17, 1), (some 14, 0), (some 15, 0), (some 2, 0), (some 3, 0), (some 4, 0), (some 5, 0), (some 6, 0), (none, 0), (none, 0)], [7, 8, 10, 11, 12, 13, 15, 16, 19, 20, 21, 23, 24, 25, 46, 41, 42, 43, 44, 70, 64, 65, 66]))
set_option maxRecDepth 20000 in
theorem v_xo_writeC_1_3 {PT : PTy} (hp : HP11 PT) : vcOk PT w_xo_writeC_1_3 := vc_iv [(2, 1, 8), (3, 0, 10), (4, 0, 8), (5, 0, 6), (6, 0, 6), (14, 0, 7), (15, 0, 0), (16, 1, 24), (17, 0, 23), (18, 0, 49), (19, 0, 49), (20, 0, 49), (21, 0, 99), (22, (-1), 2), (23, (-1), 2)] [7, 8, 10, 11, 12, 13, 15, 16, 19, 20, 21, 23, 24, 25, 41, 42, 43, 44, 45, 46, 58, 59, 60, 61, 62, 63, 64, 65, 66, 67, 68, 69, 70] (by decide +kernel) (fun ρ α => by
  intro r2 g2 b2 r3 g3 b3 r4 g4 b4 r5 g5 b5 r6 g6 b6 r14 g14 b14 r15 g15 b15 r16 g16 b16 r17 g17 b17 r18 g18 b18 r19 g19 b19 r20 g20 b20 r21 g21 b21 r22 g22 b22 r23 g23 b23 a7 h7 a8 h8 a10 h10 a11 h11 a12 h12 a13 h13 a15 h15 a16 h16 a19 h19 a20 h20 a21 h21 a23 h23 a24 h24 a25 h25 a41 h41 a42 h42 a43 h43 a44 h44 a45 h45 a46 h46 a58 h58 a59 h59 a60 h60 a61 h61 a62 h62 a63 h63 a64 h64 a65 h65 a66 h66 a67 h67 a68 h68 a69 h69 a70 h70 f0 f1 f2 f3 f4 f5 f6 f7 f8 f9 f10 f11 f12 f13 f14 f15 f16 f17 tt
  clear f14 f15 f16
  have e91 : PT 91 = P_adE := pe91_11 hp
  have e147 : PT 147 = P_wrX := pe147_11 hp
  have e149 : PT 149 = P_yi := pe149_11 hp
  have e150 : PT 150 = P_ar2 := pe150_11 hp
  have e161 : PT 161 = P_wcX := pe161_11 hp
  simp only [hF0, hF1, hF2, hF3, hF20, hF21, hFp_91, hFp_147, hFp_149, hFp_150, hFp_161, e91, e147, e149, e150, e161, P_adE, P_wrX, P_yi, P_ar2, P_wcX, den_s, den_c, Int.add_zero, List.map_cons, List.map_nil, g2.eq, g3.eq, g4.eq, g5.eq, g6.eq, g14.eq, g15.eq, g16.eq, g17.eq, g18.eq, g19.eq, g20.eq, g21.eq, g22.eq, g23.eq, h7, h8, h10, h11, h12, h13, h15, h16, h19, h20, h21, h23, h24, h25, h41, h42, h43, h44, h45, h46, h58, h59, h60, h61, h62, h63, h64, h65, h66, h67, h68, h69, h70] at f0 f1 f2 f3 f4 f5 f6 f7 f8 f9 f10 f11 f12 f13 f17 ⊢
  subst f0
  subst f2
  subst f4
  subst f6
  have hy := yI_e (f9).2 (yI_s (f9).2 f10 (by omega) (f7).1) (f7).2
  have hw := f12
  rcases (show r15 = 0 ∨ r15 = 1 ∨ r15 = 2 ∨ r15 = 3 by omega) with z | z | z | z <;> subst z <;> first
    | (exfalso; omega)
    | (refine wcS_s hw (by omega) (by simp only [rowX_0, rowX_1, rowX_2, rowX_3]; rfl) ⟨_, _, _, hy, ?_⟩ (fun t h1 h2 h3 => ?_)
       · unfold cutF
         (repeat' split) <;> first | rfl | (exfalso; omega)
       · rcases (show t = 0 ∨ t = 1 ∨ t = 2 ∨ t = 3 by omega) with y | y | y | y <;> subst y <;> first | (exact absurd rfl h3) | (simp only [rowX_0, rowX_1, rowX_2, rowX_3])))
def w_xo_writeC_1_4 : VC := (([(0, 23), (0, 49), (1, 8), (0, 10), (0, 8), (0, 6), (0, 6), (0, 8), (0, 9), (0, 49), (0, 49), ((-2147483648), 2147483647), ((-2147483648), 2147483647), (0, 5), (0, 7), (0, 0), (1, 24), (0, 23), (0, 49), (0, 49), (0, 49), (0, 99), ((-1), 2), ((-1), 2)]), [(21, [(some 17, 0), (some 21, 0)], [70, 63]), (1, [(some 23, 0), (none, 1)], []), (20, [(some 23, 0), (some 15, 0)], [46]), (1, [(some 22, 0), (none, 0)], []), (20, [(some 22, 0), (some 15, 0)], [46]), (0, [(some 15, 0), (none, 0)], []), (20, [(some 21, 0), (some 14, 0)], [67]), (91, [(some 19, 0), (some 20, 0), (some 18, 0), (some 17, 0), (none, 0), (none, 0)], [58, 59, 7, 8, 10, 11, 16, 20, 21, 24, 25, 60, 61, 62, 67, 68, 69]), (2, [(some 17, 0), (some 16, 0)], []), (150, [(some 18, 0), (some 2, 0), (some 3, 0), (some 4, 0), (some 5, 0), (some 6, 0)], [58, 59, 7, 8, 10, 11, 12, 13, 15, 16, 19, 20, 21, 23, 24, 25]), (149, [(some 19, 0), (some 17, 0), (some 2, 0), (some 3, 0), (some 4, 0), (some 5, 0), (some 6, 0), (none, 0), (none, 0)], [7, 8, 10, 11, 12, 13, 15, 16, 19, 20, 21, 23, 24, 25, 58, 60, 61, 62]), (147, [(some 16, 0), (some 14, 0), (some 15, 0), (some 2, 0)], [45, 46]), (161, [(some 17, 0), (some 14, 0), (some 15, 0), (some 2, 0), (some 3, 0), (some 4, 0), (some 5, 0), (some 6, 0), (none, 0), (none, 0)], [7, 8, 10, 11, 12, 13, 15, 16, 19, 20, 21, 23, 24, 25, 46, 41, 42, 43, 44, 63, 64, 65, 66]), (3, [(some 16, 0), (some 17, 0)], []), (3, [(some 15, 0), (none, 0)], []), (3, [(none, 3), (some 15, 0)], []), (3, [(some 14, 0), (none, 0)], []), (2, [(some 14, 0), (some 2, 0)], [])], (3, [(some 16, 0), (some 17, 1)], []))
set_option maxRecDepth 20000 in
theorem v_xo_writeC_1_4 {PT : PTy} (hp : HP11 PT) : vcOk PT w_xo_writeC_1_4 := vc_iv [(2, 1, 8), (3, 0, 10), (4, 0, 8), (5, 0, 6), (6, 0, 6), (14, 0, 7), (15, 0, 0), (16, 1, 24), (17, 0, 23), (18, 0, 49), (19, 0, 49), (20, 0, 49), (21, 0, 99), (22, (-1), 2), (23, (-1), 2)] [7, 8, 10, 11, 12, 13, 15, 16, 19, 20, 21, 23, 24, 25, 41, 42, 43, 44, 45, 46, 58, 59, 60, 61, 62, 63, 64, 65, 66, 67, 68, 69, 70] (by decide +kernel) (fun ρ α => by
  intro r2 g2 b2 r3 g3 b3 r4 g4 b4 r5 g5 b5 r6 g6 b6 r14 g14 b14 r15 g15 b15 r16 g16 b16 r17 g17 b17 r18 g18 b18 r19 g19 b19 r20 g20 b20 r21 g21 b21 r22 g22 b22 r23 g23 b23 a7 h7 a8 h8 a10 h10 a11 h11 a12 h12 a13 h13 a15 h15 a16 h16 a19 h19 a20 h20 a21 h21 a23 h23 a24 h24 a25 h25 a41 h41 a42 h42 a43 h43 a44 h44 a45 h45 a46 h46 a58 h58 a59 h59 a60 h60 a61 h61 a62 h62 a63 h63 a64 h64 a65 h65 a66 h66 a67 h67 a68 h68 a69 h69 a70 h70 f0 f1 f2 f3 f4 f5 f6 f7 f8 f9 f10 f11 f12 f13 f14 f15 f16 f17 tt
  clear f14 f15 f16
  have e91 : PT 91 = P_adE := pe91_11 hp
  have e147 : PT 147 = P_wrX := pe147_11 hp
  have e149 : PT 149 = P_yi := pe149_11 hp
  have e150 : PT 150 = P_ar2 := pe150_11 hp
  have e161 : PT 161 = P_wcX := pe161_11 hp
  simp only [hF0, hF1, hF2, hF3, hF20, hF21, hFp_91, hFp_147, hFp_149, hFp_150, hFp_161, e91, e147, e149, e150, e161, P_adE, P_wrX, P_yi, P_ar2, P_wcX, den_s, den_c, Int.add_zero, List.map_cons, List.map_nil, g2.eq, g3.eq, g4.eq, g5.eq, g6.eq, g14.eq, g15.eq, g16.eq, g17.eq, g18.eq, g19.eq, g20.eq, g21.eq, g22.eq, g23.eq, h7, h8, h10, h11, h12, h13, h15, h16, h19, h20, h21, h23, h24, h25, h41, h42, h43, h44, h45, h46, h58, h59, h60, h61, h62, h63, h64, h65, h66, h67, h68, h69, h70] at f0 f1 f2 f3 f4 f5 f6 f7 f8 f9 f10 f11 f12 f13 f17 ⊢
  subst f0
  subst f2
  subst f4
  subst f6
  ((repeat' (first | apply And.intro | intro h)) <;> first | omega | rfl | trivial | (exfalso; omega)))
def w_xo_writeC_1_5 : VC := (([(0, 23), (0, 49), (1, 8), (0, 10), (0, 8), (0, 6), (0, 6), (0, 8), (0, 9), (0, 49), (0, 49), ((-2147483648), 2147483647), ((-2147483648), 2147483647), (0, 5), (0, 7), (0, 0), (1, 24), (0, 23), (0, 49), (0, 49), (0, 49), (0, 99), ((-1), 2), (1, 1), ((-2147483648), 2147483647)]), [(21, [(some 17, 0), (some 24, 0)], [70, 63]), (19, [(some 24, 0), (some 21, 0)], []), (0, [(some 23, 0), (none, 1)], []), (20, [(some 23, 0), (some 15, 0)], [46]), (1, [(some 22, 0), (none, 0)], []), (20, [(some 22, 0), (some 15, 0)], [46]), (0, [(some 15, 0), (none, 0)], []), (20, [(some 21, 0), (some 14, 0)], [67]), (91, [(some 19, 0), (some 20, 0), (some 18, 0), (some 17, 0), (none, 0), (none, 0)], [58, 59, 7, 8, 10, 11, 16, 20, 21, 24, 25, 60, 61, 62, 67, 68, 69]), (2, [(some 17, 0), (some 16, 0)], []), (150, [(some 18, 0), (some 2, 0), (some 3, 0), (some 4, 0), (some 5, 0), (some 6, 0)], [58, 59, 7, 8, 10, 11, 12, 13, 15, 16, 19, 20, 21, 23, 24, 25]), (149, [(some 19, 0), (some 17, 0), (some 2, 0), (some 3, 0), (some 4, 0), (some 5, 0), (some 6, 0), (none, 0), (none, 0)], [7, 8, 10, 11, 12, 13, 15, 16, 19, 20, 21, 23, 24, 25, 58, 60, 61, 62]), (147, [(some 16, 0), (some 14, 0), (some 15, 0), (some 2, 0)], [45, 46]), (161, [(some 17, 0), (some 14, 0), (some 15, 0), (some 2, 0), (some 3, 0), (some 4, 0), (some 5, 0), (some 6, 0), (none, 0), (none, 0)], [7, 8, 10, 11, 12, 13, 15, 16, 19, 20, 21, 23, 24, 25, 46, 41, 42, 43, 44, 63, 64, 65, 66]), (3, [(some 16, 0), (some 17, 0)], []), (3, [(some 15, 0), (none, 0)], []), (3, [(none, 3), (some 15, 0)], []), (3, [(some 14, 0), (none, 0)], []), (2, [(some 14, 0), (some 2, 0)], [])], (149, [(some 20, 0), (some 17, 1), (some 2, 0), (some 3, 0), (some 4, 0), (some 5, 0), (some 6, 0), (none, 0), (none, 0)], [7, 8, 10, 11, 12, 13, 15, 16, 19, 20, 21, 23, 24, 25, 58, 67, 68, 69]))
set_option maxRecDepth 20000 in
theorem v_xo_writeC_1_5 {PT : PTy} (hp : HP11 PT) : vcOk PT w_xo_writeC_1_5 := vc_in [(2, 1, 8), (3, 0, 10), (4, 0, 8), (5, 0, 6), (6, 0, 6), (14, 0, 7), (15, 0, 0), (16, 1, 24), (17, 0, 23), (18, 0, 49), (19, 0, 49), (20, 0, 49), (21, 0, 99), (22, (-1), 2), (23, 1, 1), (24, (-2147483648), 2147483647)] (by decide +kernel) (fun ρ α => by
  intro b2 b3 b4 b5 b6 b14 b15 b16 b17 b18 b19 b20 b21 b22 b23 b24 f0 f1 f2 f3 f4 f5 f6 f7 f8 f9 f10 f11 f12 f13 f14 f15 f16 f17 f18 tt
  clear f15 f16 f17
  have e91 : PT 91 = P_adE := pe91_11 hp
  have e147 : PT 147 = P_wrX := pe147_11 hp
  have e149 : PT 149 = P_yi := pe149_11 hp
  have e150 : PT 150 = P_ar2 := pe150_11 hp
  have e161 : PT 161 = P_wcX := pe161_11 hp
  simp only [hF0, hF1, hF2, hF3, hF19, hF20, hF21, hFp_91, hFp_147, hFp_149, hFp_150, hFp_161, e91, e147, e149, e150, e161, P_adE, P_wrX, P_yi, P_ar2, P_wcX, den_s, den_c, Int.add_zero, List.map_cons, List.map_nil] at f0 f1 f2 f3 f4 f5 f6 f7 f8 f9 f10 f11 f12 f13 f14 f18 ⊢
  exact yI_s (f10).2 f11 (by omega) (f8).1)
def w_xo_writeC_1_6 : VC := (([(0, 23), (0, 49), (1, 8), (0, 10), (0, 8), (0, 6), (0, 6), (0, 8), (0, 9), (0, 49), (0, 49), ((-2147483648), 2147483647), ((-2147483648), 2147483647), (0, 5), (0, 7), (0, 0), (1, 24), (0, 23), (0, 49), (0, 49), (0, 49), (0, 99), ((-1), 2), (1, 1), ((-2147483648), 2147483647)]), [(21, [(some 17, 0), (some 24, 0)], [70, 63]), (19, [(some 24, 0), (some 21, 0)], []), (0, [(some 23, 0), (none, 1)], []), (20, [(some 23, 0), (some 15, 0)], [46]), (1, [(some 22, 0), (none, 0)], []), (20, [(some 22, 0), (some 15, 0)], [46]), (0, [(some 15, 0), (none, 0)], []), (20, [(some 21, 0), (some 14, 0)], [67]), (91, [(some 19, 0), (some 20, 0), (some 18, 0), (some 17, 0), (none, 0), (none, 0)], [58, 59, 7, 8, 10, 11, 16, 20, 21, 24, 25, 60, 61, 62, 67, 68, 69]), (2, [(some 17, 0), (some 16, 0)], []), (150, [(some 18, 0), (some 2, 0), (some 3, 0), (some 4, 0), (some 5, 0), (some 6, 0)], [58, 59, 7, 8, 10, 11, 12, 13, 15, 16, 19, 20, 21, 23, 24, 25]), (149, [(some 19, 0), (some 17, 0), (some 2, 0), (some 3, 0), (some 4, 0), (some 5, 0), (some 6, 0), (none, 0), (none, 0)], [7, 8, 10, 11, 12, 13, 15, 16, 19, 20, 21, 23, 24, 25, 58, 60, 61, 62]), (147, [(some 16, 0), (some 14, 0), (some 15, 0), (some 2, 0)], [45, 46]), (161, [(some 17, 0), (some 14, 0), (some 15, 0), (some 2, 0), (some 3, 0), (some 4, 0), (some 5, 0), (some 6, 0), (none, 0), (none, 0)], [7, 8, 10, 11, 12, 13, 15, 16, 19, 20, 21, 23, 24, 25, 46, 41, 42, 43, 44, 63, 64, 65, 66]), (3, [(some 16, 0), (some 17, 0)], []), (3, [(some 15, 0), (none, 0)], []), (3, [(none, 3), (some 15, 0)], []), (3, [(some 14, 0), (none, 0)], []), (2, [(some 14, 0), (some 2, 0)], [])], (161, [(some 17, 1), (some 14, 0), (some 15, 0), (some 2, 0), (some 3, 0), (some 4, 0), (some 5, 0), (some 6, 0), (none, 0), (none, 0)], [7, 8, 10, 11, 12, 13, 15, 16, 19, 20, 21, 23, 24, 25, 46, 41, 42, 43, 44, 70, 64, 65, 66]))
set_option maxRecDepth 20000 in
theorem v_xo_writeC_1_6 {PT : PTy} (hp : HP11 PT) : vcOk PT w_xo_writeC_1_6 := vc_iv [(2, 1, 8), (3, 0, 10), (4, 0, 8), (5, 0, 6), (6, 0, 6), (14, 0, 7), (15, 0, 0), (16, 1, 24), (17, 0, 23), (18, 0, 49), (19, 0, 49), (20, 0, 49), (21, 0, 99), (22, (-1), 2), (23, 1, 1), (24, (-2147483648), 2147483647)] [7, 8, 10, 11, 12, 13, 15, 16, 19, 20, 21, 23, 24, 25, 41, 42, 43, 44, 45, 46, 58, 59, 60, 61, 62, 63, 64, 65, 66, 67, 68, 69, 70] (by decide +kernel) (fun ρ α => by
  intro r2 g2 b2 r3 g3 b3 r4 g4 b4 r5 g5 b5 r6 g6 b6 r14 g14 b14 r15 g15 b15 r16 g16 b16 r17 g17 b17 r18 g18 b18 r19 g19 b19 r20 g20 b20 r21 g21 b21 r22 g22 b22 r23 g23 b23 r24 g24 b24 a7 h7 a8 h8 a10 h10 a11 h11 a12 h12 a13 h13 a15 h15 a16 h16 a19 h19 a20 h20 a21 h21 a23 h23 a24 h24 a25 h25 a41 h41 a42 h42 a43 h43 a44 h44 a45 h45 a46 h46 a58 h58 a59 h59 a60 h60 a61 h61 a62 h62 a63 h63 a64 h64 a65 h65 a66 h66 a67 h67 a68 h68 a69 h69 a70 h70 f0 f1 f2 f3 f4 f5 f6 f7 f8 f9 f10 f11 f12 f13 f14 f15 f16 f17 f18 tt
  clear f15 f16 f17
  have e91 : PT 91 = P_adE := pe91_11 hp
  have e147 : PT 147 = P_wrX := pe147_11 hp
  have e149 : PT 149 = P_yi := pe149_11 hp
  have e150 : PT 150 = P_ar2 := pe150_11 hp
  have e161 : PT 161 = P_wcX := pe161_11 hp
  simp only [hF0, hF1, hF2, hF3, hF19, hF20, hF21, hFp_91, hFp_147, hFp_149, hFp_150, hFp_161, e91, e147, e149, e150, e161, P_adE, P_wrX, P_yi, P_ar2, P_wcX, den_s, den_c, Int.add_zero, List.map_cons, List.map_nil, g2.eq, g3.eq, g4.eq, g5.eq, g6.eq, g14.eq, g15.eq, g16.eq, g17.eq, g18.eq, g19.eq, g20.eq, g21.eq, g22.eq, g23.eq, g24.eq, h7, h8, h10, h11, h12, h13, h15, h16, h19, h20, h21, h23, h24, h25, h41, h42, h43, h44, h45, h46, h58, h59, h60, h61, h62, h63, h64, h65, h66, h67, h68, h69, h70] at f0 f1 f2 f3 f4 f5 f6 f7 f8 f9 f10 f11 f12 f13 f14 f18 ⊢
  subst f0
  subst f1
  subst f3
  subst f5
  subst f7
  have hy := yI_e (f10).2 (yI_s (f10).2 f11 (by omega) (f8).1) (f8).2
  have hw := f13
  rcases (show r15 = 0 ∨ r15 = 1 ∨ r15 = 2 ∨ r15 = 3 by omega) with z | z | z | z <;> subst z <;> first
    | (exfalso; omega)
    | (refine wcS_s hw (by omega) (by simp only [rowX_0, rowX_1, rowX_2, rowX_3]; rfl) ⟨_, _, _, hy, ?_⟩ (fun t h1 h2 h3 => ?_)
       · unfold cutF
         (repeat' split) <;> first | rfl | (exfalso; omega)
       · rcases (show t = 0 ∨ t = 1 ∨ t = 2 ∨ t = 3 by omega) with y | y | y | y <;> subst y <;> first | (exact absurd rfl h3) | (simp only [rowX_0, rowX_1, rowX_2, rowX_3])))
def w_xo_writeC_1_7 : VC := (([(0, 23), (0, 49), (1, 8), (0, 10), (0, 8), (0, 6), (0, 6), (0, 8), (0, 9), (0, 49), (0, 49), ((-2147483648), 2147483647), ((-2147483648), 2147483647), (0, 5), (0, 7), (0, 0), (1, 24), (0, 23), (0, 49), (0, 49), (0, 49), (0, 99), ((-1), 2), (1, 1), ((-2147483648), 2147483647)]), [(21, [(some 17, 0), (some 24, 0)], [70, 63]), (19, [(some 24, 0), (some 21, 0)], []), (0, [(some 23, 0), (none, 1)], []), (20, [(some 23, 0), (some 15, 0)], [46]), (1, [(some 22, 0), (none, 0)], []), (20, [(some 22, 0), (some 15, 0)], [46]), (0, [(some 15, 0), (none, 0)], []), (20, [(some 21, 0), (some 14, 0)], [67]), (91, [(some 19, 0), (some 20, 0), (some 18, 0), (some 17, 0), (none, 0), (none, 0)], [58, 59, 7, 8, 10, 11, 16, 20, 21, 24, 25, 60, 61, 62, 67, 68, 69]), (2, [(some 17, 0), (some 16, 0)], []), (150, [(some 18, 0), (some 2, 0), (some 3, 0), (some 4, 0), (some 5, 0), (some 6, 0)], [58, 59, 7, 8, 10, 11, 12, 13, 15, 16, 19, 20, 21, 23, 24, 25]), (149, [(some 19, 0), (some 17, 0), (some 2, 0), (some 3, 0), (some 4, 0), (some 5, 0), (some 6, 0), (none, 0), (none, 0)], [7, 8, 10, 11, 12, 13, 15, 16, 19, 20, 21, 23, 24, 25, 58, 60, 61, 62]), (147, [(some 16, 0), (some 14, 0), (some 15, 0), (some 2, 0)], [45, 46]), (161, [(some 17, 0), (some 14, 0), (some 15, 0), (some 2, 0), (some 3, 0), (some 4, 0), (some 5, 0), (some 6, 0), (none, 0), (none, 0)], [7, 8, 10, 11, 12, 13, 15, 16, 19, 20, 21, 23, 24, 25, 46, 41, 42, 43, 44, 63, 64, 65, 66]), (3, [(some 16, 0), (some 17, 0)], []), (3, [(some 15, 0), (none, 0)], []), (3, [(none, 3), (some 15, 0)], []), (3, [(some 14, 0), (none, 0)], []), (2, [(some 14, 0), (some 2, 0)], [])], (3, [(some 16, 0), (some 17, 1)], []))
set_option maxRecDepth 20000 in
theorem v_xo_writeC_1_7 {PT : PTy} (hp : HP11 PT) : vcOk PT w_xo_writeC_1_7 := vc_iv [(2, 1, 8), (3, 0, 10), (4, 0, 8), (5, 0, 6), (6, 0, 6), (14, 0, 7), (15, 0, 0), (16, 1, 24), (17, 0, 23), (18, 0, 49), (19, 0, 49), (20, 0, 49), (21, 0, 99), (22, (-1), 2), (23, 1, 1), (24, (-2147483648), 2147483647)] [7, 8, 10, 11, 12, 13, 15, 16, 19, 20, 21, 23, 24, 25, 41, 42, 43, 44, 45, 46, 58, 59, 60, 61, 62, 63, 64, 65, 66, 67, 68, 69, 70] (by decide +kernel) (fun ρ α => by
  intro r2 g2 b2 r3 g3 b3 r4 g4 b4 r5 g5 b5 r6 g6 b6 r14 g14 b14 r15 g15 b15 r16 g16 b16 r17 g17 b17 r18 g18 b18 r19 g19 b19 r20 g20 b20 r21 g21 b21 r22 g22 b22 r23 g23 b23 r24 g24 b24 a7 h7 a8 h8 a10 h10 a11 h11 a12 h12 a13 h13 a15 h15 a16 h16 a19 h19 a20 h20 a21 h21 a23 h23 a24 h24 a25 h25 a41 h41 a42 h42 a43 h43 a44 h44 a45 h45 a46 h46 a58 h58 a59 h59 a60 h60 a61 h61 a62 h62 a63 h63 a64 h64 a65 h65 a66 h66 a67 h67 a68 h68 a69 h69 a70 h70 f0 f1 f2 f3 f4 f5 f6 f7 f8 f9 f10 f11 f12 f13 f14 f15 f16 f17 f18 tt
  clear f15 f16 f17
  have e91 : PT 91 = P_adE := pe91_11 hp
  have e147 : PT 147 = P_wrX := pe147_11 hp
  have e149 : PT 149 = P_yi := pe149_11 hp
  have e150 : PT 150 = P_ar2 := pe150_11 hp
  have e161 : PT 161 = P_wcX := pe161_11 hp
  simp only [hF0, hF1, hF2, hF3, hF19, hF20, hF21, hFp_91, hFp_147, hFp_149, hFp_150, hFp_161, e91, e147, e149, e150, e161, P_adE, P_wrX, P_yi, P_ar2, P_wcX, den_s, den_c, Int.add_zero, List.map_cons, List.map_nil, g2.eq, g3.eq, g4.eq, g5.eq, g6.eq, g14.eq, g15.eq, g16.eq, g17.eq, g18.eq, g19.eq, g20.eq, g21.eq, g22.eq, g23.eq, g24.eq, h7, h8, h10, h11, h12, h13, h15, h16, h19, h20, h21, h23, h24, h25, h41, h42, h43, h44, h45, h46, h58, h59, h60, h61, h62, h63, h64, h65, h66, h67, h68, h69, h70] at f0 f1 f2 f3 f4 f5 f6 f7 f8 f9 f10 f11 f12 f13 f14 f18 ⊢
  subst f0
  subst f1
  subst f3
  subst f5
  subst f7
  ((repeat' (first | apply And.intro | intro h)) <;> first | omega | rfl | trivial | (exfalso; omega)))
def w_xo_writeC_1_8 : VC := (([(0, 23), (0, 49), (1, 8), (0, 10), (0, 8), (0, 6), (0, 6), (0, 8), (0, 9), (0, 49), (0, 49), ((-2147483648), 2147483647), ((-2147483648), 2147483647), (0, 5), (0, 7), (0, 0), (1, 24), (0, 23), (0, 49), (0, 49), (0, 49), (0, 99), (0, 0), ((-2147483648), 2147483647)]), [(21, [(some 17, 0), (some 23, 0)], [70, 63]), (18, [(some 23, 0), (some 21, 0)], []), (0, [(some 22, 0), (none, 0)], []), (20, [(some 22, 0), (some 15, 0)], [46]), (0, [(some 15, 0), (none, 0)], []), (20, [(some 21, 0), (some 14, 0)], [67]), (91, [(some 19, 0), (some 20, 0), (some 18, 0), (some 17, 0), (none, 0), (none, 0)], [58, 59, 7, 8, 10, 11, 16, 20, 21, 24, 25, 60, 61, 62, 67, 68, 69]), (2, [(some 17, 0), (some 16, 0)], []), (150, [(some 18, 0), (some 2, 0), (some 3, 0), (some 4, 0), (some 5, 0), (some 6, 0)], [58, 59, 7, 8, 10, 11, 12, 13, 15, 16, 19, 20, 21, 23, 24, 25]), (149, [(some 19, 0), (some 17, 0), (some 2, 0), (some 3, 0), (some 4, 0), (some 5, 0), (some 6, 0), (none, 0), (none, 0)], [7, 8, 10, 11, 12, 13, 15, 16, 19, 20, 21, 23, 24, 25, 58, 60, 61, 62]), (147, [(some 16, 0), (some 14, 0), (some 15, 0), (some 2, 0)], [45, 46]), (161, [(some 17, 0), (some 14, 0), (some 15, 0), (some 2, 0), (some 3, 0), (some 4, 0), (some 5, 0), (some 6, 0), (none, 0), (none, 0)], [7, 8, 10, 11, 12, 13, 15, 16, 19, 20, 21, 23, 24, 25, 46, 41, 42, 43, 44, 63, 64, 65, 66]), (3, [(some 16, 0), (some 17, 0)], []), (3, [(some 15, 0), (none, 0)], []), (3, [(none, 3), (some 15, 0)], []), (3, [(some 14, 0), (none, 0)], []), (2, [(some 14, 0), (some 2, 0)], [])], (149, [(some 20, 0), (some 17, 1), (some 2, 0), (some 3, 0), (some 4, 0), (some 5, 0), (some 6, 0), (none, 0), (none, 0)], [7, 8, 10, 11, 12, 13, 15, 16, 19, 20, 21, 23, 24, 25, 58, 67, 68, 69]))
set_option maxRecDepth 20000 in
theorem v_xo_writeC_1_8 {PT : PTy} (hp : HP11 PT) : vcOk PT w_xo_writeC_1_8 := vc_in [(2, 1, 8), (3, 0, 10), (4, 0, 8), (5, 0, 6), (6, 0, 6), (14, 0, 7), (15, 0, 0), (16, 1, 24), (17, 0, 23), (18, 0, 49), (19, 0, 49), (20, 0, 49), (21, 0, 99), (22, 0, 0), (23, (-2147483648), 2147483647)] (by decide +kernel) (fun ρ α => by
  intro b2 b3 b4 b5 b6 b14 b15 b16 b17 b18 b19 b20 b21 b22 b23 f0 f1 f2 f3 f4 f5 f6 f7 f8 f9 f10 f11 f12 f13 f14 f15 f16 tt
  clear f13 f14 f15
  have e91 : PT 91 = P_adE := pe91_11 hp
  have e147 : PT 147 = P_wrX := pe147_11 hp
  have e149 : PT 149 = P_yi := pe149_11 hp
  have e150 : PT 150 = P_ar2 := pe150_11 hp
  have e161 : PT 161 = P_wcX := pe161_11 hp
  simp only [hF0, hF2, hF3, hF18, hF20, hF21, hFp_91, hFp_147, hFp_149, hFp_150, hFp_161, e91, e147, e149, e150, e161, P_adE, P_wrX, P_yi, P_ar2, P_wcX, den_s, den_c, Int.add_zero, List.map_cons, List.map_nil] at f0 f1 f2 f3 f4 f5 f6 f7 f8 f9 f10 f11 f12 f16 ⊢
  exact yI_s (f8).2 f9 (by omega) (f6).1)
def w_xo_writeC_1_9 : VC := (([(0, 23), (0, 49), (1, 8), (0, 10), (0, 8), (0, 6), (0, 6), (0, 8), (0, 9), (0, 49), (0, 49), ((-2147483648), 2147483647), ((-2147483648), 2147483647), (0, 5), (0, 7), (0, 0), (1, 24), (0, 23), (0, 49), (0, 49), (0, 49), (0, 99), (0, 0), ((-2147483648), 2147483647)]), [(21, [(some 17, 0), (some 23, 0)], [70, 63]), (18, [(some 23, 0), (some 21, 0)], []), (0, [(some 22, 0), (none, 0)], []), (20, [(some 22, 0), (some 15, 0)], [46]), (0, [(some 15, 0), (none, 0)], []), (20, [(some 21, 0), (some 14, 0)], [67]), (91, [(some 19, 0), (some 20, 0), (some 18, 0), (some 17, 0), (none, 0), (none, 0)], [58, 59, 7, 8, 10, 11, 16, 20, 21, 24, 25, 60, 61, 62, 67, 68, 69]), (2, [(some 17, 0), (some 16, 0)], []), (150, [(some 18, 0), (some 2, 0), (some 3, 0), (some 4, 0), (some 5, 0), (some 6, 0)], [58, 59, 7, 8, 10, 11, 12, 13, 15, 16, 19, 20, 21, 23, 24, 25]), (149, [(some 19, 0), (some 17, 0), (some 2, 0), (some 3, 0), (some 4, 0), (some 5, 0), (some 6, 0), (none, 0), (none, 0)], [7, 8, 10, 11, 12, 13, 15, 16, 19, 20, 21, 23, 24, 25, 58, 60, 61, 62]), (147, [(some 16, 0), (some 14, 0), (some 15, 0), (some 2, 0)], [45, 46]), (161, [(some 17, 0), (some 14, 0), (some 15, 0), (some 2, 0), (some 3, 0), (some 4, 0), (some 5, 0), (some 6, 0), (none, 0), (none, 0)], [7, 8, 10, 11, 12, 13, 15, 16, 19, 20, 21, 23, 24, 25, 46, 41, 42, 43, 44, 63, 64, 65, 66]), (3, [(some 16, 0), (some 17, 0)], []), (3, [(some 15, 0), (none, 0)], []), (3, [(none, 3), (some 15, 0)], []), (3, [(some 14, 0), (none, 0)], []), (2, [(some 14, 0), (some 2, 0)], [])], (161, [(some 17, 1), (some 14, 0), (some 15, 0), (some 2, 0), (some 3, 0), (some 4, 0), (some 5, 0), (some 6, 0), (none, 0), (none, 0)], [7, 8, 10, 11, 12, 13, 15, 16, 19, 20, 21, 23, 24, 25, 46, 41, 42, 43, 44, 70, 64, 65, 66]))
set_option maxRecDepth 20000 in
theorem v_xo_writeC_1_9 {PT : PTy} (hp : HP11 PT) : vcOk PT w_xo_writeC_1_9 := vc_iv [(2, 1, 8), (3, 0, 10), (4, 0, 8), (5, 0, 6), (6, 0, 6), (14, 0, 7), (15, 0, 0), (16, 1, 24), (17, 0, 23), (18, 0, 49), (19, 0, 49), (20, 0, 49), (21, 0, 99), (22, 0, 0), (23, (-2147483648), 2147483647)] [7, 8, 10, 11, 12, 13, 15, 16, 19, 20, 21, 23, 24, 25, 41, 42, 43, 44, 45, 46, 58, 59, 60, 61, 62, 63, 64, 65, 66, 67, 68, 69, 70] (by decide +kernel) (fun ρ α => by
  intro r2 g2 b2 r3 g3 b3 r4 g4 b4 r5 g5 b5 r6 g6 b6 r14 g14 b14 r15 g15 b15 r16 g16 b16 r17 g17 b17 r18 g18 b18 r19 g19 b19 r20 g20 b20 r21 g21 b21 r22 g22 b22 r23 g23 b23 a7 h7 a8 h8 a10 h10 a11 h11 a12 h12 a13 h13 a15 h15 a16 h16 a19 h19 a20 h20 a21 h21 a23 h23 a24 h24 a25 h25 a41 h41 a42 h42 a43 h43 a44 h44 a45 h45 a46 h46 a58 h58 a59 h59 a60 h60 a61 h61 a62 h62 a63 h63 a64 h64 a65 h65 a66 h66 a67 h67 a68 h68 a69 h69 a70 h70 f0 f1 f2 f3 f4 f5 f6 f7 f8 f9 f10 f11 f12 f13 f14 f15 f16 tt
  clear f13 f14 f15
  have e91 : PT 91 = P_adE := pe91_11 hp
  have e147 : PT 147 = P_wrX := pe147_11 hp
  have e149 : PT 149 = P_yi := pe149_11 hp
  have e150 : PT 150 = P_ar2 := pe150_11 hp
  have e161 : PT 161 = P_wcX := pe161_11 hp
  simp only [hF0, hF2, hF3, hF18, hF20, hF21, hFp_91, hFp_147, hFp_149, hFp_150, hFp_161, e91, e147, e149, e150, e161, P_adE, P_wrX, P_yi, P_ar2, P_wcX, den_s, den_c, Int.add_zero, List.map_cons, List.map_nil, g2.eq, g3.eq, g4.eq, g5.eq, g6.eq, g14.eq, g15.eq, g16.eq, g17.eq, g18.eq, g19.eq, g20.eq, g21.eq, g22.eq, g23.eq, h7, h8, h10, h11, h12, h13, h15, h16, h19, h20, h21, h23, h24, h25, h41, h42, h43, h44, h45, h46, h58, h59, h60, h61, h62, h63, h64, h65, h66, h67, h68, h69, h70] at f0 f1 f2 f3 f4 f5 f6 f7 f8 f9 f10 f11 f12 f16 ⊢
  subst f0
  subst f1
  subst f3
  subst f5
  have hy := yI_e (f8).2 (yI_s (f8).2 f9 (by omega) (f6).1) (f6).2
  have hw := f11
  rcases (show r15 = 0 ∨ r15 = 1 ∨ r15 = 2 ∨ r15 = 3 by omega) with z | z | z | z <;> subst z <;> first
    | (exfalso; omega)
    | (refine wcS_s hw (by omega) (by simp only [rowX_0, rowX_1, rowX_2, rowX_3]; rfl) ⟨_, _, _, hy, ?_⟩ (fun t h1 h2 h3 => ?_)
       · unfold cutF
         (repeat' split) <;> first | rfl | (exfalso; omega)
       · rcases (show t = 0 ∨ t = 1 ∨ t = 2 ∨ t = 3 by omega) with y | y | y | y <;> subst y <;> first | (exact absurd rfl h3) | (simp only [rowX_0, rowX_1, rowX_2, rowX_3])))
def w_xo_writeC_1_10 : VC := (([(0, 23), (0, 49), (1, 8), (0, 10), (0, 8), (0, 6), (0, 6), (0, 8), (0, 9), (0, 49), (0, 49), ((-2147483648), 2147483647), ((-2147483648), 2147483647), (0, 5), (0, 7), (0, 0), (1, 24), (0, 23), (0, 49), (0, 49), (0, 49), (0, 99), (0, 0), ((-2147483648), 2147483647)]), [(21, [(some 17, 0), (some 23, 0)], [70, 63]), (18, [(some 23, 0), (some 21, 0)], []), (0, [(some 22, 0), (none, 0)], []), (20, [(some 22, 0), (some 15, 0)], [46]), (0, [(some 15, 0), (none, 0)], []), (20, [(some 21, 0), (some 14, 0)], [67]), (91, [(some 19, 0), (some 20, 0), (some 18, 0), (some 17, 0), (none, 0), (none, 0)], [58, 59, 7, 8, 10, 11, 16, 20, 21, 24, 25, 60, 61, 62, 67, 68, 69]), (2, [(some 17, 0), (some 16, 0)], []), (150, [(some 18, 0), (some 2, 0), (some 3, 0), (some 4, 0), (some 5, 0), (some 6, 0)], [58, 59, 7, 8, 10, 11, 12, 13, 15, 16, 19, 20, 21, 23, 24, 25]), (149, [(some 19, 0), (some 17, 0), (some 2, 0), (some 3, 0), (some 4, 0), (some 5, 0), (some 6, 0), (none, 0), (none, 0)], [7, 8, 10, 11, 12, 13, 15, 16, 19, 20, 21, 23, 24, 25, 58, 60, 61, 62]), (147, [(some 16, 0), (some 14, 0), (some 15, 0), (some 2, 0)], [45, 46]), (161, [(some 17, 0), (some 14, 0), (some 15, 0), (some 2, 0), (some 3, 0), (some 4, 0), (some 5, 0), (some 6, 0), (none, 0), (none, 0)], [7, 8, 10, 11, 12, 13, 15, 16, 19, 20, 21, 23, 24, 25, 46, 41, 42, 43, 44, 63, 64, 65, 66]), (3, [(some 16, 0), (some 17, 0)], []), (3, [(some 15, 0), (none, 0)], []), (3, [(none, 3), (some 15, 0)], []), (3, [(some 14, 0), (none, 0)], []), (2, [(some 14, 0), (some 2, 0)], [])], (3, [(some 16, 0), (some 17, 1)], []))
set_option maxRecDepth 20000 in
theorem v_xo_writeC_1_10 {PT : PTy} (hp : HP11 PT) : vcOk PT w_xo_writeC_1_10 := vc_iv [(2, 1, 8), (3, 0, 10), (4, 0, 8), (5, 0, 6), (6, 0, 6), (14, 0, 7), (15, 0, 0), (16, 1, 24), (17, 0, 23), (18, 0, 49), (19, 0, 49), (20, 0, 49), (21, 0, 99), (22, 0, 0), (23, (-2147483648), 2147483647)] [7, 8, 10, 11, 12, 13, 15, 16, 19, 20, 21, 23, 24, 25, 41, 42, 43, 44, 45, 46, 58, 59, 60, 61, 62, 63, 64, 65, 66, 67, 68, 69, 70] (by decide +kernel) (fun ρ α => by
  intro r2 g2 b2 r3 g3 b3 r4 g4 b4 r5 g5 b5 r6 g6 b6 r14 g14 b14 r15 g15 b15 r16 g16 b16 r17 g17 b17 r18 g18 b18 r19 g19 b19 r20 g20 b20 r21 g21 b21 r22 g22 b22 r23 g23 b23 a7 h7 a8 h8 a10 h10 a11 h11 a12 h12 a13 h13 a15 h15 a16 h16 a19 h19 a20 h20 a21 h21 a23 h23 a24 h24 a25 h25 a41 h41 a42 h42 a43 h43 a44 h44 a45 h45 a46 h46 a58 h58 a59 h59 a60 h60 a61 h61 a62 h62 a63 h63 a64 h64 a65 h65 a66 h66 a67 h67 a68 h68 a69 h69 a70 h70 f0 f1 f2 f3 f4 f5 f6 f7 f8 f9 f10 f11 f12 f13 f14 f15 f16 tt
  clear f13 f14 f15
  have e91 : PT 91 = P_adE := pe91_11 hp
  have e147 : PT 147 = P_wrX := pe147_11 hp
  have e149 : PT 149 = P_yi := pe149_11 hp
  have e150 : PT 150 = P_ar2 := pe150_11 hp
  have e161 : PT 161 = P_wcX := pe161_11 hp
  simp only [hF0, hF2, hF3, hF18, hF20, hF21, hFp_91, hFp_147, hFp_149, hFp_150, hFp_161, e91, e147, e149, e150, e161, P_adE, P_wrX, P_yi, P_ar2, P_wcX, den_s, den_c, Int.add_zero, List.map_cons, List.map_nil, g2.eq, g3.eq, g4.eq, g5.eq, g6.eq, g14.eq, g15.eq, g16.eq, g17.eq, g18.eq, g19.eq, g20.eq, g21.eq, g22.eq, g23.eq, h7, h8, h10, h11, h12, h13, h15, h16, h19, h20, h21, h23, h24, h25, h41, h42, h43, h44, h45, h46, h58, h59, h60, h61, h62, h63, h64, h65, h66, h67, h68, h69, h70] at f0 f1 f2 f3 f4 f5 f6 f7 f8 f9 f10 f11 f12 f16 ⊢
  subst f0
  subst f1
  subst f3
  subst f5
  ((repeat' (first | apply And.intro | intro h)) <;> first | omega | rfl | trivial | (exfalso; omega)))
def w_xo_writeC_1_11 : VC := (([(0, 23), (0, 49), (1, 8), (0, 10), (0, 8), (0, 6), (0, 6), (0, 8), (0, 9), (0, 49), (0, 49), ((-2147483648), 2147483647), ((-2147483648), 2147483647), (0, 5), (0, 7), (1, 1), (1, 24), (0, 23), (0, 49), (0, 49), (0, 49), (0, 99), ((-1), 2), ((-1), 2)]), [(21, [(some 17, 0), (some 21, 0)], [70, 64]), (1, [(some 23, 0), (none, 1)], []), (20, [(some 23, 0), (some 15, 0)], [46]), (1, [(some 22, 0), (none, 0)], []), (20, [(some 22, 0), (some 15, 0)], [46]), (0, [(some 15, 0), (none, 1)], []), (20, [(some 21, 0), (some 14, 0)], [67]), (91, [(some 19, 0), (some 20, 0), (some 18, 0), (some 17, 0), (none, 0), (none, 0)], [58, 59, 7, 8, 10, 11, 16, 20, 21, 24, 25, 60, 61, 62, 67, 68, 69]), (2, [(some 17, 0), (some 16, 0)], []), (150, [(some 18, 0), (some 2, 0), (some 3, 0), (some 4, 0), (some 5, 0), (some 6, 0)], [58, 59, 7, 8, 10, 11, 12, 13, 15, 16, 19, 20, 21, 23, 24, 25]), (149, [(some 19, 0), (some 17, 0), (some 2, 0), (some 3, 0), (some 4, 0), (some 5, 0), (some 6, 0), (none, 0), (none, 0)], [7, 8, 10, 11, 12, 13, 15, 16, 19, 20, 21, 23, 24, 25, 58, 60, 61, 62]), (147, [(some 16, 0), (some 14, 0), (some 15, 0), (some 2, 0)], [45, 46]), (161, [(some 17, 0), (some 14, 0), (some 15, 0), (some 2, 0), (some 3, 0), (some 4, 0), (some 5, 0), (some 6, 0), (none, 0), (none, 0)], [7, 8, 10, 11, 12, 13, 15, 16, 19, 20, 21, 23, 24, 25, 46, 41, 42, 43, 44, 63, 64, 65, 66]), (3, [(some 16, 0), (some 17, 0)], []), (3, [(some 15, 0), (none, 0)], []), (3, [(none, 3), (some 15, 0)], []), (3, [(some 14, 0), (none, 0)], []), (2, [(some 14, 0), (some 2, 0)], [])], (149, [(some 20, 0), (some 17, 1), (some 2, 0), (some 3, 0), (some 4, 0), (some 5, 0), (some 6, 0), (none, 0), (none, 0)], [7, 8, 10, 11, 12, 13, 15, 16, 19, 20, 21, 23, 24, 25, 58, 67, 68, 69]))
set_option maxRecDepth 20000 in
theorem v_xo_writeC_1_11 {PT : PTy} (hp : HP11 PT) : vcOk PT w_xo_writeC_1_11 := vc_in [(2, 1, 8), (3, 0, 10), (4, 0, 8), (5, 0, 6), (6, 0, 6), (14, 0, 7), (15, 1, 1), (16, 1, 24), (17, 0, 23), (18, 0, 49), (19, 0, 49), (20, 0, 49), (21, 0, 99), (22, (-1), 2), (23, (-1), 2)] (by decide +kernel) (fun ρ α => by
  intro b2 b3 b4 b5 b6 b14 b15 b16 b17 b18 b19 b20 b21 b22 b23 f0 f1 f2 f3 f4 f5 f6 f7 f8 f9 f10 f11 f12 f13 f14 f15 f16 f17 tt
  clear f14 f15 f16
  have e91 : PT 91 = P_adE := pe91_11 hp
  have e147 : PT 147 = P_wrX := pe147_11 hp
  have e149 : PT 149 = P_yi := pe149_11 hp
  have e150 : PT 150 = P_ar2 := pe150_11 hp
  have e161 : PT 161 = P_wcX := pe161_11 hp
  simp only [hF0, hF1, hF2, hF3, hF20, hF21, hFp_91, hFp_147, hFp_149, hFp_150, hFp_161, e91, e147, e149, e150, e161, P_adE, P_wrX, P_yi, P_ar2, P_wcX, den_s, den_c, Int.add_zero, List.map_cons, List.map_nil] at f0 f1 f2 f3 f4 f5 f6 f7 f8 f9 f10 f11 f12 f13 f17 ⊢
  exact yI_s (f9).2 f10 (by omega) (f7).1)
def w_xo_writeC_1_12 : VC := (([(0, 23), (0, 49), (1, 8), (0, 10), (0, 8), (0, 6), (0, 6), (0, 8), (0, 9), (0, 49), (0, 49), ((-2147483648), 2147483647), ((-2147483648), 2147483647), (0, 5), (0, 7), (1, 1), (1, 24), (0, 23), (0, 49), (0, 49), (0, 49), (0, 99), ((-1), 2), ((-1), 2)]), [(21, [(some 17, 0), (some 21, 0)], [70, 64]), (1, [(some 23, 0), (none, 1)], []), (20, [(some 23, 0), (some 15, 0)], [46]), (1, [(some 22, 0), (none, 0)], []), (20, [(some 22, 0), (some 15, 0)], [46]), (0, [(some 15, 0), (none, 1)], []), (20, [(some 21, 0), (some 14, 0)], [67]), (91, [(some 19, 0), (some 20, 0), (some 18, 0), (some 17, 0), (none, 0), (none, 0)], [58, 59, 7, 8, 10, 11, 16, 20, 21, 24, 25, 60, 61, 62, 67, 68, 69]), (2, [(some 17, 0), (some 16, 0)], []), (150, [(some 18, 0), (some 2, 0), (some 3, 0), (some 4, 0), (some 5, 0), (some 6, 0)], [58, 59, 7, 8, 10, 11, 12, 13, 15, 16, 19, 20, 21, 23, 24, 25]), (149, [(some 19, 0), (some 17, 0), (some 2, 0), (some 3, 0), (some 4, 0), (some 5, 0), (some 6, 0), (none, 0), (none, 0)], [7, 8, 10, 11, 12, 13, 15, 16, 19, 20, 21, 23, 24, 25, 58, 60, 61, 62]), (147, [(some 16, 0), (some 14, 0), (some 15, 0), (some 2, 0)], [45, 46]), (161, [(some 17, 0), (some 14, 0), (some 15, 0), (some 2, 0), (some 3, 0), (some 4, 0), (some 5, 0), (some 6, 0), (none, 0), (none, 0)], [7, 8, 10, 11, 12, 13, 15, 16, 19, 20, 21, 23, 24, 25, 46, 41, 42, 43, 44, 63, 64, 65, 66]), (3, [(some 16, 0), (some 17, 0)], []), (3, [(some 15, 0), (none, 0)], []), (3, [(none, 3), (some 15, 0)], []), (3, [(some 14, 0), (none, 0)], []), (2, [(some 14, 0), (some 2, 0)], [])], (161, [(some 17, 1), (some 14, 0), (some 15, 0), (some 2, 0), (some 3, 0), (some 4, 0), (some 5, 0), (some 6, 0), (none, 0), (none, 0)], [7, 8, 10, 11, 12, 13, 15, 16, 19, 20, 21, 23, 24, 25, 46, 41, 42, 43, 44, 63, 70, 65, 66]))
set_option maxRecDepth 20000 in
theorem v_xo_writeC_1_12 {PT : PTy} (hp : HP11 PT) : vcOk PT w_xo_writeC_1_12 := vc_iv [(2, 1, 8), (3, 0, 10), (4, 0, 8), (5, 0, 6), (6, 0, 6), (14, 0, 7), (15, 1, 1), (16, 1, 24), (17, 0, 23), (18, 0, 49), (19, 0, 49), (20, 0, 49), (21, 0, 99), (22, (-1), 2), (23, (-1), 2)] [7, 8, 10, 11, 12, 13, 15, 16, 19, 20, 21, 23, 24, 25, 41, 42, 43, 44, 45, 46, 58, 59, 60, 61, 62, 63, 64, 65, 66, 67, 68, 69, 70] (by decide +kernel) (fun ρ α => by
  intro r2 g2 b2 r3 g3 b3 r4 g4 b4 r5 g5 b5 r6 g6 b6 r14 g14 b14 r15 g15 b15 r16 g16 b16 r17 g17 b17 r18 g18 b18 r19 g19 b19 r20 g20 b20 r21 g21 b21 r22 g22 b22 r23 g23 b23 a7 h7 a8 h8 a10 h10 a11 h11 a12 h12 a13 h13 a15 h15 a16 h16 a19 h19 a20 h20 a21 h21 a23 h23 a24 h24 a25 h25 a41 h41 a42 h42 a43 h43 a44 h44 a45 h45 a46 h46 a58 h58 a59 h59 a60 h60 a61 h61 a62 h62 a63 h63 a64 h64 a65 h65 a66 h66 a67 h67 a68 h68 a69 h69 a70 h70 f0 f1 f2 f3 f4 f5 f6 f7 f8 f9 f10 f11 f12 f13 f14 f15 f16 f17 tt
  clear f14 f15 f16
  have e91 : PT 91 = P_adE := pe91_11 hp
  have e147 : PT 147 = P_wrX := pe147_11 hp
  have e149 : PT 149 = P_yi := pe149_11 hp
  have e150 : PT 150 = P_ar2 := pe150_11 hp
  have e161 : PT 161 = P_wcX := pe161_11 hp
  simp only [hF0, hF1, hF2, hF3, hF20, hF21, hFp_91, hFp_147, hFp_149, hFp_150, hFp_161, e91, e147, e149, e150, e161, P_adE, P_wrX, P_yi, P_ar2, P_wcX, den_s, den_c, Int.add_zero, List.map_cons, List.map_nil, g2.eq, g3.eq, g4.eq, g5.eq, g6.eq, g14.eq, g15.eq, g16.eq, g17.eq, g18.eq, g19.eq, g20.eq, g21.eq, g22.eq, g23.eq, h7, h8, h10, h11, h12, h13, h15, h16, h19, h20, h21, h23, h24, h25, h41, h42, h43, h44, h45, h46, h58, h59, h60, h61, h62, h63, h64, h65, h66, h67, h68, h69, h70] at f0 f1 f2 f3 f4 f5 f6 f7 f8 f9 f10 f11 f12 f13 f17 ⊢
  subst f0
  subst f2
  subst f4
  subst f6
  have hy := yI_e (f9).2 (yI_s (f9).2 f10 (by omega) (f7).1) (f7).2
  have hw := f12
  rcases (show r15 = 0 ∨ r15 = 1 ∨ r15 = 2 ∨ r15 = 3 by omega) with z | z | z | z <;> subst z <;> first
    | (exfalso; omega)
    | (refine wcS_s hw (by omega) (by simp only [rowX_0, rowX_1, rowX_2, rowX_3]; rfl) ⟨_, _, _, hy, ?_⟩ (fun t h1 h2 h3 => ?_)
       · unfold cutF
         (repeat' split) <;> first | rfl | (exfalso; omega)
       · rcases (show t = 0 ∨ t = 1 ∨ t = 2 ∨ t = 3 by omega) with y | y | y | y <;> subst y <;> first | (exact absurd rfl h3) | (simp only [rowX_0, rowX_1, rowX_2, rowX_3])))
def w_xo_writeC_1_13 : VC := (([(0, 23), (0, 49), (1, 8), (0, 10), (0, 8), (0, 6), (0, 6), (0, 8), (0, 9), (0, 49), (0, 49), ((-2147483648), 2147483647), ((-2147483648), 2147483647), (0, 5), (0, 7), (1, 1), (1, 24), (0, 23), (0, 49), (0, 49), (0, 49), (0, 99), ((-1), 2), ((-1), 2)]), [(21, [(some 17, 0), (some 21, 0)], [70, 64]), (1, [(some 23, 0), (none, 1)], []), (20, [(some 23, 0), (some 15, 0)], [46]), (1, [(some 22, 0), (none, 0)], []), (20, [(some 22, 0), (some 15, 0)], [46]), (0, [(some 15, 0), (none, 1)], []), (20, [(some 21, 0), (some 14, 0)], [67]), (91, [(some 19, 0), (some 20, 0), (some 18, 0), (some 17, 0), (none, 0), (none, 0)], [58, 59, 7, 8, 10, 11, 16, 20, 21, 24, 25, 60, 61, 62, 67, 68, 69]), (2, [(some 17, 0), (some 16, 0)], []), (150, [(some 18, 0), (some 2, 0), (some 3, 0), (some 4, 0), (some 5, 0), (some 6, 0)], [58, 59, 7, 8, 10, 11, 12, 13, 15, 16, 19, 20, 21, 23, 24, 25]), (149, [(some 19, 0), (some 17, 0), (some 2, 0), (some 3, 0), (some 4, 0), (some 5, 0), (some 6, 0), (none, 0), (none, 0)], [7, 8, 10, 11, 12, 13, 15, 16, 19, 20, 21, 23, 24, 25, 58, 60, 61, 62]), (147, [(some 16, 0), (some 14, 0), (some 15, 0), (some 2, 0)], [45, 46]), (161, [(some 17, 0), (some 14, 0), (some 15, 0), (some 2, 0), (some 3, 0), (some 4, 0), (some 5, 0), (some 6, 0), (none, 0), (none, 0)], [7, 8, 10, 11, 12, 13, 15, 16, 19, 20, 21, 23, 24, 25, 46, 41, 42, 43, 44, 63, 64, 65, 66]), (3, [(some 16, 0), (some 17, 0)], []), (3, [(some 15, 0), (none, 0)], []), (3, [(none, 3), (some 15, 0)], []), (3, [(some 14, 0), (none, 0)], []), (2, [(some 14, 0), (some 2, 0)], [])], (3, [(some 16, 0), (some 17, 1)], []))
set_option maxRecDepth 20000 in
theorem v_xo_writeC_1_13 {PT : PTy} (hp : HP11 PT) : vcOk PT w_xo_writeC_1_13 := vc_iv [(2, 1, 8), (3, 0, 10), (4, 0, 8), (5, 0, 6), (6, 0, 6), (14, 0, 7), (15, 1, 1), (16, 1, 24), (17, 0, 23), (18, 0, 49), (19, 0, 49), (20, 0, 49), (21, 0, 99), (22, (-1), 2), (23, (-1), 2)] [7, 8, 10, 11, 12, 13, 15, 16, 19, 20, 21, 23, 24, 25, 41, 42, 43, 44, 45, 46, 58, 59, 60, 61, 62, 63, 64, 65, 66, 67, 68, 69, 70] (by decide +kernel) (fun ρ α => by
  intro r2 g2 b2 r3 g3 b3 r4 g4 b4 r5 g5 b5 r6 g6 b6 r14 g14 b14 r15 g15 b15 r16 g16 b16 r17 g17 b17 r18 g18 b18 r19 g19 b19 r20 g20 b20 r21 g21 b21 r22 g22 b22 r23 g23 b23 a7 h7 a8 h8 a10 h10 a11 h11 a12 h12 a13 h13 a15 h15 a16 h16 a19 h19 a20 h20 a21 h21 a23 h23 a24 h24 a25 h25 a41 h41 a42 h42 a43 h43 a44 h44 a45 h45 a46 h46 a58 h58 a59 h59 a60 h60 a61 h61 a62 h62 a63 h63 a64 h64 a65 h65 a66 h66 a67 h67 a68 h68 a69 h69 a70 h70 f0 f1 f2 f3 f4 f5 f6 f7 f8 f9 f10 f11 f12 f13 f14 f15 f16 f17 tt
  clear f14 f15 f16
  have e91 : PT 91 = P_adE := pe91_11 hp
  have e147 : PT 147 = P_wrX := pe147_11 hp
  have e149 : PT 149 = P_yi := pe149_11 hp
  have e150 : PT 150 = P_ar2 := pe150_11 hp
  have e161 : PT 161 = P_wcX := pe161_11 hp
  simp only [hF0, hF1, hF2, hF3, hF20, hF21, hFp_91, hFp_147, hFp_149, hFp_150, hFp_161, e91, e147, e149, e150, e161, P_adE, P_wrX, P_yi, P_ar2, P_wcX, den_s, den_c, Int.add_zero, List.map_cons, List.map_nil, g2.eq, g3.eq, g4.eq, g5.eq, g6.eq, g14.eq, g15.eq, g16.eq, g17.eq, g18.eq, g19.eq, g20.eq, g21.eq, g22.eq, g23.eq, h7, h8, h10, h11, h12, h13, h15, h16, h19, h20, h21, h23, h24, h25, h41, h42, h43, h44, h45, h46, h58, h59, h60, h61, h62, h63, h64, h65, h66, h67, h68, h69, h70] at f0 f1 f2 f3 f4 f5 f6 f7 f8 f9 f10 f11 f12 f13 f17 ⊢
  subst f0
  subst f2
  subst f4
  subst f6
  ((repeat' (first | apply And.intro | intro h)) <;> first | omega | rfl | trivial | (exfalso; omega)))
def w_xo_writeC_1_14 : VC := (([(0, 23), (0, 49), (1, 8), (0, 10), (0, 8), (0, 6), (0, 6), (0, 8), (0, 9), (0, 49), (0, 49), ((-2147483648), 2147483647), ((-2147483648), 2147483647), (0, 5), (0, 7), (1, 1), (1, 24), (0, 23), (0, 49), (0, 49), (0, 49), (0, 99), ((-1), 2), (1, 1), ((-2147483648), 2147483647)]), [(21, [(some 17, 0), (some 24, 0)], [70, 64]), (19, [(some 24, 0), (some 21, 0)], []), (0, [(some 23, 0), (none, 1)], []), (20, [(some 23, 0), (some 15, 0)], [46]), (1, [(some 22, 0), (none, 0)], []), (20, [(some 22, 0), (some 15, 0)], [46]), (0, [(some 15, 0), (none, 1)], []), (20, [(some 21, 0), (some 14, 0)], [67]), (91, [(some 19, 0), (some 20, 0), (some 18, 0), (some 17, 0), (none, 0), (none, 0)], [58, 59, 7, 8, 10, 11, 16, 20, 21, 24, 25, 60, 61, 62, 67, 68, 69]), (2, [(some 17, 0), (some 16, 0)], []), (150, [(some 18, 0), (some 2, 0), (some 3, 0), (some 4, 0), (some 5, 0), (some 6, 0)], [58, 59, 7, 8, 10, 11, 12, 13, 15, 16, 19, 20, 21, 23, 24, 25]), (149, [(some 19, 0), (some 17, 0), (some 2, 0), (some 3, 0), (some 4, 0), (some 5, 0), (some 6, 0), (none, 0), (none, 0)], [7, 8, 10, 11, 12, 13, 15, 16, 19, 20, 21, 23, 24, 25, 58, 60, 61, 62]), (147, [(some 16, 0), (some 14, 0), (some 15, 0), (some 2, 0)], [45, 46]), (161, [(some 17, 0), (some 14, 0), (some 15, 0), (some 2, 0), (some 3, 0), (some 4, 0), (some 5, 0), (some 6, 0), (none, 0), (none, 0)], [7, 8, 10, 11, 12, 13, 15, 16, 19, 20, 21, 23, 24, 25, 46, 41, 42, 43, 44, 63, 64, 65, 66]), (3, [(some 16, 0), (some 17, 0)], []), (3, [(some 15, 0), (none, 0)], []), (3, [(none, 3), (some 15, 0)], []), (3, [(some 14, 0), (none, 0)], []), (2, [(some 14, 0), (some 2, 0)], [])], (149, [(some 20, 0), (some 17, 1), (some 2, 0), (some 3, 0), (some 4, 0), (some 5, 0), (some 6, 0), (none, 0), (none, 0)], [7, 8, 10, 11, 12, 13, 15, 16, 19, 20, 21, 23, 24, 25, 58, 67, 68, 69]))
set_option maxRecDepth 20000 in
theorem v_xo_writeC_1_14 {PT : PTy} (hp : HP11 PT) : vcOk PT w_xo_writeC_1_14 := vc_in [(2, 1, 8), (3, 0, 10), (4, 0, 8), (5, 0, 6), (6, 0, 6), (14, 0, 7), (15, 1, 1), (16, 1, 24), (17, 0, 23), (18, 0, 49), (19, 0, 49), (20, 0, 49), (21, 0, 99), (22, (-1), 2), (23, 1, 1), (24, (-2147483648), 2147483647)] (by decide +kernel) (fun ρ α => by
  intro b2 b3 b4 b5 b6 b14 b15 b16 b17 b18 b19 b20 b21 b22 b23 b24 f0 f1 f2 f3 f4 f5 f6 f7 f8 f9 f10 f11 f12 f13 f14 f15 f16 f17 f18 tt
  clear f15 f16 f17
  have e91 : PT 91 = P_adE := pe91_11 hp
  have e147 : PT 147 = P_wrX := pe147_11 hp
  have e149 : PT 149 = P_yi := pe149_11 hp
  have e150 : PT 150 = P_ar2 := pe150_11 hp
  have e161 : PT 161 = P_wcX := pe161_11 hp
  simp only [hF0, hF1, hF2, hF3, hF19, hF20, hF21, hFp_91, hFp_147, hFp_149, hFp_150, hFp_161, e91, e147, e149, e150, e161, P_adE, P_wrX, P_yi, P_ar2, P_wcX, den_s, den_c, Int.add_zero, List.map_cons, List.map_nil] at f0 f1 f2 f3 f4 f5 f6 f7 f8 f9 f10 f11 f12 f13 f14 f18 ⊢
  exact yI_s (f10).2 f11 (by omega) (f8).1)
def w_xo_writeC_1_15 : VC := (([(0, 23), (0, 49), (1, 8), (0, 10), (0, 8), (0, 6), (0, 6), (0, 8), (0, 9), (0, 49), (0, 49), ((-2147483648), 2147483647), ((-2147483648), 2147483647), (0, 5), (0, 7), (1, 1), (1, 24), (0, 23), (0, 49), (0, 49), (0, 49), (0, 99), ((-1), 2), (1, 1), ((-2147483648), 2147483647)]), [(21, [(some 17, 0), (some 24, 0)], [70, 64]), (19, [(some 24, 0), (some 21, 0)], []), (0, [(some 23, 0), (none, 1)], []), (20, [(some 23, 0), (some 15, 0)], [46]), (1, [(some 22, 0), (none, 0)], []), (20, [(some 22, 0), (some 15, 0)], [46]), (0, [(some 15, 0), (none, 1)], []), (20, [(some 21, 0), (some 14, 0)], [67]), (91, [(some 19, 0), (some 20, 0), (some 18, 0), (some 17, 0), (none, 0), (none, 0)], [58, 59, 7, 8, 10, 11, 16, 20, 21, 24, 25, 60, 61, 62, 67, 68, 69]), (2, [(some 17, 0), (some 16, 0)], []), (150, [(some 18, 0), (some 2, 0), (some 3, 0), (some 4, 0), (some 5, 0), (some 6, 0)], [58, 59, 7, 8, 10, 11, 12, 13, 15, 16, 19, 20, 21, 23, 24, 25]), (149, [(some 19, 0), (some 17, 0), (some 2, 0), (some 3, 0), (some 4, 0), (some 5, 0), (some 6, 0), (none, 0), (none, 0)], [7, 8, 10, 11, 12, 13, 15, 16, 19, 20, 21, 23, 24, 25, 58, 60, 61, 62]), (147, [(some 16, 0), (some 14, 0), (some 15, 0), (some 2, 0)], [45, 46]), (161, [(some 17, 0), (some 14, 0), (some 15, 0), (some 2, 0), (some 3, 0), (some 4, 0), (some 5, 0), (some 6, 0), (none, 0), (none, 0)], [7, 8, 10, 11, 12, 13, 15, 16, 19, 20, 21, 23, 24, 25, 46, 41, 42, 43, 44, 63, 64, 65, 66]), (3, [(some 16, 0), (some 17, 0)], []), (3, [(some 15, 0), (none, 0)], []), (3, [(none, 3), (some 15, 0)], []), (3, [(some 14, 0), (none, 0)], []), (2, [(some 14, 0), (some 2, 0)], [])], (161, [(some 17, 1), (some 14, 0), (some 15, 0), (some 2, 0), (some 3, 0), (some 4, 0), (some 5, 0), (some 6, 0), (none, 0), (none, 0)], [7, 8, 10, 11, 12, 13, 15, 16, 19, 20, 21, 23, 24, 25, 46, 41, 42, 43, 44, 63, 70, 65, 66]))
set_option maxRecDepth 20000 in
theorem v_xo_writeC_1_15 {PT : PTy} (hp : HP11 PT) : vcOk PT w_xo_writeC_1_15 := vc_iv [(2, 1, 8), (3, 0, 10), (4, 0, 8), (5, 0, 6), (6, 0, 6), (14, 0, 7), (15, 1, 1), (16, 1, 24), (17, 0, 23), (18, 0, 49), (19, 0, 49), (20, 0, 49), (21, 0, 99), (22, (-1), 2), (23, 1, 1), (24, (-2147483648), 2147483647)] [7, 8, 10, 11, 12, 13, 15, 16, 19, 20, 21, 23, 24, 25, 41, 42, 43, 44, 45, 46, 58, 59, 60, 61, 62, 63, 64, 65, 66, 67, 68, 69, 70] (by decide +kernel) (fun ρ α => by
  intro r2 g2 b2 r3 g3 b3 r4 g4 b4 r5 g5 b5 r6 g6 b6 r14 g14 b14 r15 g15 b15 r16 g16 b16 r17 g17 b17 r18 g18 b18 r19 g19 b19 r20 g20 b20 r21 g21 b21 r22 g22 b22 r23 g23 b23 r24 g24 b24 a7 h7 a8 h8 a10 h10 a11 h11 a12 h12 a13 h13 a15 h15 a16 h16 a19 h19 a20 h20 a21 h21 a23 h23 a24 h24 a25 h25 a41 h41 a42 h42 a43 h43 a44 h44 a45 h45 a46 h46 a58 h58 a59 h59 a60 h60 a61 h61 a62 h62 a63 h63 a64 h64 a65 h65 a66 h66 a67 h67 a68 h68 a69 h69 a70 h70 f0 f1 f2 f3 f4 f5 f6 f7 f8 f9 f10 f11 f12 f13 f14 f15 f16 f17 f18 tt
  clear f15 f16 f17
  have e91 : PT 91 = P_adE := pe91_11 hp
  have e147 : PT 147 = P_wrX := pe147_11 hp
  have e149 : PT 149 = P_yi := pe149_11 hp
  have e150 : PT 150 = P_ar2 := pe150_11 hp
  have e161 : PT 161 = P_wcX := pe161_11 hp
  simp only [hF0, hF1, hF2, hF3, hF19, hF20, hF21, hFp_91, hFp_147, hFp_149, hFp_150, hFp_161, e91, e147, e149, e150, e161, P_adE, P_wrX, P_yi, P_ar2, P_wcX, den_s, den_c, Int.add_zero, List.map_cons, List.map_nil, g2.eq, g3.eq, g4.eq, g5.eq, g6.eq, g14.eq, g15.eq, g16.eq, g17.eq, g18.eq, g19.eq, g20.eq, g21.eq, g22.eq, g23.eq, g24.eq, h7, h8, h10, h11, h12, h13, h15, h16, h19, h20, h21, h23, h24, h25, h41, h42, h43, h44, h45, h46, h58, h59, h60, h61, h62, h63, h64, h65, h66, h67, h68, h69, h70] at f0 f1 f2 f3 f4 f5 f6 f7 f8 f9 f10 f11 f12 f13 f14 f18 ⊢
  subst f0
  subst f1
  subst f3
  subst f5
  subst f7
  have hy := yI_e (f10).2 (yI_s (f10).2 f11 (by omega) (f8).1) (f8).2
  have hw := f13
  rcases (show r15 = 0 ∨ r15 = 1 ∨ r15 = 2 ∨ r15 = 3 by omega) with z | z | z | z <;> subst z <;> first
    | (exfalso; omega)
    | (refine wcS_s hw (by omega) (by simp only [rowX_0, rowX_1, rowX_2, rowX_3]; rfl) ⟨_, _, _, hy, ?_⟩ (fun t h1 h2 h3 => ?_)
       · unfold cutF
         (repeat' split) <;> first | rfl | (exfalso; omega)
       · rcases (show t = 0 ∨ t = 1 ∨ t = 2 ∨ t = 3 by omega) with y | y | y | y <;> subst y <;> first | (exact absurd rfl h3) | (simp only [rowX_0, rowX_1, rowX_2, rowX_3])))
def w_xo_writeC_1_16 : VC := (([(0, 23), (0, 49), (1, 8), (0, 10), (0, 8), (0, 6), (0, 6), (0, 8), (0, 9), (0, 49), (0, 49), ((-2147483648), 2147483647), ((-2147483648), 2147483647), (0, 5), (0, 7), (1, 1), (1, 24), (0, 23), (0, 49), (0, 49), (0, 49), (0, 99), ((-1), 2), (1, 1), ((-2147483648), 2147483647)]), [(21, [(some 17, 0), (some 24, 0)], [70, 64]), (19, [(some 24, 0), (some 21, 0)], []), (0, [(some 23, 0), (none, 1)], []), (20, [(some 23, 0), (some 15, 0)], [46]), (1, [(some 22, 0), (none, 0)], []), (20, [(some 22, 0), (some 15, 0)], [46]), (0, [(some 15, 0), (none, 1)], []), (20, [(some 21, 0), (some 14, 0)], [67]), (91, [(some 19, 0), (some 20, 0), (some 18, 0), (some 17, 0), (none, 0), (none, 0)], [58, 59, 7, 8, 10, 11, 16, 20, 21, 24, 25, 60, 61, 62, 67, 68, 69]), (2, [(some 17, 0), (some 16, 0)], []), (150, [(some 18, 0), (some 2, 0), (some 3, 0), (some 4, 0), (some 5, 0), (some 6, 0)], [58, 59, 7, 8, 10, 11, 12, 13, 15, 16, 19, 20, 21, 23, 24, 25]), (149, [(some 19, 0), (some 17, 0), (some 2, 0), (some 3, 0), (some 4, 0), (some 5, 0), (some 6, 0), (none, 0), (none, 0)], [7, 8, 10, 11, 12, 13, 15, 16, 19, 20, 21, 23, 24, 25, 58, 60, 61, 62]), (147, [(some 16, 0), (some 14, 0), (some 15, 0), (some 2, 0)], [45, 46]), (161, [(some 17, 0), (some 14, 0), (some 15, 0), (some 2, 0), (some 3, 0), (some 4, 0), (some 5, 0), (some 6, 0), (none, 0), (none, 0)], [7, 8, 10, 11, 12, 13, 15, 16, 19, 20, 21, 23, 24, 25, 46, 41, 42, 43, 44, 63, 64, 65, 66]), (3, [(some 16, 0), (some 17, 0)], []), (3, [(some 15, 0), (none, 0)], []), (3, [(none, 3), (some 15, 0)], []), (3, [(some 14, 0), (none, 0)], []), (2, [(some 14, 0), (some 2, 0)], [])], (3, [(some 16, 0), (some 17, 1)], []))
set_option maxRecDepth 20000 in
theorem v_xo_writeC_1_16 {PT : PTy} (hp : HP11 PT) : vcOk PT w_xo_writeC_1_16 := vc_iv [(2, 1, 8), (3, 0, 10), (4, 0, 8), (5, 0, 6), (6, 0, 6), (14, 0, 7), (15, 1, 1), (16, 1, 24), (17, 0, 23), (18, 0, 49), (19, 0, 49), (20, 0, 49), (21, 0, 99), (22, (-1), 2), (23, 1, 1), (24, (-2147483648), 2147483647)] [7, 8, 10, 11, 12, 13, 15, 16, 19, 20, 21, 23, 24, 25, 41, 42, 43, 44, 45, 46, 58, 59, 60, 61, 62, 63, 64, 65, 66, 67, 68, 69, 70] (by decide +kernel) (fun ρ α => by
  intro r2 g2 b2 r3 g3 b3 r4 g4 b4 r5 g5 b5 r6 g6 b6 r14 g14 b14 r15 g15 b15 r16 g16 b16 r17 g17 b17 r18 g18 b18 r19 g19 b19 r20 g20 b20 r21 g21 b21 r22 g22 b22 r23 g23 b23 r24 g24 b24 a7 h7 a8 h8 a10 h10 a11 h11 a12 h12 a13 h13 a15 h15 a16 h16 a19 h19 a20 h20 a21 h21 a23 h23 a24 h24 a25 h25 a41 h41 a42 h42 a43 h43 a44 h44 a45 h45 a46 h46 a58 h58 a59 h59 a60 h60 a61 h61 a62 h62 a63 h63 a64 h64 a65 h65 a66 h66 a67 h67 a68 h68 a69 h69 a70 h70 f0 f1 f2 f3 f4 f5 f6 f7 f8 f9 f10 f11 f12 f13 f14 f15 f16 f17 f18 tt
  clear f15 f16 f17
  have e91 : PT 91 = P_adE := pe91_11 hp
  have e147 : PT 147 = P_wrX := pe147_11 hp
  have e149 : PT 149 = P_yi := pe149_11 hp
  have e150 : PT 150 = P_ar2 := pe150_11 hp
  have e161 : PT 161 = P_wcX := pe161_11 hp
  simp only [hF0, hF1, hF2, hF3, hF19, hF20, hF21, hFp_91, hFp_147, hFp_149, hFp_150, hFp_161, e91, e147, e149, e150, e161, P_adE, P_wrX, P_yi, P_ar2, P_wcX, den_s, den_c, Int.add_zero, List.map_cons, List.map_nil, g2.eq, g3.eq, g4.eq, g5.eq, g6.eq, g14.eq, g15.eq, g16.eq, g17.eq, g18.eq, g19.eq, g20.eq, g21.eq, g22.eq, g23.eq, g24.eq, h7, h8, h10, h11, h12, h13, h15, h16, h19, h20, h21, h23, h24, h25, h41, h42, h43, h44, h45, h46, h58, h59, h60, h61, h62, h63, h64, h65, h66, h67, h68, h69, h70] at f0 f1 f2 f3 f4 f5 f6 f7 f8 f9 f10 f11 f12 f13 f14 f18 ⊢
  subst f0
  subst f1
  subst f3
  subst f5
  subst f7
  ((repeat' (first | apply And.intro | intro h)) <;> first | omega | rfl | trivial | (exfalso; omega)))
def w_xo_writeC_1_17 : VC := (([(0, 23), (0, 49), (1, 8), (0, 10), (0, 8), (0, 6), (0, 6), (0, 8), (0, 9), (0, 49), (0, 49), ((-2147483648), 2147483647), ((-2147483648), 2147483647), (0, 5), (0, 7), (1, 1), (1, 24), (0, 23), (0, 49), (0, 49), (0, 49), (0, 99), (0, 0), ((-2147483648), 2147483647)]), [(21, [(some 17, 0), (some 23, 0)], [70, 64]), (18, [(some 23, 0), (some 21, 0)], []), (0, [(some 22, 0), (none, 0)], []), (20, [(some 22, 0), (some 15, 0)], [46]), (0, [(some 15, 0), (none, 1)], []), (20, [(some 21, 0), (some 14, 0)], [67]), (91, [(some 19, 0), (some 20, 0), (some 18, 0), (some 17, 0), (none, 0), (none, 0)], [58, 59, 7, 8, 10, 11, 16, 20, 21, 24, 25, 60, 61, 62, 67, 68, 69]), (2, [(some 17, 0), (some 16, 0)], []), (150, [(some 18, 0), (some 2, 0), (some 3, 0), (some 4, 0), (some 5, 0), (some 6, 0)], [58, 59, 7, 8, 10, 11, 12, 13, 15, 16, 19, 20, 21, 23, 24, 25]), (149, [(some 19, 0), (some 17, 0), (some 2, 0), (some 3, 0), (some 4, 0), (some 5, 0), (some 6, 0), (none, 0), (none, 0)], [7, 8, 10, 11, 12, 13, 15, 16, 19, 20, 21, 23, 24, 25, 58, 60, 61, 62]), (147, [(some 16, 0), (some 14, 0), (some 15, 0), (some 2, 0)], [45, 46]), (161, [(some 17, 0), (some 14, 0), (some 15, 0), (some 2, 0), (some 3, 0), (some 4, 0), (some 5, 0), (some 6, 0), (none, 0), (none, 0)], [7, 8, 10, 11, 12, 13, 15, 16, 19, 20, 21, 23, 24, 25, 46, 41, 42, 43, 44, 63, 64, 65, 66]), (3, [(some 16, 0), (some 17, 0)], []), (3, [(some 15, 0), (none, 0)], []), (3, [(none, 3), (some 15, 0)], []), (3, [(some 14, 0), (none, 0)], []), (2, [(some 14, 0), (some 2, 0)], [])], (149, [(some 20, 0), (some 17, 1), (some 2, 0), (some 3, 0), (some 4, 0), (some 5, 0), (some 6, 0), (none, 0), (none, 0)], [7, 8, 10, 11, 12, 13, 15, 16, 19, 20, 21, 23, 24, 25, 58, 67, 68, 69]))
set_option maxRecDepth 20000 in
theorem v_xo_writeC_1_17 {PT : PTy} (hp : HP11 PT) : vcOk PT w_xo_writeC_1_17 := vc_in [(2, 1, 8), (3, 0, 10), (4, 0, 8), (5, 0, 6), (6, 0, 6), (14, 0, 7), (15, 1, 1), (16, 1, 24), (17, 0, 23), (18, 0, 49), (19, 0, 49), (20, 0, 49), (21, 0, 99), (22, 0, 0), (23, (-2147483648), 2147483647)] (by decide +kernel) (fun ρ α => by
  intro b2 b3 b4 b5 b6 b14 b15 b16 b17 b18 b19 b20 b21 b22 b23 f0 f1 f2 f3 f4 f5 f6 f7 f8 f9 f10 f11 f12 f13 f14 f15 f16 tt
  clear f13 f14 f15
  have e91 : PT 91 = P_adE := pe91_11 hp
  have e147 : PT 147 = P_wrX := pe147_11 hp
  have e149 : PT 149 = P_yi := pe149_11 hp
  have e150 : PT 150 = P_ar2 := pe150_11 hp
  have e161 : PT 161 = P_wcX := pe161_11 hp
  simp only [hF0, hF2, hF3, hF18, hF20, hF21, hFp_91, hFp_147, hFp_149, hFp_150, hFp_161, e91, e147, e149, e150, e161, P_adE, P_wrX, P_yi, P_ar2, P_wcX, den_s, den_c, Int.add_zero, List.map_cons, List.map_nil] at f0 f1 f2 f3 f4 f5 f6 f7 f8 f9 f10 f11 f12 f16 ⊢
  exact yI_s (f8).2 f9 (by omega) (f6).1)
def w_xo_writeC_1_18 : VC := (([(0, 23), (0, 49), (1, 8), (0, 10), (0, 8), (0, 6), (0, 6), (0, 8), (0, 9), (0, 49), (0, 49), ((-2147483648), 2147483647), ((-2147483648), 2147483647), (0, 5), (0, 7), (1, 1), (1, 24), (0, 23), (0, 49), (0, 49), (0, 49), (0, 99), (0, 0), ((-2147483648), 2147483647)]), [(21, [(some 17, 0), (some 23, 0)], [70, 64]), (18, [(some 23, 0), (some 21, 0)], []), (0, [(some 22, 0), (none, 0)], []), (20, [(some 22, 0), (some 15, 0)], [46]), (0, [(some 15, 0), (none, 1)], []), (20, [(some 21, 0), (some 14, 0)], [67]), (91, [(some 19, 0), (some 20, 0), (some 18, 0), (some 17, 0), (none, 0), (none, 0)], [58, 59, 7, 8, 10, 11, 16, 20, 21, 24, 25, 60, 61, 62, 67, 68, 69]), (2, [(some 17, 0), (some 16, 0)], []), (150, [(some 18, 0), (some 2, 0), (some 3, 0), (some 4, 0), (some 5, 0), (some 6, 0)], [58, 59, 7, 8, 10, 11, 12, 13, 15, 16, 19, 20, 21, 23, 24, 25]), (149, [(some 19, 0), (some 17, 0), (some 2, 0), (some 3, 0), (some 4, 0), (some 5, 0), (some 6, 0), (none, 0), (none, 0)], [7, 8, 10, 11, 12, 13, 15, 16, 19, 20, 21, 23, 24, 25, 58, 60, 61, 62]), (147, [(some 16, 0), (some 14, 0), (some 15, 0), (some 2, 0)], [45, 46]), (161, [(some 17, 0), (some 14, 0), (some 15, 0), (some 2, 0), (some 3, 0), (some 4, 0), (some 5, 0), (some 6, 0), (none, 0), (none, 0)], [7, 8, 10, 11, 12, 13, 15, 16, 19, 20, 21, 23, 24, 25, 46, 41, 42, 43, 44, 63, 64, 65, 66]), (3, [(some 16, 0), (some 17, 0)], []), (3, [(some 15, 0), (none, 0)], []), (3, [(none, 3), (some 15, 0)], []), (3, [(some 14, 0), (none, 0)], []), (2, [(some 14, 0), (some 2, 0)], [])], (161, [(some 17, 1), (some 14, 0), (some 15, 0), (some 2, 0), (some 3, 0), (some 4, 0), (some 5, 0), (some 6, 0), (none, 0), (none, 0)], [7, 8, 10, 11, 12, 13, 15, 16, 19, 20, 21, 23, 24, 25, 46, 41, 42, 43, 44, 63, 70, 65, 66]))
set_option maxRecDepth 20000 in
theorem v_xo_writeC_1_18 {PT : PTy} (hp : HP11 PT) : vcOk PT w_xo_writeC_1_18 := vc_iv [(2, 1, 8), (3, 0, 10), (4, 0, 8), (5, 0, 6), (6, 0, 6), (14, 0, 7), (15, 1, 1), (16, 1, 24), (17, 0, 23), (18, 0, 49), (19, 0, 49), (20, 0, 49), (21, 0, 99), (22, 0, 0), (23, (-2147483648), 2147483647)] [7, 8, 10, 11, 12, 13, 15, 16, 19, 20, 21, 23, 24, 25, 41, 42, 43, 44, 45, 46, 58, 59, 60, 61, 62, 63, 64, 65, 66, 67, 68, 69, 70] (by decide +kernel) (fun ρ α => by
  intro r2 g2 b2 r3 g3 b3 r4 g4 b4 r5 g5 b5 r6 g6 b6 r14 g14 b14 r15 g15 b15 r16 g16 b16 r17 g17 b17 r18 g18 b18 r19 g19 b19 r20 g20 b20 r21 g21 b21 r22 g22 b22 r23 g23 b23 a7 h7 a8 h8 a10 h10 a11 h11 a12 h12 a13 h13 a15 h15 a16 h16 a19 h19 a20 h20 a21 h21 a23 h23 a24 h24 a25 h25 a41 h41 a42 h42 a43 h43 a44 h44 a45 h45 a46 h46 a58 h58 a59 h59 a60 h60 a61 h61 a62 h62 a63 h63 a64 h64 a65 h65 a66 h66 a67 h67 a68 h68 a69 h69 a70 h70 f0 f1 f2 f3 f4 f5 f6 f7 f8 f9 f10 f11 f12 f13 f14 f15 f16 tt
  clear f13 f14 f15
  have e91 : PT 91 = P_adE := pe91_11 hp
  have e147 : PT 147 = P_wrX := pe147_11 hp
  have e149 : PT 149 = P_yi := pe149_11 hp
  have e150 : PT 150 = P_ar2 := pe150_11 hp
  have e161 : PT 161 = P_wcX := pe161_11 hp
  simp only [hF0, hF2, hF3, hF18, hF20, hF21, hFp_91, hFp_147, hFp_149, hFp_150, hFp_161, e91, e147, e149, e150, e161, P_adE, P_wrX, P_yi, P_ar2, P_wcX, den_s, den_c, Int.add_zero, List.map_cons, List.map_nil, g2.eq, g3.eq, g4.eq, g5.eq, g6.eq, g14.eq, g15.eq, g16.eq, g17.eq, g18.eq, g19.eq, g20.eq, g21.eq, g22.eq, g23.eq, h7, h8, h10, h11, h12, h13, h15, h16, h19, h20, h21, h23, h24, h25, h41, h42, h43, h44, h45, h46, h58, h59, h60, h61, h62, h63, h64, h65, h66, h67, h68, h69, h70] at f0 f1 f2 f3 f4 f5 f6 f7 f8 f9 f10 f11 f12 f16 ⊢
  subst f0
  subst f1
  subst f3
  subst f5
  have hy := yI_e (f8).2 (yI_s (f8).2 f9 (by omega) (f6).1) (f6).2
  have hw := f11
  rcases (show r15 = 0 ∨ r15 = 1 ∨ r15 = 2 ∨ r15 = 3 by omega) with z | z | z | z <;> subst z <;> first
    | (exfalso; omega)
    | (refine wcS_s hw (by omega) (by simp only [rowX_0, rowX_1, rowX_2, rowX_3]; rfl) ⟨_, _, _, hy, ?_⟩ (fun t h1 h2 h3 => ?_)
       · unfold cutF
         (repeat' split) <;> first | rfl | (exfalso; omega)
       · rcases (show t = 0 ∨ t = 1 ∨ t = 2 ∨ t = 3 by omega) with y | y | y | y <;> subst y <;> first | (exact absurd rfl h3) | (simp only [rowX_0, rowX_1, rowX_2, rowX_3])))
def w_xo_writeC_1_19 : VC := (([(0, 23), (0, 49), (1, 8), (0, 10), (0, 8), (0, 6), (0, 6), (0, 8), (0, 9), (0, 49), (0, 49), ((-2147483648), 2147483647), ((-2147483648), 2147483647), (0, 5), (0, 7), (1, 1), (1, 24), (0, 23), (0, 49), (0, 49), (0, 49), (0, 99), (0, 0), ((-2147483648), 2147483647)]), [(21, [(some 17, 0), (some 23, 0)], [70, 64]), (18, [(some 23, 0), (some 21, 0)], []), (0, [(some 22, 0), (none, 0)], []), (20, [(some 22, 0), (some 15, 0)], [46]), (0, [(some 15, 0), (none, 1)], []), (20, [(some 21, 0), (some 14, 0)], [67]), (91, [(some 19, 0), (some 20, 0), (some 18, 0), (some 17, 0), (none, 0), (none, 0)], [58, 59, 7, 8, 10, 11, 16, 20, 21, 24, 25, 60, 61, 62, 67, 68, 69]), (2, [(some 17, 0), (some 16, 0)], []), (150, [(some 18, 0), (some 2, 0), (some 3, 0), (some 4, 0), (some 5, 0), (some 6, 0)], [58, 59, 7, 8, 10, 11, 12, 13, 15, 16, 19, 20, 21, 23, 24, 25]), (149, [(some 19, 0), (some 17, 0), (some 2, 0), (some 3, 0), (some 4, 0), (some 5, 0), (some 6, 0), (none, 0), (none, 0)], [7, 8, 10, 11, 12, 13, 15, 16, 19, 20, 21, 23, 24, 25, 58, 60, 61, 62]), (147, [(some 16, 0), (some 14, 0), (some 15, 0), (some 2, 0)], [45, 46]), (161, [(some 17, 0), (some 14, 0), (some 15, 0), (some 2, 0), (some 3, 0), (some 4, 0), (some 5, 0), (some 6, 0), (none, 0), (none, 0)], [7, 8, 10, 11, 12, 13, 15, 16, 19, 20, 21, 23, 24, 25, 46, 41, 42, 43, 44, 63, 64, 65, 66]), (3, [(some 16, 0), (some 17, 0)], []), (3, [(some 15, 0), (none, 0)], []), (3, [(none, 3), (some 15, 0)], []), (3, [(some 14, 0), (none, 0)], []), (2, [(some 14, 0), (some 2, 0)], [])], (3, [(some 16, 0), (some 17, 1)], []))
set_option maxRecDepth 20000 in
theorem v_xo_writeC_1_19 {PT : PTy} (hp : HP11 PT) : vcOk PT w_xo_writeC_1_19 := vc_iv [(2, 1, 8), (3, 0, 10), (4, 0, 8), (5, 0, 6), (6, 0, 6), (14, 0, 7), (15, 1, 1), (16, 1, 24), (17, 0, 23), (18, 0, 49), (19, 0, 49), (20, 0, 49), (21, 0, 99), (22, 0, 0), (23, (-2147483648), 2147483647)] [7, 8, 10, 11, 12, 13, 15, 16, 19, 20, 21, 23, 24, 25, 41, 42, 43, 44, 45, 46, 58, 59, 60, 61, 62, 63, 64, 65, 66, 67, 68, 69, 70] (by decide +kernel) (fun ρ α => by
  intro r2 g2 b2 r3 g3 b3 r4 g4 b4 r5 g5 b5 r6 g6 b6 r14 g14 b14 r15 g15 b15 r16 g16 b16 r17 g17 b17 r18 g18 b18 r19 g19 b19 r20 g20 b20 r21 g21 b21 r22 g22 b22 r23 g23 b23 a7 h7 a8 h8 a10 h10 a11 h11 a12 h12 a13 h13 a15 h15 a16 h16 a19 h19 a20 h20 a21 h21 a23 h23 a24 h24 a25 h25 a41 h41 a42 h42 a43 h43 a44 h44 a45 h45 a46 h46 a58 h58 a59 h59 a60 h60 a61 h61 a62 h62 a63 h63 a64 h64 a65 h65 a66 h66 a67 h67 a68 h68 a69 h69 a70 h70 f0 f1 f2 f3 f4 f5 f6 f7 f8 f9 f10 f11 f12 f13 f14 f15 f16 tt
  clear f13 f14 f15
  have e91 : PT 91 = P_adE := pe91_11 hp
  have e147 : PT 147 = P_wrX := pe147_11 hp
  have e149 : PT 149 = P_yi := pe149_11 hp
  have e150 : PT 150 = P_ar2 := pe150_11 hp
  have e161 : PT 161 = P_wcX := pe161_11 hp
  simp only [hF0, hF2, hF3, hF18, hF20, hF21, hFp_91, hFp_147, hFp_149, hFp_150, hFp_161, e91, e147, e149, e150, e161, P_adE, P_wrX, P_yi, P_ar2, P_wcX, den_s, den_c, Int.add_zero, List.map_cons, List.map_nil, g2.eq, g3.eq, g4.eq, g5.eq, g6.eq, g14.eq, g15.eq, g16.eq, g17.eq, g18.eq, g19.eq, g20.eq, g21.eq, g22.eq, g23.eq, h7, h8, h10, h11, h12, h13, h15, h16, h19, h20, h21, h23, h24, h25, h41, h42, h43, h44, h45, h46, h58, h59, h60, h61, h62, h63, h64, h65, h66, h67, h68, h69, h70] at f0 f1 f2 f3 f4 f5 f6 f7 f8 f9 f10 f11 f12 f16 ⊢
  subst f0
  subst f1
  subst f3
  subst f5
  ((repeat' (first | apply And.intro | intro h)) <;> first | omega | rfl | trivial | (exfalso; omega)))
def w_xo_writeC_1_20 : VC := (([(0, 23), (0, 49), (1, 8), (0, 10), (0, 8), (0, 6), (0, 6), (0, 8), (0, 9), (0, 49), (0, 49), ((-2147483648), 2147483647), ((-2147483648), 2147483647), (0, 5), (0, 7), (2, 2), (1, 24), (0, 23), (0, 49), (0, 49), (0, 49), (0, 99), ((-1), 2), ((-1), 2)]), [(21, [(some 17, 0), (some 21, 0)], [70, 65]), (1, [(some 23, 0), (none, 1)], []), (20, [(some 23, 0), (some 15, 0)], [46]), (1, [(some 22, 0), (none, 0)], []), (20, [(some 22, 0), (some 15, 0)], [46]), (0, [(some 15, 0), (none, 2)], []), (20, [(some 21, 0), (some 14, 0)], [67]), (91, [(some 19, 0), (some 20, 0), (some 18, 0), (some 17, 0), (none, 0), (none, 0)], [58, 59, 7, 8, 10, 11, 16, 20, 21, 24, 25, 60, 61, 62, 67, 68, 69]), (2, [(some 17, 0), (some 16, 0)], []), (150, [(some 18, 0), (some 2, 0), (some 3, 0), (some 4, 0), (some 5, 0), (some 6, 0)], [58, 59, 7, 8, 10, 11, 12, 13, 15, 16, 19, 20, 21, 23, 24, 25]), (149, [(some 19, 0), (some 17, 0), (some 2, 0), (some 3, 0), (some 4, 0), (some 5, 0), (some 6, 0), (none, 0), (none, 0)], [7, 8, 10, 11, 12, 13, 15, 16, 19, 20, 21, 23, 24, 25, 58, 60, 61, 62]), (147, [(some 16, 0), (some 14, 0), (some 15, 0), (some 2, 0)], [45, 46]), (161, [(some 17, 0), (some 14, 0), (some 15, 0), (some 2, 0), (some 3, 0), (some 4, 0), (some 5, 0), (some 6, 0), (none, 0), (none, 0)], [7, 8, 10, 11, 12, 13, 15, 16, 19, 20, 21, 23, 24, 25, 46, 41, 42, 43, 44, 63, 64, 65, 66]), (3, [(some 16, 0), (some 17, 0)], []), (3, [(some 15, 0), (none, 0)], []), (3, [(none, 3), (some 15, 0)], []), (3, [(some 14, 0), (none, 0)], []), (2, [(some 14, 0), (some 2, 0)], [])], (149, [(some 20, 0), (some 17, 1), (some 2, 0), (some 3, 0), (some 4, 0), (some 5, 0), (some 6, 0), (none, 0), (none, 0)], [7, 8, 10, 11, 12, 13, 15, 16, 19, 20, 21, 23, 24, 25, 58, 67, 68, 69]))
set_option maxRecDepth 20000 in
theorem v_xo_writeC_1_20 {PT : PTy} (hp : HP11 PT) : vcOk PT w_xo_writeC_1_20 := vc_in [(2, 1, 8), (3, 0, 10), (4, 0, 8), (5, 0, 6), (6, 0, 6), (14, 0, 7), (15, 2, 2), (16, 1, 24), (17, 0, 23), (18, 0, 49), (19, 0, 49), (20, 0, 49), (21, 0, 99), (22, (-1), 2), (23, (-1), 2)] (by decide +kernel) (fun ρ α => by
  intro b2 b3 b4 b5 b6 b14 b15 b16 b17 b18 b19 b20 b21 b22 b23 f0 f1 f2 f3 f4 f5 f6 f7 f8 f9 f10 f11 f12 f13 f14 f15 f16 f17 tt
  clear f14 f15 f16
  have e91 : PT 91 = P_adE := pe91_11 hp
  have e147 : PT 147 = P_wrX := pe147_11 hp
  have e149 : PT 149 = P_yi := pe149_11 hp
  have e150 : PT 150 = P_ar2 := pe150_11 hp
  have e161 : PT 161 = P_wcX := pe161_11 hp
  simp only [hF0, hF1, hF2, hF3, hF20, hF21, hFp_91, hFp_147, hFp_149, hFp_150, hFp_161, e91, e147, e149, e150, e161, P_adE, P_wrX, P_yi, P_ar2, P_wcX, den_s, den_c, Int.add_zero, List.map_cons, List.map_nil] at f0 f1 f2 f3 f4 f5 f6 f7 f8 f9 f10 f11 f12 f13 f17 ⊢
  exact yI_s (f9).2 f10 (by omega) (f7).1)
def w_xo_writeC_1_21 : VC := (([(0, 23), (0, 49), (1, 8), (0, 10), (0, 8), (0, 6), (0, 6), (0, 8), (0, 9), (0, 49), (0, 49), ((-2147483648), 2147483647), ((-2147483648), 2147483647), (0, 5), (0, 7), (2, 2), (1, 24), (0, 23), (0, 49), (0, 49), (0, 49), (0, 99), ((-1), 2), ((-1), 2)]), [(21, [(some 17, 0), (some 21, 0)], [70, 65]), (1, [(some 23, 0), (none, 1)], []), (20, [(some 23, 0), (some 15, 0)], [46]), (1, [(some 22, 0), (none, 0)], []), (20, [(some 22, 0), (some 15, 0)], [46]), (0, [(some 15, 0), (none, 2)], []), (20, [(some 21, 0), (some 14, 0)], [67]), (91, [(some 19, 0), (some 20, 0), (some 18, 0), (some 17, 0), (none, 0), (none, 0)], [58, 59, 7, 8, 10, 11, 16, 20, 21, 24, 25, 60, 61, 62, 67, 68, 69]), (2, [(some 17, 0), (some 16, 0)], []), (150, [(some 18, 0), (some 2, 0), (some 3, 0), (some 4, 0), (some 5, 0), (some 6, 0)], [58, 59, 7, 8, 10, 11, 12, 13, 15, 16, 19, 20, 21, 23, 24, 25]), (149, [(some 19, 0), (some 17, 0), (some 2, 0), (some 3, 0), (some 4, 0), (some 5, 0), (some 6, 0), (none, 0), (none, 0)], [7, 8, 10, 11, 12, 13, 15, 16, 19, 20, 21, 23, 24, 25, 58, 60, 61, 62]), (147, [(some 16, 0), (some 14, 0), (some 15, 0), (some 2, 0)], [45, 46]), (161, [(some 17, 0), (some 14, 0), (some 15, 0), (some 2, 0), (some 3, 0), (some 4, 0), (some 5, 0), (some 6, 0), (none, 0), (none, 0)], [7, 8, 10, 11, 12, 13, 15, 16, 19, 20, 21, 23, 24, 25, 46, 41, 42, 43, 44, 63, 64, 65, 66]), (3, [(some 16, 0), (some 17, 0)], []), (3, [(some 15, 0), (none, 0)], []), (3, [(none, 3), (some 15, 0)], []), (3, [(some 14, 0), (none, 0)], []), (2, [(some 14, 0), (some 2, 0)], [])], (161, [(some 17, 1), (some 14, 0), (some 15, 0), (some 2, 0), (some 3, 0), (some 4, 0), (some 5, 0), (some 6, 0), (none, 0), (none, 0)], [7, 8, 10, 11, 12, 13, 15, 16, 19, 20, 21, 23, 24, 25, 46, 41, 42, 43, 44, 63, 64, 70, 66]))
set_option maxRecDepth 20000 in
theorem v_xo_writeC_1_21 {PT : PTy} (hp : HP11 PT) : vcOk PT w_xo_writeC_1_21 := vc_iv [(2, 1, 8), (3, 0, 10), (4, 0, 8), (5, 0, 6), (6, 0, 6), (14, 0, 7), (15, 2, 2), (16, 1, 24), (17, 0, 23), (18, 0, 49), (19, 0, 49), (20, 0, 49), (21, 0, 99), (22, (-1), 2), (23, (-1), 2)] [7, 8, 10, 11, 12, 13, 15, 16, 19, 20, 21, 23, 24, 25, 41, 42, 43, 44, 45, 46, 58, 59, 60, 61, 62, 63, 64, 65, 66, 67, 68, 69, 70] (by decide +kernel) (fun ρ α => by
  intro r2 g2 b2 r3 g3 b3 r4 g4 b4 r5 g5 b5 r6 g6 b6 r14 g14 b14 r15 g15 b15 r16 g16 b16 r17 g17 b17 r18 g18 b18 r19 g19 b19 r20 g20 b20 r21 g21 b21 r22 g22 b22 r23 g23 b23 a7 h7 a8 h8 a10 h10 a11 h11 a12 h12 a13 h13 a15 h15 a16 h16 a19 h19 a20 h20 a21 h21 a23 h23 a24 h24 a25 h25 a41 h41 a42 h42 a43 h43 a44 h44 a45 h45 a46 h46 a58 h58 a59 h59 a60 h60 a61 h61 a62 h62 a63 h63 a64 h64 a65 h65 a66 h66 a67 h67 a68 h68 a69 h69 a70 h70 f0 f1 f2 f3 f4 f5 f6 f7 f8 f9 f10 f11 f12 f13 f14 f15 f16 f17 tt
  clear f14 f15 f16
  have e91 : PT 91 = P_adE := pe91_11 hp
  have e147 : PT 147 = P_wrX := pe147_11 hp
  have e149 : PT 149 = P_yi := pe149_11 hp
  have e150 : PT 150 = P_ar2 := pe150_11 hp
  have e161 : PT 161 = P_wcX := pe161_11 hp
  simp only [hF0, hF1, hF2, hF3, hF20, hF21, hFp_91, hFp_147, hFp_149, hFp_150, hFp_161, e91, e147, e149, e150, e161, P_adE, P_wrX, P_yi, P_ar2, P_wcX, den_s, den_c, Int.add_zero, List.map_cons, List.map_nil, g2.eq, g3.eq, g4.eq, g5.eq, g6.eq, g14.eq, g15.eq, g16.eq, g17.eq, g18.eq, g19.eq, g20.eq, g21.eq, g22.eq, g23.eq, h7, h8, h10, h11, h12, h13, h15, h16, h19, h20, h21, h23, h24, h25, h41, h42, h43, h44, h45, h46, h58, h59, h60, h61, h62, h63, h64, h65, h66, h67, h68, h69, h70] at f0 f1 f2 f3 f4 f5 f6 f7 f8 f9 f10 f11 f12 f13 f17 ⊢
  subst f0
  subst f2
  subst f4
  subst f6
  have hy := yI_e (f9).2 (yI_s (f9).2 f10 (by omega) (f7).1) (f7).2
  have hw := f12
  rcases (show r15 = 0 ∨ r15 = 1 ∨ r15 = 2 ∨ r15 = 3 by omega) with z | z | z | z <;> subst z <;> first
    | (exfalso; omega)
    | (refine wcS_s hw (by omega) (by simp only [rowX_0, rowX_1, rowX_2, rowX_3]; rfl) ⟨_, _, _, hy, ?_⟩ (fun t h1 h2 h3 => ?_)
       · unfold cutF
         (repeat' split) <;> first | rfl | (exfalso; omega)
       · rcases (show t = 0 ∨ t = 1 ∨ t = 2 ∨ t = 3 by omega) with y | y | y | y <;> subst y <;> first | (exact absurd rfl h3) | (simp only [rowX_0, rowX_1, rowX_2, rowX_3])))
def w_xo_writeC_1_22 : VC := (([(0, 23), (0, 49), (1, 8), (0, 10), (0, 8), (0, 6), (0, 6), (0, 8), (0, 9), (0, 49), (0, 49), ((-2147483648), 2147483647), ((-2147483648), 2147483647), (0, 5), (0, 7), (2, 2), (1, 24), (0, 23), (0, 49), (0, 49), (0, 49), (0, 99), ((-1), 2), ((-1), 2)]), [(21, [(some 17, 0), (some 21, 0)], [70, 65]), (1, [(some 23, 0), (none, 1)], []), (20, [(some 23, 0), (some 15, 0)], [46]), (1, [(some 22, 0), (none, 0)], []), (20, [(some 22, 0), (some 15, 0)], [46]), (0, [(some 15, 0), (none, 2)], []), (20, [(some 21, 0), (some 14, 0)], [67]), (91, [(some 19, 0), (some 20, 0), (some 18, 0), (some 17, 0), (none, 0), (none, 0)], [58, 59, 7, 8, 10, 11, 16, 20, 21, 24, 25, 60, 61, 62, 67, 68, 69]), (2, [(some 17, 0), (some 16, 0)], []), (150, [(some 18, 0), (some 2, 0), (some 3, 0), (some 4, 0), (some 5, 0), (some 6, 0)], [58, 59, 7, 8, 10, 11, 12, 13, 15, 16, 19, 20, 21, 23, 24, 25]), (149, [(some 19, 0), (some 17, 0), (some 2, 0), (some 3, 0), (some 4, 0), (some 5, 0), (some 6, 0), (none, 0), (none, 0)], [7, 8, 10, 11, 12, 13, 15, 16, 19, 20, 21, 23, 24, 25, 58, 60, 61, 62]), (147, [(some 16, 0), (some 14, 0), (some 15, 0), (some 2, 0)], [45, 46]), (161, [(some 17, 0), (some 14, 0), (some 15, 0), (some 2, 0), (some 3, 0), (some 4, 0), (some 5, 0), (some 6, 0), (none, 0), (none, 0)], [7, 8, 10, 11, 12, 13, 15, 16, 19, 20, 21, 23, 24, 25, 46, 41, 42, 43, 44, 63, 64, 65, 66]), (3, [(some 16, 0), (some 17, 0)], []), (3, [(some 15, 0), (none, 0)], []), (3, [(none, 3), (some 15, 0)], []), (3, [(some 14, 0), (none, 0)], []), (2, [(some 14, 0), (some 2, 0)], [])], (3, [(some 16, 0), (some 17, 1)], []))
set_option maxRecDepth 20000 in
theorem v_xo_writeC_1_22 {PT : PTy} (hp : HP11 PT) : vcOk PT w_xo_writeC_1_22 := vc_iv [(2, 1, 8), (3, 0, 10), (4, 0, 8), (5, 0, 6), (6, 0, 6), (14, 0, 7), (15, 2, 2), (16, 1, 24), (17, 0, 23), (18, 0, 49), (19, 0, 49), (20, 0, 49), (21, 0, 99), (22, (-1), 2), (23, (-1), 2)] [7, 8, 10, 11, 12, 13, 15, 16, 19, 20, 21, 23, 24, 25, 41, 42, 43, 44, 45, 46, 58, 59, 60, 61, 62, 63, 64, 65, 66, 67, 68, 69, 70] (by decide +kernel) (fun ρ α => by
  intro r2 g2 b2 r3 g3 b3 r4 g4 b4 r5 g5 b5 r6 g6 b6 r14 g14 b14 r15 g15 b15 r16 g16 b16 r17 g17 b17 r18 g18 b18 r19 g19 b19 r20 g20 b20 r21 g21 b21 r22 g22 b22 r23 g23 b23 a7 h7 a8 h8 a10 h10 a11 h11 a12 h12 a13 h13 a15 h15 a16 h16 a19 h19 a20 h20 a21 h21 a23 h23 a24 h24 a25 h25 a41 h41 a42 h42 a43 h43 a44 h44 a45 h45 a46 h46 a58 h58 a59 h59 a60 h60 a61 h61 a62 h62 a63 h63 a64 h64 a65 h65 a66 h66 a67 h67 a68 h68 a69 h69 a70 h70 f0 f1 f2 f3 f4 f5 f6 f7 f8 f9 f10 f11 f12 f13 f14 f15 f16 f17 tt
  clear f14 f15 f16
  have e91 : PT 91 = P_adE := pe91_11 hp
  have e147 : PT 147 = P_wrX := pe147_11 hp
  have e149 : PT 149 = P_yi := pe149_11 hp
  have e150 : PT 150 = P_ar2 := pe150_11 hp
  have e161 : PT 161 = P_wcX := pe161_11 hp
  simp only [hF0, hF1, hF2, hF3, hF20, hF21, hFp_91, hFp_147, hFp_149, hFp_150, hFp_161, e91, e147, e149, e150, e161, P_adE, P_wrX, P_yi, P_ar2, P_wcX, den_s, den_c, Int.add_zero, List.map_cons, List.map_nil, g2.eq, g3.eq, g4.eq, g5.eq, g6.eq, g14.eq, g15.eq, g16.eq, g17.eq, g18.eq, g19.eq, g20.eq, g21.eq, g22.eq, g23.eq, h7, h8, h10, h11, h12, h13, h15, h16, h19, h20, h21, h23, h24, h25, h41, h42, h43, h44, h45, h46, h58, h59, h60, h61, h62, h63, h64, h65, h66, h67, h68, h69, h70] at f0 f1 f2 f3 f4 f5 f6 f7 f8 f9 f10 f11 f12 f13 f17 ⊢
  subst f0
  subst f2
  subst f4
  subst f6
  ((repeat' (first | apply And.intro | intro h)) <;> first | omega | rfl | trivial | (exfalso; omega)))
def w_xo_writeC_1_23 : VC := (([(0, 23), (0, 49), (1, 8), (0, 10), (0, 8), (0, 6), (0, 6), (0, 8), (0, 9), (0, 49), (0, 49), ((-2147483648), 2147483647), ((-2147483648), 2147483647), (0, 5), (0, 7), (2, 2), (1, 24), (0, 23), (0, 49), (0, 49), (0, 49), (0, 99), ((-1), 2), (1, 1), ((-2147483648), 2147483647)]), [(21, [(some 17, 0), (some 24, 0)], [70, 65]), (19, [(some 24, 0), (some 21, 0)], []), (0, [(some 23, 0), (none, 1)], []), (20, [(some 23, 0), (some 15, 0)], [46]), (1, [(some 22, 0), (none, 0)], []), (20, [(some 22, 0), (some 15, 0)], [46]), (0, [(some 15, 0), (none, 2)], []), (20, [(some 21, 0), (some 14, 0)], [67]), (91, [(some 19, 0), (some 20, 0), (some 18, 0), (some 17, 0), (none, 0), (none, 0)], [58, 59, 7, 8, 10, 11, 16, 20, 21, 24, 25, 60, 61, 62, 67, 68, 69]), (2, [(some 17, 0), (some 16, 0)], []), (150, [(some 18, 0), (some 2, 0), (some 3, 0), (some 4, 0), (some 5, 0), (some 6, 0)], [58, 59, 7, 8, 10, 11, 12, 13, 15, 16, 19, 20, 21, 23, 24, 25]), (149, [(some 19, 0), (some 17, 0), (some 2, 0), (some 3, 0), (some 4, 0), (some 5, 0), (some 6, 0), (none, 0), (none, 0)], [7, 8, 10, 11, 12, 13, 15, 16, 19, 20, 21, 23, 24, 25, 58, 60, 61, 62]), (147, [(some 16, 0), (some 14, 0), (some 15, 0), (some 2, 0)], [45, 46]), (161, [(some 17, 0), (some 14, 0), (some 15, 0), (some 2, 0), (some 3, 0), (some 4, 0), (some 5, 0), (some 6, 0), (none, 0), (none, 0)], [7, 8, 10, 11, 12, 13, 15, 16, 19, 20, 21, 23, 24, 25, 46, 41, 42, 43, 44, 63, 64, 65, 66]), (3, [(some 16, 0), (some 17, 0)], []), (3, [(some 15, 0), (none, 0)], []), (3, [(none, 3), (some 15, 0)], []), (3, [(some 14, 0), (none, 0)], []), (2, [(some 14, 0), (some 2, 0)], [])], (149, [(some 20, 0), (some 17, 1), (some 2, 0), (some 3, 0), (some 4, 0), (some 5, 0), (some 6, 0), (none, 0), (none, 0)], [7, 8, 10, 11, 12, 13, 15, 16, 19, 20, 21, 23, 24, 25, 58, 67, 68, 69]))
set_option maxRecDepth 20000 in
theorem v_xo_writeC_1_23 {PT : PTy} (hp : HP11 PT) : vcOk PT w_xo_writeC_1_23 := vc_in [(2, 1, 8), (3, 0, 10), (4, 0, 8), (5, 0, 6), (6, 0, 6), (14, 0, 7), (15, 2, 2), (16, 1, 24), (17, 0, 23), (18, 0, 49), (19, 0, 49), (20, 0, 49), (21, 0, 99), (22, (-1), 2), (23, 1, 1), (24, (-2147483648), 2147483647)] (by decide +kernel) (fun ρ α => by
  intro b2 b3 b4 b5 b6 b14 b15 b16 b17 b18 b19 b20 b21 b22 b23 b24 f0 f1 f2 f3 f4 f5 f6 f7 f8 f9 f10 f11 f12 f13 f14 f15 f16 f17 f18 tt
  clear f15 f16 f17
  have e91 : PT 91 = P_adE := pe91_11 hp
  have e147 : PT 147 = P_wrX := pe147_11 hp
  have e149 : PT 149 = P_yi := pe149_11 hp
  have e150 : PT 150 = P_ar2 := pe150_11 hp
  have e161 : PT 161 = P_wcX := pe161_11 hp
  simp only [hF0, hF1, hF2, hF3, hF19, hF20, hF21, hFp_91, hFp_147, hFp_149, hFp_150, hFp_161, e91, e147, e149, e150, e161, P_adE, P_wrX, P_yi, P_ar2, P_wcX, den_s, den_c, Int.add_zero, List.map_cons, List.map_nil] at f0 f1 f2 f3 f4 f5 f6 f7 f8 f9 f10 f11 f12 f13 f14 f18 ⊢
  exact yI_s (f10).2 f11 (by omega) (f8).1)
def w_xo_writeC_1_24 : VC := (([(0, 23), (0, 49), (1, 8), (0, 10), (0, 8), (0, 6), (0, 6), (0, 8), (0, 9), (0, 49), (0, 49), ((-2147483648), 2147483647), ((-2147483648), 2147483647), (0, 5), (0, 7), (2, 2), (1, 24), (0, 23), (0, 49), (0, 49), (0, 49), (0, 99), ((-1), 2), (1, 1), ((-2147483648), 2147483647)]), [(21, [(some 17, 0), (some 24, 0)], [70, 65]), (19, [(some 24, 0), (some 21, 0)], []), (0, [(some 23, 0), (none, 1)], []), (20, [(some 23, 0), (some 15, 0)], [46]), (1, [(some 22, 0), (none, 0)], []), (20, [(some 22, 0), (some 15, 0)], [46]), (0, [(some 15, 0), (none, 2)], []), (20, [(some 21, 0), (some 14, 0)], [67]), (91, [(some 19, 0), (some 20, 0), (some 18, 0), (some 17, 0), (none, 0), (none, 0)], [58, 59, 7, 8, 10, 11, 16, 20, 21, 24, 25, 60, 61, 62, 67, 68, 69]), (2, [(some 17, 0), (some 16, 0)], []), (150, [(some 18, 0), (some 2, 0), (some 3, 0), (some 4, 0), (some 5, 0), (some 6, 0)], [58, 59, 7, 8, 10, 11, 12, 13, 15, 16, 19, 20, 21, 23, 24, 25]), (149, [(some 19, 0), (some 17, 0), (some 2, 0), (some 3, 0), (some 4, 0), (some 5, 0), (some 6, 0), (none, 0), (none, 0)], [7, 8, 10, 11, 12, 13, 15, 16, 19, 20, 21, 23, 24, 25, 58, 60, 61, 62]), (147, [(some 16, 0), (some 14, 0), (some 15, 0), (some 2, 0)], [45, 46]), (161, [(some 17, 0), (some 14, 0), (some 15, 0), (some 2, 0), (some 3, 0), (some 4, 0), (some 5, 0), (some 6, 0), (none, 0), (none, 0)], [7, 8, 10, 11, 12, 13, 15, 16, 19, 20, 21, 23, 24, 25, 46, 41, 42, 43, 44, 63, 64, 65, 66]), (3, [(some 16, 0), (some 17, 0)], []), (3, [(some 15, 0), (none, 0)], []), (3, [(none, 3), (some 15, 0)], []), (3, [(some 14, 0), (none, 0)], []), (2, [(some 14, 0), (some 2, 0)], [])], (161, [(some 17, 1), (some 14, 0), (some 15, 0), (some 2, 0), (some 3, 0), (some 4, 0), (some 5, 0), (some 6, 0), (none, 0), (none, 0)], [7, 8, 10, 11, 12, 13, 15, 16, 19, 20, 21, 23, 24, 25, 46, 41, 42, 43, 44, 63, 64, 70, 66]))
set_option maxRecDepth 20000 in
theorem v_xo_writeC_1_24 {PT : PTy} (hp : HP11 PT) : vcOk PT w_xo_writeC_1_24 := vc_iv [(2, 1, 8), (3, 0, 10), (4, 0, 8), (5, 0, 6), (6, 0, 6), (14, 0, 7), (15, 2, 2), (16, 1, 24), (17, 0, 23), (18, 0, 49), (19, 0, 49), (20, 0, 49), (21, 0, 99), (22, (-1), 2), (23, 1, 1), (24, (-2147483648), 2147483647)] [7, 8, 10, 11, 12, 13, 15, 16, 19, 20, 21, 23, 24, 25, 41, 42, 43, 44, 45, 46, 58, 59, 60, 61, 62, 63, 64, 65, 66, 67, 68, 69, 70] (by decide +kernel) (fun ρ α => by
  intro r2 g2 b2 r3 g3 b3 r4 g4 b4 r5 g5 b5 r6 g6 b6 r14 g14 b14 r15 g15 b15 r16 g16 b16 r17 g17 b17 r18 g18 b18 r19 g19 b19 r20 g20 b20 r21 g21 b21 r22 g22 b22 r23 g23 b23 r24 g24 b24 a7 h7 a8 h8 a10 h10 a11 h11 a12 h12 a13 h13 a15 h15 a16 h16 a19 h19 a20 h20 a21 h21 a23 h23 a24 h24 a25 h25 a41 h41 a42 h42 a43 h43 a44 h44 a45 h45 a46 h46 a58 h58 a59 h59 a60 h60 a61 h61 a62 h62 a63 h63 a64 h64 a65 h65 a66 h66 a67 h67 a68 h68 a69 h69 a70 h70 f0 f1 f2 f3 f4 f5 f6 f7 f8 f9 f10 f11 f12 f13 f14 f15 f16 f17 f18 tt
  clear f15 f16 f17
  have e91 : PT 91 = P_adE := pe91_11 hp
  have e147 : PT 147 = P_wrX := pe147_11 hp
  have e149 : PT 149 = P_yi := pe149_11 hp
  have e150 : PT 150 = P_ar2 := pe150_11 hp
  have e161 : PT 161 = P_wcX := pe161_11 hp
  simp only [hF0, hF1, hF2, hF3, hF19, hF20, hF21, hFp_91, hFp_147, hFp_149, hFp_150, hFp_161, e91, e147, e149, e150, e161, P_adE, P_wrX, P_yi, P_ar2, P_wcX, den_s, den_c, Int.add_zero, List.map_cons, List.map_nil, g2.eq, g3.eq, g4.eq, g5.eq, g6.eq, g14.eq, g15.eq, g16.eq, g17.eq, g18.eq, g19.eq, g20.eq, g21.eq, g22.eq, g23.eq, g24.eq, h7, h8, h10, h11, h12, h13, h15, h16, h19, h20, h21, h23, h24, h25, h41, h42, h43, h44, h45, h46, h58, h59, h60, h61, h62, h63, h64, h65, h66, h67, h68, h69, h70] at f0 f1 f2 f3 f4 f5 f6 f7 f8 f9 f10 f11 f12 f13 f14 f18 ⊢
  subst f0
  subst f1
  subst f3
  subst f5
  subst f7
  have hy := yI_e (f10).2 (yI_s (f10).2 f11 (by omega) (f8).1) (f8).2
  have hw := f13
  rcases (show r15 = 0 ∨ r15 = 1 ∨ r15 = 2 ∨ r15 = 3 by omega) with z | z | z | z <;> subst z <;> first
    | (exfalso; omega)
    | (refine wcS_s hw (by omega) (by simp only [rowX_0, rowX_1, rowX_2, rowX_3]; rfl) ⟨_, _, _, hy, ?_⟩ (fun t h1 h2 h3 => ?_)
       · unfold cutF
         (repeat' split) <;> first | rfl | (exfalso; omega)
       · rcases (show t = 0 ∨ t = 1 ∨ t = 2 ∨ t = 3 by omega) with y | y | y | y <;> subst y <;> first | (exact absurd rfl h3) | (simp only [rowX_0, rowX_1, rowX_2, rowX_3])))
def w_xo_writeC_1_25 : VC := (([(0, 23), (0, 49), (1, 8), (0, 10), (0, 8), (0, 6), (0, 6), (0, 8), (0, 9), (0, 49), (0, 49), ((-2147483648), 2147483647), ((-2147483648), 2147483647), (0, 5), (0, 7), (2, 2), (1, 24), (0, 23), (0, 49), (0, 49), (0, 49), (0, 99), ((-1), 2), (1, 1), ((-2147483648), 2147483647)]), [(21, [(some 17, 0), (some 24, 0)], [70, 65]), (19, [(some 24, 0), (some 21, 0)], []), (0, [(some 23, 0), (none, 1)], []), (20, [(some 23, 0), (some 15, 0)], [46]), (1, [(some 22, 0), (none, 0)], []), (20, [(some 22, 0), (some 15, 0)], [46]), (0, [(some 15, 0), (none, 2)], []), (20, [(some 21, 0), (some 14, 0)], [67]), (91, [(some 19, 0), (some 20, 0), (some 18, 0), (some 17, 0), (none, 0), (none, 0)], [58, 59, 7, 8, 10, 11, 16, 20, 21, 24, 25, 60, 61, 62, 67, 68, 69]), (2, [(some 17, 0), (some 16, 0)], []), (150, [(some 18, 0), (some 2, 0), (some 3, 0), (some 4, 0), (some 5, 0), (some 6, 0)], [58, 59, 7, 8, 10, 11, 12, 13, 15, 16, 19, 20, 21, 23, 24, 25]), (149, [(some 19, 0), (some 17, 0), (some 2, 0), (some 3, 0), (some 4, 0), (some 5, 0), (some 6, 0), (none, 0), (none, 0)], [7, 8, 10, 11, 12, 13, 15, 16, 19, 20, 21, 23, 24, 25, 58, 60, 61, 62]), (147, [(some 16, 0), (some 14, 0), (some 15, 0), (some 2, 0)], [45, 46]), (161, [(some 17, 0), (some 14, 0), (some 15, 0), (some 2, 0), (some 3, 0), (some 4, 0), (some 5, 0), (some 6, 0), (none, 0), (none, 0)], [7, 8, 10, 11, 12, 13, 15, 16, 19, 20, 21, 23, 24, 25, 46, 41, 42, 43, 44, 63, 64, 65, 66]), (3, [(some 16, 0), (some 17, 0)], []), (3, [(some 15, 0), (none, 0)], []), (3, [(none, 3), (some 15, 0)], []), (3, [(some 14, 0), (none, 0)], []), (2, [(some 14, 0), (some 2, 0)], [])], (3, [(some 16, 0), (some 17, 1)], []))
set_option maxRecDepth 20000 in
theorem v_xo_writeC_1_25 {PT : PTy} (hp : HP11 PT) : vcOk PT w_xo_writeC_1_25 := vc_iv [(2, 1, 8), (3, 0, 10), (4, 0, 8), (5, 0, 6), (6, 0, 6), (14, 0, 7), (15, 2, 2), (16, 1, 24), (17, 0, 23), (18, 0, 49), (19, 0, 49), (20, 0, 49), (21, 0, 99), (22, (-1), 2), (23, 1, 1), (24, (-2147483648), 2147483647)] [7, 8, 10, 11, 12, 13, 15, 16, 19, 20, 21, 23, 24, 25, 41, 42, 43, 44, 45, 46, 58, 59, 60, 61, 62, 63, 64, 65, 66, 67, 68, 69, 70] (by decide +kernel) (fun ρ α => by
  intro r2 g2 b2 r3 g3 b3 r4 g4 b4 r5 g5 b5 r6 g6 b6 r14 g14 b14 r15 g15 b15 r16 g16 b16 r17 g17 b17 r18 g18 b18 r19 g19 b19 r20 g20 b20 r21 g21 b21 r22 g22 b22 r23 g23 b23 r24 g24 b24 a7 h7 a8 h8 a10 h10 a11 h11 a12 h12 a13 h13 a15 h15 a16 h16 a19 h19 a20 h20 a21 h21 a23 h23 a24 h24 a25 h25 a41 h41 a42 h42 a43 h43 a44 h44 a45 h45 a46 h46 a58 h58 a59 h59 a60 h60 a61 h61 a62 h62 a63 h63 a64 h64 a65 h65 a66 h66 a67 h67 a68 h68 a69 h69 a70 h70 f0 f1 f2 f3 f4 f5 f6 f7 f8 f9 f10 f11 f12 f13 f14 f15 f16 f17 f18 tt
  clear f15 f16 f17
  have e91 : PT 91 = P_adE := pe91_11 hp
  have e147 : PT 147 = P_wrX := pe147_11 hp
  have e149 : PT 149 = P_yi := pe149_11 hp
  have e150 : PT 150 = P_ar2 := pe150_11 hp
  have e161 : PT 161 = P_wcX := pe161_11 hp
  simp only [hF0, hF1, hF2, hF3, hF19, hF20, hF21, hFp_91, hFp_147, hFp_149, hFp_150, hFp_161, e91, e147, e149, e150, e161, P_adE, P_wrX, P_yi, P_ar2, P_wcX, den_s, den_c, Int.add_zero, List.map_cons, List.map_nil, g2.eq, g3.eq, g4.eq, g5.eq, g6.eq, g14.eq, g15.eq, g16.eq, g17.eq, g18.eq, g19.eq, g20.eq, g21.eq, g22.eq, g23.eq, g24.eq, h7, h8, h10, h11, h12, h13, h15, h16, h19, h20, h21, h23, h24, h25, h41, h42, h43, h44, h45, h46, h58, h59, h60, h61, h62, h63, h64, h65, h66, h67, h68, h69, h70] at f0 f1 f2 f3 f4 f5 f6 f7 f8 f9 f10 f11 f12 f13 f14 f18 ⊢
  subst f0
  subst f1
  subst f3
  subst f5
  subst f7
  ((repeat' (first | apply And.intro | intro h)) <;> first | omega | rfl | trivial | (exfalso; omega)))
def w_xo_writeC_1_26 : VC := (([(0, 23), (0, 49), (1, 8), (0, 10), (0, 8), (0, 6), (0, 6), (0, 8), (0, 9), (0, 49), (0, 49), ((-2147483648), 2147483647), ((-2147483648), 2147483647), (0, 5), (0, 7), (2, 2), (1, 24), (0, 23), (0, 49), (0, 49), (0, 49), (0, 99), (0, 0), ((-2147483648), 2147483647)]), [(21, [(some 17, 0), (some 23, 0)], [70, 65]), (18, [(some 23, 0), (some 21, 0)], []), (0, [(some 22, 0), (none, 0)], []), (20, [(some 22, 0), (some 15, 0)], [46]), (0, [(some 15, 0), (none, 2)], []), (20, [(some 21, 0), (some 14, 0)], [67]), (91, [(some 19, 0), (some 20, 0), (some 18, 0), (some 17, 0), (none, 0), (none, 0)], [58, 59, 7, 8, 10, 11, 16, 20, 21, 24, 25, 60, 61, 62, 67, 68, 69]), (2, [(some 17, 0), (some 16, 0)], []), (150, [(some 18, 0), (some 2, 0), (some 3, 0), (some 4, 0), (some 5, 0), (some 6, 0)], [58, 59, 7, 8, 10, 11, 12, 13, 15, 16, 19, 20, 21, 23, 24, 25]), (149, [(some 19, 0), (some 17, 0), (some 2, 0), (some 3, 0), (some 4, 0), (some 5, 0), (some 6, 0), (none, 0), (none, 0)], [7, 8, 10, 11, 12, 13, 15, 16, 19, 20, 21, 23, 24, 25, 58, 60, 61, 62]), (147, [(some 16, 0), (some 14, 0), (some 15, 0), (some 2, 0)], [45, 46]), (161, [(some 17, 0), (some 14, 0), (some 15, 0), (some 2, 0), (some 3, 0), (some 4, 0), (some 5, 0), (some 6, 0), (none, 0), (none, 0)], [7, 8, 10, 11, 12, 13, 15, 16, 19, 20, 21, 23, 24, 25, 46, 41, 42, 43, 44, 63, 64, 65, 66]), (3, [(some 16, 0), (some 17, 0)], []), (3, [(some 15, 0), (none, 0)], []), (3, [(none, 3), (some 15, 0)], []), (3, [(some 14, 0), (none, 0)], []), (2, [(some 14, 0), (some 2, 0)], [])], (149, [(some 20, 0), (some 17, 1), (some 2, 0), (some 3, 0), (some 4, 0), (some 5, 0), (some 6, 0), (none, 0), (none, 0)], [7, 8, 10, 11, 12, 13, 15, 16, 19, 20, 21, 23, 24, 25, 58, 67, 68, 69]))
set_option maxRecDepth 20000 in
theorem v_xo_writeC_1_26 {PT : PTy} (hp : HP11 PT) : vcOk PT w_xo_writeC_1_26 := vc_in [(2, 1, 8), (3, 0, 10), (4, 0, 8), (5, 0, 6), (6, 0, 6), (14, 0, 7), (15, 2, 2), (16, 1, 24), (17, 0, 23), (18, 0, 49), (19, 0, 49), (20, 0, 49), (21, 0, 99), (22, 0, 0), (23, (-2147483648), 2147483647)] (by decide +kernel) (fun ρ α => by
  intro b2 b3 b4 b5 b6 b14 b15 b16 b17 b18 b19 b20 b21 b22 b23 f0 f1 f2 f3 f4 f5 f6 f7 f8 f9 f10 f11 f12 f13 f14 f15 f16 tt
  clear f13 f14 f15
  have e91 : PT 91 = P_adE := pe91_11 hp
  have e147 : PT 147 = P_wrX := pe147_11 hp
  have e149 : PT 149 = P_yi := pe149_11 hp
  have e150 : PT 150 = P_ar2 := pe150_11 hp
  have e161 : PT 161 = P_wcX := pe161_11 hp
  simp only [hF0, hF2, hF3, hF18, hF20, hF21, hFp_91, hFp_147, hFp_149, hFp_150, hFp_161, e91, e147, e149, e150, e161, P_adE, P_wrX, P_yi, P_ar2, P_wcX, den_s, den_c, Int.add_zero, List.map_cons, List.map_nil] at f0 f1 f2 f3 f4 f5 f6 f7 f8 f9 f10 f11 f12 f16 ⊢
  exact yI_s (f8).2 f9 (by omega) (f6).1)
def w_xo_writeC_1_27 : VC := (([(0, 23), (0, 49), (1, 8), (0, 10), (0, 8), (0, 6), (0, 6), (0, 8), (0, 9), (0, 49), (0, 49), ((-2147483648), 2147483647), ((-2147483648), 2147483647), (0, 5), (0, 7), (2, 2), (1, 24), (0, 23), (0, 49), (0, 49), (0, 49), (0, 99), (0, 0), ((-2147483648), 2147483647)]), [(21, [(some 17, 0), (some 23, 0)], [70, 65]), (18, [(some 23, 0), (some 21, 0)], []), (0, [(some 22, 0), (none, 0)], []), (20, [(some 22, 0), (some 15, 0)], [46]), (0, [(some 15, 0), (none, 2)], []), (20, [(some 21, 0), (some 14, 0)], [67]), (91, [(some 19, 0), (some 20, 0), (some 18, 0), (some 17, 0), (none, 0), (none, 0)], [58, 59, 7, 8, 10, 11, 16, 20, 21, 24, 25, 60, 61, 62, 67, 68, 69]), (2, [(some 17, 0), (some 16, 0)], []), (150, [(some 18, 0), (some 2, 0), (some 3, 0), (some 4, 0), (some 5, 0), (some 6, 0)], [58, 59, 7, 8, 10, 11, 12, 13, 15, 16, 19, 20, 21, 23, 24, 25]), (149, [(some 19, 0), (some 17, 0), (some 2, 0), (some 3, 0), (some 4, 0), (some 5, 0), (some 6, 0), (none, 0), (none, 0)], [7, 8, 10, 11, 12, 13, 15, 16, 19, 20, 21, 23, 24, 25, 58, 60, 61, 62]), (147, [(some 16, 0), (some 14, 0), (some 15, 0), (some 2, 0)], [45, 46]), (161, [(some 17, 0), (some 14, 0), (some 15, 0), (some 2, 0), (some 3, 0), (some 4, 0), (some 5, 0), (some 6, 0), (none, 0), (none, 0)], [7, 8, 10, 11, 12, 13, 15, 16, 19, 20, 21, 23, 24, 25, 46, 41, 42, 43, 44, 63, 64, 65, 66]), (3, [(some 16, 0), (some 17, 0)], []), (3, [(some 15, 0), (none, 0)], []), (3, [(none, 3), (some 15, 0)], []), (3, [(some 14, 0), (none, 0)], []), (2, [(some 14, 0), (some 2, 0)], [])], (161, [(some 17, 1), (some 14, 0), (some 15, 0), (some 2, 0), (some 3, 0), (some 4, 0), (some 5, 0), (some 6, 0), (none, 0), (none, 0)], [7, 8, 10, 11, 12, 13, 15, 16, 19, 20, 21, 23, 24, 25, 46, 41, 42, 43, 44, 63, 64, 70, 66]))
set_option maxRecDepth 20000 in
theorem v_xo_writeC_1_27 {PT : PTy} (hp : HP11 PT) : vcOk PT w_xo_writeC_1_27 := vc_iv [(2, 1, 8), (3, 0, 10), (4, 0, 8), (5, 0, 6), (6, 0, 6), (14, 0, 7), (15, 2, 2), (16, 1, 24), (17, 0, 23), (18, 0, 49), (19, 0, 49), (20, 0, 49), (21, 0, 99), (22, 0, 0), (23, (-2147483648), 2147483647)] [7, 8, 10, 11, 12, 13, 15, 16, 19, 20, 21, 23, 24, 25, 41, 42, 43, 44, 45, 46, 58, 59, 60, 61, 62, 63, 64, 65, 66, 67, 68, 69, 70] (by decide +kernel) (fun ρ α => by
  intro r2 g2 b2 r3 g3 b3 r4 g4 b4 r5 g5 b5 r6 g6 b6 r14 g14 b14 r15 g15 b15 r16 g16 b16 r17 g17 b17 r18 g18 b18 r19 g19 b19 r20 g20 b20 r21 g21 b21 r22 g22 b22 r23 g23 b23 a7 h7 a8 h8 a10 h10 a11 h11 a12 h12 a13 h13 a15 h15 a16 h16 a19 h19 a20 h20 a21 h21 a23 h23 a24 h24 a25 h25 a41 h41 a42 h42 a43 h43 a44 h44 a45 h45 a46 h46 a58 h58 a59 h59 a60 h60 a61 h61 a62 h62 a63 h63 a64 h64 a65 h65 a66 h66 a67 h67 a68 h68 a69 h69 a70 h70 f0 f1 f2 f3 f4 f5 f6 f7 f8 f9 f10 f11 f12 f13 f14 f15 f16 tt
  clear f13 f14 f15
  have e91 : PT 91 = P_adE := pe91_11 hp
  have e147 : PT 147 = P_wrX := pe147_11 hp
  have e149 : PT 149 = P_yi := pe149_11 hp
  have e150 : PT 150 = P_ar2 := pe150_11 hp
  have e161 : PT 161 = P_wcX := pe161_11 hp
  simp only [hF0, hF2, hF3, hF18, hF20, hF21, hFp_91, hFp_147, hFp_149, hFp_150, hFp_161, e91, e147, e149, e150, e161, P_adE, P_wrX, P_yi, P_ar2, P_wcX, den_s, den_c, Int.add_zero, List.map_cons, List.map_nil, g2.eq, g3.eq, g4.eq, g5.eq, g6.eq, g14.eq, g15.eq, g16.eq, g17.eq, g18.eq, g19.eq, g20.eq, g21.eq, g22.eq, g23.eq, h7, h8, h10, h11, h12, h13, h15, h16, h19, h20, h21, h23, h24, h25, h41, h42, h43, h44, h45, h46, h58, h59, h60, h61, h62, h63, h64, h65, h66, h67, h68, h69, h70] at f0 f1 f2 f3 f4 f5 f6 f7 f8 f9 f10 f11 f12 f16 ⊢
  subst f0
  subst f1
  subst f3
  subst f5
  have hy := yI_e (f8).2 (yI_s (f8).2 f9 (by omega) (f6).1) (f6).2
  have hw := f11
  rcases (show r15 = 0 ∨ r15 = 1 ∨ r15 = 2 ∨ r15 = 3 by omega) with z | z | z | z <;> subst z <;> first
    | (exfalso; omega)
    | (refine wcS_s hw (by omega) (by simp only [rowX_0, rowX_1, rowX_2, rowX_3]; rfl) ⟨_, _, _, hy, ?_⟩ (fun t h1 h2 h3 => ?_)
       · unfold cutF
         (repeat' split) <;> first | rfl | (exfalso; omega)
       · rcases (show t = 0 ∨ t = 1 ∨ t = 2 ∨ t = 3 by omega) with y | y | y | y <;> subst y <;> first | (exact absurd rfl h3) | (simp only [rowX_0, rowX_1, rowX_2, rowX_3])))
def w_xo_writeC_1_28 : VC := (([(0, 23), (0, 49), (1, 8), (0, 10), (0, 8), (0, 6), (0, 6), (0, 8), (0, 9), (0, 49), (0, 49), ((-2147483648), 2147483647), ((-2147483648), 2147483647), (0, 5), (0, 7), (2, 2), (1, 24), (0, 23), (0, 49), (0, 49), (0, 49), (0, 99), (0, 0), ((-2147483648), 2147483647)]), [(21, [(some 17, 0), (some 23, 0)], [70, 65]), (18, [(some 23, 0), (some 21, 0)], []), (0, [(some 22, 0), (none, 0)], []), (20, [(some 22, 0), (some 15, 0)], [46]), (0, [(some 15, 0), (none, 2)], []), (20, [(some 21, 0), (some 14, 0)], [67]), (91, [(some 19, 0), (some 20, 0), (some 18, 0), (some 17, 0), (none, 0), (none, 0)], [58, 59, 7, 8, 10, 11, 16, 20, 21, 24, 25, 60, 61, 62, 67, 68, 69]), (2, [(some 17, 0), (some 16, 0)], []), (150, [(some 18, 0), (some 2, 0), (some 3, 0), (some 4, 0), (some 5, 0), (some 6, 0)], [58, 59, 7, 8, 10, 11, 12, 13, 15, 16, 19, 20, 21, 23, 24, 25]), (149, [(some 19, 0), (some 17, 0), (some 2, 0), (some 3, 0), (some 4, 0), (some 5, 0), (some 6, 0), (none, 0), (none, 0)], [7, 8, 10, 11, 12, 13, 15, 16, 19, 20, 21, 23, 24, 25, 58, 60, 61, 62]), (147, [(some 16, 0), (some 14, 0), (some 15, 0), (some 2, 0)], [45, 46]), (161, [(some 17, 0), (some 14, 0), (some 15, 0), (some 2, 0), (some 3, 0), (some 4, 0), (some 5, 0), (some 6, 0), (none, 0), (none, 0)], [7, 8, 10, 11, 12, 13, 15, 16, 19, 20, 21, 23, 24, 25, 46, 41, 42, 43, 44, 63, 64, 65, 66]), (3, [(some 16, 0), (some 17, 0)], []), (3, [(some 15, 0), (none, 0)], []), (3, [(none, 3), (some 15, 0)], []), (3, [(some 14, 0), (none, 0)], []), (2, [(some 14, 0), (some 2, 0)], [])], (3, [(some 16, 0), (some 17, 1)], []))
set_option maxRecDepth 20000 in
theorem v_xo_writeC_1_28 {PT : PTy} (hp : HP11 PT) : vcOk PT w_xo_writeC_1_28 := vc_iv [(2, 1, 8), (3, 0, 10), (4, 0, 8), (5, 0, 6), (6, 0, 6), (14, 0, 7), (15, 2, 2), (16, 1, 24), (17, 0, 23), (18, 0, 49), (19, 0, 49), (20, 0, 49), (21, 0, 99), (22, 0, 0), (23, (-2147483648), 2147483647)] [7, 8, 10, 11, 12, 13, 15, 16, 19, 20, 21, 23, 24, 25, 41, 42, 43, 44, 45, 46, 58, 59, 60, 61, 62, 63, 64, 65, 66, 67, 68, 69, 70] (by decide +kernel) (fun ρ α => by
  intro r2 g2 b2 r3 g3 b3 r4 g4 b4 r5 g5 b5 r6 g6 b6 r14 g14 b14 r15 g15 b15 r16 g16 b16 r17 g17 b17 r18 g18 b18 r19 g19 b19 r20 g20 b20 r21 g21 b21 r22 g22 b22 r23 g23 b23 a7 h7 a8 h8 a10 h10 a11 h11 a12 h12 a13 h13 a15 h15 a16 h16 a19 h19 a20 h20 a21 h21 a23 h23 a24 h24 a25 h25 a41 h41 a42 h42 a43 h43 a44 h44 a45 h45 a46 h46 a58 h58 a59 h59 a60 h60 a61 h61 a62 h62 a63 h63 a64 h64 a65 h65 a66 h66 a67 h67 a68 h68 a69 h69 a70 h70 f0 f1 f2 f3 f4 f5 f6 f7 f8 f9 f10 f11 f12 f13 f14 f15 f16 tt
  clear f13 f14 f15
  have e91 : PT 91 = P_adE := pe91_11 hp
  have e147 : PT 147 = P_wrX := pe147_11 hp
  have e149 : PT 149 = P_yi := pe149_11 hp
  have e150 : PT 150 = P_ar2 := pe150_11 hp
  have e161 : PT 161 = P_wcX := pe161_11 hp
  simp only [hF0, hF2, hF3, hF18, hF20, hF21, hFp_91, hFp_147, hFp_149, hFp_150, hFp_161, e91, e147, e149, e150, e161, P_adE, P_wrX, P_yi, P_ar2, P_wcX, den_s, den_c, Int.add_zero, List.map_cons, List.map_nil, g2.eq, g3.eq, g4.eq, g5.eq, g6.eq, g14.eq, g15.eq, g16.eq, g17.eq, g18.eq, g19.eq, g20.eq, g21.eq, g22.eq, g23.eq, h7, h8, h10, h11, h12, h13, h15, h16, h19, h20, h21, h23, h24, h25, h41, h42, h43, h44, h45, h46, h58, h59, h60, h61, h62, h63, h64, h65, h66, h67, h68, h69, h70] at f0 f1 f2 f3 f4 f5 f6 f7 f8 f9 f10 f11 f12 f16 ⊢
  subst f0
  subst f1
  subst f3
  subst f5
  ((repeat' (first | apply And.intro | intro h)) <;> first | omega | rfl | trivial | (exfalso; omega)))
def w_xo_writeC_1_29 : VC := (([(0, 23), (0, 49), (1, 8), (0, 10), (0, 8), (0, 6), (0, 6), (0, 8), (0, 9), (0, 49), (0, 49), ((-2147483648), 2147483647), ((-2147483648), 2147483647), (0, 5), (0, 7), (3, 3), (1, 24), (0, 23), (0, 49), (0, 49), (0, 49), (0, 99), ((-1), 2), ((-1), 2)]), [(21, [(some 17, 0), (some 21, 0)], [70, 66]), (1, [(some 23, 0), (none, 1)], []), (20, [(some 23, 0), (some 15, 0)], [46]), (1, [(some 22, 0), (none, 0)], []), (20, [(some 22, 0), (some 15, 0)], [46]), (0, [(some 15, 0), (none, 3)], []), (20, [(some 21, 0), (some 14, 0)], [67]), (91, [(some 19, 0), (some 20, 0), (some 18, 0), (some 17, 0), (none, 0), (none, 0)], [58, 59, 7, 8, 10, 11, 16, 20, 21, 24, 25, 60, 61, 62, 67, 68, 69]), (2, [(some 17, 0), (some 16, 0)], []), (150, [(some 18, 0), (some 2, 0), (some 3, 0), (some 4, 0), (some 5, 0), (some 6, 0)], [58, 59, 7, 8, 10, 11, 12, 13, 15, 16, 19, 20, 21, 23, 24, 25]), (149, [(some 19, 0), (some 17, 0), (some 2, 0), (some 3, 0), (some 4, 0), (some 5, 0), (some 6, 0), (none, 0), (none, 0)], [7, 8, 10, 11, 12, 13, 15, 16, 19, 20, 21, 23, 24, 25, 58, 60, 61, 62]), (147, [(some 16, 0), (some 14, 0), (some 15, 0), (some 2, 0)], [45, 46]), (161, [(some 17, 0), (some 14, 0), (some 15, 0), (some 2, 0), (some 3, 0), (some 4, 0), (some 5, 0), (some 6, 0), (none, 0), (none, 0)], [7, 8, 10, 11, 12, 13, 15, 16, 19, 20, 21, 23, 24, 25, 46, 41, 42, 43, 44, 63, 64, 65, 66]), (3, [(some 16, 0), (some 17, 0)], []), (3, [(some 15, 0), (none, 0)], []), (3, [(none, 3), (some 15, 0)], []), (3, [(some 14, 0), (none, 0)], []), (2, [(some 14, 0), (some 2, 0)], [])], (149, [(some 20, 0), (some 17, 1), (some 2, 0), (some 3, 0), (some 4, 0), (some 5, 0), (some 6, 0), (none, 0), (none, 0)], [7, 8, 10, 11, 12, 13, 15, 16, 19, 20, 21, 23, 24, 25, 58, 67, 68, 69]))
set_option maxRecDepth 20000 in
theorem v_xo_writeC_1_29 {PT : PTy} (hp : HP11 PT) : vcOk PT w_xo_writeC_1_29 := vc_in [(2, 1, 8), (3, 0, 10), (4, 0, 8), (5, 0, 6), (6, 0, 6), (14, 0, 7), (15, 3, 3), (16, 1, 24), (17, 0, 23), (18, 0, 49), (19, 0, 49), (20, 0, 49), (21, 0, 99), (22, (-1), 2), (23, (-1), 2)] (by decide +kernel) (fun ρ α => by
  intro b2 b3 b4 b5 b6 b14 b15 b16 b17 b18 b19 b20 b21 b22 b23 f0 f1 f2 f3 f4 f5 f6 f7 f8 f9 f10 f11 f12 f13 f14 f15 f16 f17 tt
  clear f14 f15 f16
  have e91 : PT 91 = P_adE := pe91_11 hp
  have e147 : PT 147 = P_wrX := pe147_11 hp
  have e149 : PT 149 = P_yi := pe149_11 hp
  have e150 : PT 150 = P_ar2 := pe150_11 hp
  have e161 : PT 161 = P_wcX := pe161_11 hp
  simp only [hF0, hF1, hF2, hF3, hF20, hF21, hFp_91, hFp_147, hFp_149, hFp_150, hFp_161, e91, e147, e149, e150, e161, P_adE, P_wrX, P_yi, P_ar2, P_wcX, den_s, den_c, Int.add_zero, List.map_cons, List.map_nil] at f0 f1 f2 f3 f4 f5 f6 f7 f8 f9 f10 f11 f12 f13 f17 ⊢
  exact yI_s (f9).2 f10 (by omega) (f7).1)
def w_xo_writeC_1_30 : VC := (([(0, 23), (0, 49), (1, 8), (0, 10), (0, 8), (0, 6), (0, 6), (0, 8), (0, 9), (0, 49), (0, 49), ((-2147483648), 2147483647), ((-2147483648), 2147483647), (0, 5), (0, 7), (3, 3), (1, 24), (0, 23), (0, 49), (0, 49), (0, 49), (0, 99), ((-1), 2), ((-1), 2)]), [(21, [(some 17, 0), (some 21, 0)], [70, 66]), (1, [(some 23, 0), (none, 1)], []), (20, [(some 23, 0), (some 15, 0)], [46]), (1, [(some 22, 0), (none, 0)], []), (20, [(some 22, 0), (some 15, 0)], [46]), (0, [(some 15, 0), (none, 3)], []), (20, [(some 21, 0), (some 14, 0)], [67]), (91, [(some 19, 0), (some 20, 0), (some 18, 0), (some 17, 0), (none, 0), (none, 0)], [58, 59, 7, 8, 10, 11, 16, 20, 21, 24, 25, 60, 61, 62, 67, 68, 69]), (2, [(some 17, 0), (some 16, 0)], []), (150, [(some 18, 0), (some 2, 0), (some 3, 0), (some 4, 0), (some 5, 0), (some 6, 0)], [58, 59, 7, 8, 10, 11, 12, 13, 15, 16, 19, 20, 21, 23, 24, 25]), (149, [(some 19, 0), (some 17, 0), (some 2, 0), (some 3, 0), (some 4, 0), (some 5, 0), (some 6, 0), (none, 0), (none, 0)], [7, 8, 10, 11, 12, 13, 15, 16, 19, 20, 21, 23, 24, 25, 58, 60, 61, 62]), (147, [(some 16, 0), (some 14, 0), (some 15, 0), (some 2, 0)], [45, 46]), (161, [(some 17, 0), (some 14, 0), (some 15, 0), (some 2, 0), (some 3, 0), (some 4, 0), (some 5, 0), (some 6, 0), (none, 0), (none, 0)], [7, 8, 10, 11, 12, 13, 15, 16, 19, 20, 21, 23, 24, 25, 46, 41, 42, 43, 44, 63, 64, 65, 66]), (3, [(some 16, 0), (some 17, 0)], []), (3, [(some 15, 0), (none, 0)], []), (3, [(none, 3), (some 15, 0)], []), (3, [(some 14, 0), (none, 0)], []), (2, [(some 14, 0), (some 2, 0)], [])], (161, [(some 17, 1), (some 14, 0), (some 15, 0), (some 2, 0), (some 3, 0), (some 4, 0), (some 5, 0), (some 6, 0), (none, 0), (none, 0)], [7, 8, 10, 11, 12, 13, 15, 16, 19, 20, 21, 23, 24, 25, 46, 41, 42, 43, 44, 63, 64, 65, 70]))
set_option maxRecDepth 20000 in
theorem v_xo_writeC_1_30 {PT : PTy} (hp : HP11 PT) : vcOk PT w_xo_writeC_1_30 := vc_iv [(2, 1, 8), (3, 0, 10), (4, 0, 8), (5, 0, 6), (6, 0, 6), (14, 0, 7), (15, 3, 3), (16, 1, 24), (17, 0, 23), (18, 0, 49), (19, 0, 49), (20, 0, 49), (21, 0, 99), (22, (-1), 2), (23, (-1), 2)] [7, 8, 10, 11, 12, 13, 15, 16, 19, 20, 21, 23, 24, 25, 41, 42, 43, 44, 45, 46, 58, 59, 60, 61, 62, 63, 64, 65, 66, 67, 68, 69, 70] (by decide +kernel) (fun ρ α => by
  intro r2 g2 b2 r3 g3 b3 r4 g4 b4 r5 g5 b5 r6 g6 b6 r14 g14 b14 r15 g15 b15 r16 g16 b16 r17 g17 b17 r18 g18 b18 r19 g19 b19 r20 g20 b20 r21 g21 b21 r22 g22 b22 r23 g23 b23 a7 h7 a8 h8 a10 h10 a11 h11 a12 h12 a13 h13 a15 h15 a16 h16 a19 h19 a20 h20 a21 h21 a23 h23 a24 h24 a25 h25 a41 h41 a42 h42 a43 h43 a44 h44 a45 h45 a46 h46 a58 h58 a59 h59 a60 h60 a61 h61 a62 h62 a63 h63 a64 h64 a65 h65 a66 h66 a67 h67 a68 h68 a69 h69 a70 h70 f0 f1 f2 f3 f4 f5 f6 f7 f8 f9 f10 f11 f12 f13 f14 f15 f16 f17 tt
  clear f14 f15 f16
  have e91 : PT 91 = P_adE := pe91_11 hp
  have e147 : PT 147 = P_wrX := pe147_11 hp
  have e149 : PT 149 = P_yi := pe149_11 hp
  have e150 : PT 150 = P_ar2 := pe150_11 hp
  have e161 : PT 161 = P_wcX := pe161_11 hp
  simp only [hF0, hF1, hF2, hF3, hF20, hF21, hFp_91, hFp_147, hFp_149, hFp_150, hFp_161, e91, e147, e149, e150, e161, P_adE, P_wrX, P_yi, P_ar2, P_wcX, den_s, den_c, Int.add_zero, List.map_cons, List.map_nil, g2.eq, g3.eq, g4.eq, g5.eq, g6.eq, g14.eq, g15.eq, g16.eq, g17.eq, g18.eq, g19.eq, g20.eq, g21.eq, g22.eq, g23.eq, h7, h8, h10, h11, h12, h13, h15, h16, h19, h20, h21, h23, h24, h25, h41, h42, h43, h44, h45, h46, h58, h59, h60, h61, h62, h63, h64, h65, h66, h67, h68, h69, h70] at f0 f1 f2 f3 f4 f5 f6 f7 f8 f9 f10 f11 f12 f13 f17 ⊢
  subst f0
  subst f2
  subst f4
  subst f6
  have hy := yI_e (f9).2 (yI_s (f9).2 f10 (by omega) (f7).1) (f7).2
  have hw := f12
  rcases (show r15 = 0 ∨ r15 = 1 ∨ r15 = 2 ∨ r15 = 3 by omega) with z | z | z | z <;> subst z <;> first
    | (exfalso; omega)
    | (refine wcS_s hw (by omega) (by simp only [rowX_0, rowX_1, rowX_2, rowX_3]; rfl) ⟨_, _, _, hy, ?_⟩ (fun t h1 h2 h3 => ?_)
       · unfold cutF
         (repeat' split) <;> first | rfl | (exfalso; omega)
       · rcases (show t = 0 ∨ t = 1 ∨ t = 2 ∨ t = 3 by omega) with y | y | y | y <;> subst y <;> first | (exact absurd rfl h3) | (simp only [rowX_0, rowX_1, rowX_2, rowX_3])))
def w_xo_writeC_1_31 : VC := (([(0, 23), (0, 49), (1, 8), (0, 10), (0, 8), (0, 6), (0, 6), (0, 8), (0, 9), (0, 49), (0, 49), ((-2147483648), 2147483647), ((-2147483648), 2147483647), (0, 5), (0, 7), (3, 3), (1, 24), (0, 23), (0, 49), (0, 49), (0, 49), (0, 99), ((-1), 2), ((-1), 2)]), [(21, [(some 17, 0), (some 21, 0)], [70, 66]), (1, [(some 23, 0), (none, 1)], []), (20, [(some 23, 0), (some 15, 0)], [46]), (1, [(some 22, 0), (none, 0)], []), (20, [(some 22, 0), (some 15, 0)], [46]), (0, [(some 15, 0), (none, 3)], []), (20, [(some 21, 0), (some 14, 0)], [67]), (91, [(some 19, 0), (some 20, 0), (some 18, 0), (some 17, 0), (none, 0), (none, 0)], [58, 59, 7, 8, 10, 11, 16, 20, 21, 24, 25, 60, 61, 62, 67, 68, 69]), (2, [(some 17, 0), (some 16, 0)], []), (150, [(some 18, 0), (some 2, 0), (some 3, 0), (some 4, 0), (some 5, 0), (some 6, 0)], [58, 59, 7, 8, 10, 11, 12, 13, 15, 16, 19, 20, 21, 23, 24, 25]), (149, [(some 19, 0), (some 17, 0), (some 2, 0), (some 3, 0), (some 4, 0), (some 5, 0), (some 6, 0), (none, 0), (none, 0)], [7, 8, 10, 11, 12, 13, 15, 16, 19, 20, 21, 23, 24, 25, 58, 60, 61, 62]), (147, [(some 16, 0), (some 14, 0), (some 15, 0), (some 2, 0)], [45, 46]), (161, [(some 17, 0), (some 14, 0), (some 15, 0), (some 2, 0), (some 3, 0), (some 4, 0), (some 5, 0), (some 6, 0), (none, 0), (none, 0)], [7, 8, 10, 11, 12, 13, 15, 16, 19, 20, 21, 23, 24, 25, 46, 41, 42, 43, 44, 63, 64, 65, 66]), (3, [(some 16, 0), (some 17, 0)], []), (3, [(some 15, 0), (none, 0)], []), (3, [(none, 3), (some 15, 0)], []), (3, [(some 14, 0), (none, 0)], []), (2, [(some 14, 0), (some 2, 0)], [])], (3, [(some 16, 0), (some 17, 1)], []))
set_option maxRecDepth 20000 in
theorem v_xo_writeC_1_31 {PT : PTy} (hp : HP11 PT) : vcOk PT w_xo_writeC_1_31 := vc_iv [(2, 1, 8), (3, 0, 10), (4, 0, 8), (5, 0, 6), (6, 0, 6), (14, 0, 7), (15, 3, 3), (16, 1, 24), (17, 0, 23), (18, 0, 49), (19, 0, 49), (20, 0, 49), (21, 0, 99), (22, (-1), 2), (23, (-1), 2)] [7, 8, 10, 11, 12, 13, 15, 16, 19, 20, 21, 23, 24, 25, 41, 42, 43, 44, 45, 46, 58, 59, 60, 61, 62, 63, 64, 65, 66, 67, 68, 69, 70] (by decide +kernel) (fun ρ α => by
  intro r2 g2 b2 r3 g3 b3 r4 g4 b4 r5 g5 b5 r6 g6 b6 r14 g14 b14 r15 g15 b15 r16 g16 b16 r17 g17 b17 r18 g18 b18 r19 g19 b19 r20 g20 b20 r21 g21 b21 r22 g22 b22 r23 g23 b23 a7 h7 a8 h8 a10 h10 a11 h11 a12 h12 a13 h13 a15 h15 a16 h16 a19 h19 a20 h20 a21 h21 a23 h23 a24 h24 a25 h25 a41 h41 a42 h42 a43 h43 a44 h44 a45 h45 a46 h46 a58 h58 a59 h59 a60 h60 a61 h61 a62 h62 a63 h63 a64 h64 a65 h65 a66 h66 a67 h67 a68 h68 a69 h69 a70 h70 f0 f1 f2 f3 f4 f5 f6 f7 f8 f9 f10 f11 f12 f13 f14 f15 f16 f17 tt
  clear f14 f15 f16
  have e91 : PT 91 = P_adE := pe91_11 hp
  have e147 : PT 147 = P_wrX := pe147_11 hp
  have e149 : PT 149 = P_yi := pe149_11 hp
  have e150 : PT 150 = P_ar2 := pe150_11 hp
  have e161 : PT 161 = P_wcX := pe161_11 hp
  simp only [hF0, hF1, hF2, hF3, hF20, hF21, hFp_91, hFp_147, hFp_149, hFp_150, hFp_161, e91, e147, e149, e150, e161, P_adE, P_wrX, P_yi, P_ar2, P_wcX, den_s, den_c, Int.add_zero, List.map_cons, List.map_nil, g2.eq, g3.eq, g4.eq, g5.eq, g6.eq, g14.eq, g15.eq, g16.eq, g17.eq, g18.eq, g19.eq, g20.eq, g21.eq, g22.eq, g23.eq, h7, h8, h10, h11, h12, h13, h15, h16, h19, h20, h21, h23, h24, h25, h41, h42, h43, h44, h45, h46, h58, h59, h60, h61, h62, h63, h64, h65, h66, h67, h68, h69, h70] at f0 f1 f2 f3 f4 f5 f6 f7 f8 f9 f10 f11 f12 f13 f17 ⊢
  subst f0
  subst f2
  subst f4
  subst f6
  ((repeat' (first | apply And.intro | intro h)) <;> first | omega | rfl | trivial | (exfalso; omega)))
def w_xo_writeC_1_32 : VC := (([(0, 23), (0, 49), (1, 8), (0, 10), (0, 8), (0, 6), (0, 6), (0, 8), (0, 9), (0, 49), (0, 49), ((-2147483648), 2147483647), ((-2147483648), 2147483647), (0, 5), (0, 7), (3, 3), (1, 24), (0, 23), (0, 49), (0, 49), (0, 49), (0, 99), ((-1), 2), (1, 1), ((-2147483648), 2147483647)]), [(21, [(some 17, 0), (some 24, 0)], [70, 66]), (19, [(some 24, 0), (some 21, 0)], []), (0, [(some 23, 0), (none, 1)], []), (20, [(some 23, 0), (some 15, 0)], [46]), (1, [(some 22, 0), (none, 0)], []), (20, [(some 22, 0), (some 15, 0)], [46]), (0, [(some 15, 0), (none, 3)], []), (20, [(some 21, 0), (some 14, 0)], [67]), (91, [(some 19, 0), (some 20, 0), (some 18, 0), (some 17, 0), (none, 0), (none, 0)], [58, 59, 7, 8, 10, 11, 16, 20, 21, 24, 25, 60, 61, 62, 67, 68, 69]), (2, [(some 17, 0), (some 16, 0)], []), (150, [(some 18, 0), (some 2, 0), (some 3, 0), (some 4, 0), (some 5, 0), (some 6, 0)], [58, 59, 7, 8, 10, 11, 12, 13, 15, 16, 19, 20, 21, 23, 24, 25]), (149, [(some 19, 0), (some 17, 0), (some 2, 0), (some 3, 0), (some 4, 0), (some 5, 0), (some 6, 0), (none, 0), (none, 0)], [7, 8, 10, 11, 12, 13, 15, 16, 19, 20, 21, 23, 24, 25, 58, 60, 61, 62]), (147, [(some 16, 0), (some 14, 0), (some 15, 0), (some 2, 0)], [45, 46]), (161, [(some 17, 0), (some 14, 0), (some 15, 0), (some 2, 0), (some 3, 0), (some 4, 0), (some 5, 0), (some 6, 0), (none, 0), (none, 0)], [7, 8, 10, 11, 12, 13, 15, 16, 19, 20, 21, 23, 24, 25, 46, 41, 42, 43, 44, 63, 64, 65, 66]), (3, [(some 16, 0), (some 17, 0)], []), (3, [(some 15, 0), (none, 0)], []), (3, [(none, 3), (some 15, 0)], []), (3, [(some 14, 0), (none, 0)], []), (2, [(some 14, 0), (some 2, 0)], [])], (149, [(some 20, 0), (some 17, 1), (some 2, 0), (some 3, 0), (some 4, 0), (some 5, 0), (some 6, 0), (none, 0), (none, 0)], [7, 8, 10, 11, 12, 13, 15, 16, 19, 20, 21, 23, 24, 25, 58, 67, 68, 69]))
set_option maxRecDepth 20000 in
theorem v_xo_writeC_1_32 {PT : PTy} (hp : HP11 PT) : vcOk PT w_xo_writeC_1_32 := vc_in [(2, 1, 8), (3, 0, 10), (4, 0, 8), (5, 0, 6), (6, 0, 6), (14, 0, 7), (15, 3, 3), (16, 1, 24), (17, 0, 23), (18, 0, 49), (19, 0, 49), (20, 0, 49), (21, 0, 99), (22, (-1), 2), (23, 1, 1), (24, (-2147483648), 2147483647)] (by decide +kernel) (fun ρ α => by
  intro b2 b3 b4 b5 b6 b14 b15 b16 b17 b18 b19 b20 b21 b22 b23 b24 f0 f1 f2 f3 f4 f5 f6 f7 f8 f9 f10 f11 f12 f13 f14 f15 f16 f17 f18 tt
  clear f15 f16 f17
  have e91 : PT 91 = P_adE := pe91_11 hp
  have e147 : PT 147 = P_wrX := pe147_11 hp
  have e149 : PT 149 = P_yi := pe149_11 hp
  have e150 : PT 150 = P_ar2 := pe150_11 hp
  have e161 : PT 161 = P_wcX := pe161_11 hp
  simp only [hF0, hF1, hF2, hF3, hF19, hF20, hF21, hFp_91, hFp_147, hFp_149, hFp_150, hFp_161, e91, e147, e149, e150, e161, P_adE, P_wrX, P_yi, P_ar2, P_wcX, den_s, den_c, Int.add_zero, List.map_cons, List.map_nil] at f0 f1 f2 f3 f4 f5 f6 f7 f8 f9 f10 f11 f12 f13 f14 f18 ⊢
  exact yI_s (f10).2 f11 (by omega) (f8).1)
def w_xo_writeC_1_33 : VC := (([(0, 23), (0, 49), (1, 8), (0, 10), (0, 8), (0, 6), (0, 6), (0, 8), (0, 9), (0, 49), (0, 49), ((-2147483648), 2147483647), ((-2147483648), 2147483647), (0, 5), (0, 7), (3, 3), (1, 24), (0, 23), (0, 49), (0, 49), (0, 49), (0, 99), ((-1), 2), (1, 1), ((-2147483648), 2147483647)]), [(21, [(some 17, 0), (some 24, 0)], [70, 66]), (19, [(some 24, 0), (some 21, 0)], []), (0, [(some 23, 0), (none, 1)], []), (20, [(some 23, 0), (some 15, 0)], [46]), (1, [(some 22, 0), (none, 0)], []), (20, [(some 22, 0), (some 15, 0)], [46]), (0, [(some 15, 0), (none, 3)], []), (20, [(some 21, 0), (some 14, 0)], [67]), (91, [(some 19, 0), (some 20, 0), (some 18, 0), (some 17, 0), (none, 0), (none, 0)], [58, 59, 7, 8, 10, 11, 16, 20, 21, 24, 25, 60, 61, 62, 67, 68, 69]), (2, [(some 17, 0), (some 16, 0)], []), (150, [(some 18, 0), (some 2, 0), (some 3, 0), (some 4, 0), (some 5, 0), (some 6, 0)], [58, 59, 7, 8, 10, 11, 12, 13, 15, 16, 19, 20, 21, 23, 24, 25]), (149, [(some 19, 0), (some 17, 0), (some 2, 0), (some 3, 0), (some 4, 0), (some 5, 0), (some 6, 0), (none, 0), (none, 0)], [7, 8, 10, 11, 12, 13, 15, 16, 19, 20, 21, 23, 24, 25, 58, 60, 61, 62]), (147, [(some 16, 0), (some 14, 0), (some 15, 0), (some 2, 0)], [45, 46]), (161, [(some 17, 0), (some 14, 0), (some 15, 0), (some 2, 0), (some 3, 0), (some 4, 0), (some 5, 0), (some 6, 0), (none, 0), (none, 0)], [7, 8, 10, 11, 12, 13, 15, 16, 19, 20, 21, 23, 24, 25, 46, 41, 42, 43, 44, 63, 64, 65, 66]), (3, [(some 16, 0), (some 17, 0)], []), (3, [(some 15, 0), (none, 0)], []), (3, [(none, 3), (some 15, 0)], []), (3, [(some 14, 0), (none, 0)], []), (2, [(some 14, 0), (some 2, 0)], [])], (161, [(some 17, 1), (some 14, 0), (some 15, 0), (some 2, 0), (some 3, 0), (some 4, 0), (some 5, 0), (some 6, 0), (none, 0), (none, 0)], [7, 8, 10, 11, 12, 13, 15, 16, 19, 20, 21, 23, 24, 25, 46, 41, 42, 43, 44, 63, 64, 65, 70]))
set_option maxRecDepth 20000 in
theorem v_xo_writeC_1_33 {PT : PTy} (hp : HP11 PT) : vcOk PT w_xo_writeC_1_33 := vc_iv [(2, 1, 8), (3, 0, 10), (4, 0, 8), (5, 0, 6), (6, 0, 6), (14, 0, 7), (15, 3, 3), (16, 1, 24), (17, 0, 23), (18, 0, 49), (19, 0, 49), (20, 0, 49), (21, 0, 99), (22, (-1), 2), (23, 1, 1), (24, (-2147483648), 2147483647)] [7, 8, 10, 11, 12, 13, 15, 16, 19, 20, 21, 23, 24, 25, 41, 42, 43, 44, 45, 46, 58, 59, 60, 61, 62, 63, 64, 65, 66, 67, 68, 69, 70] (by decide +kernel) (fun ρ α => by
  intro r2 g2 b2 r3 g3 b3 r4 g4 b4 r5 g5 b5 r6 g6 b6 r14 g14 b14 r15 g15 b15 r16 g16 b16 r17 g17 b17 r18 g18 b18 r19 g19 b19 r20 g20 b20 r21 g21 b21 r22 g22 b22 r23 g23 b23 r24 g24 b24 a7 h7 a8 h8 a10 h10 a11 h11 a12 h12 a13 h13 a15 h15 a16 h16 a19 h19 a20 h20 a21 h21 a23 h23 a24 h24 a25 h25 a41 h41 a42 h42 a43 h43 a44 h44 a45 h45 a46 h46 a58 h58 a59 h59 a60 h60 a61 h61 a62 h62 a63 h63 a64 h64 a65 h65 a66 h66 a67 h67 a68 h68 a69 h69 a70 h70 f0 f1 f2 f3 f4 f5 f6 f7 f8 f9 f10 f11 f12 f13 f14 f15 f16 f17 f18 tt
  clear f15 f16 f17
  have e91 : PT 91 = P_adE := pe91_11 hp
  have e147 : PT 147 = P_wrX := pe147_11 hp
  have e149 : PT 149 = P_yi := pe149_11 hp
  have e150 : PT 150 = P_ar2 := pe150_11 hp
  have e161 : PT 161 = P_wcX := pe161_11 hp
  simp only [hF0, hF1, hF2, hF3, hF19, hF20, hF21, hFp_91, hFp_147, hFp_149, hFp_150, hFp_161, e91, e147, e149, e150, e161, P_adE, P_wrX, P_yi, P_ar2, P_wcX, den_s, den_c, Int.add_zero, List.map_cons, List.map_nil, g2.eq, g3.eq, g4.eq, g5.eq, g6.eq, g14.eq, g15.eq, g16.eq, g17.eq, g18.eq, g19.eq, g20.eq, g21.eq, g22.eq, g23.eq, g24.eq, h7, h8, h10, h11, h12, h13, h15, h16, h19, h20, h21, h23, h24, h25, h41, h42, h43, h44, h45, h46, h58, h59, h60, h61, h62, h63, h64, h65, h66, h67, h68, h69, h70] at f0 f1 f2 f3 f4 f5 f6 f7 f8 f9 f10 f11 f12 f13 f14 f18 ⊢
  subst f0
  subst f1
  subst f3
  subst f5
  subst f7
  have hy := yI_e (f10).2 (yI_s (f10).2 f11 (by omega) (f8).1) (f8).2
  have hw := f13
  rcases (show r15 = 0 ∨ r15 = 1 ∨ r15 = 2 ∨ r15 = 3 by omega) with z | z | z | z <;> subst z <;> first
    | (exfalso; omega)
    | (refine wcS_s hw (by omega) (by simp only [rowX_0, rowX_1, rowX_2, rowX_3]; rfl) ⟨_, _, _, hy, ?_⟩ (fun t h1 h2 h3 => ?_)
       · unfold cutF
         (repeat' split) <;> first | rfl | (exfalso; omega)
       · rcases (show t = 0 ∨ t = 1 ∨ t = 2 ∨ t = 3 by omega) with y | y | y | y <;> subst y <;> first | (exact absurd rfl h3) | (simp only [rowX_0, rowX_1, rowX_2, rowX_3])))
def w_xo_writeC_1_34 : VC := (([(0, 23), (0, 49), (1, 8), (0, 10), (0, 8), (0, 6), (0, 6), (0, 8), (0, 9), (0, 49), (0, 49), ((-2147483648), 2147483647), ((-2147483648), 2147483647), (0, 5), (0, 7), (3, 3), (1, 24), (0, 23), (0, 49), (0, 49), (0, 49), (0, 99), ((-1), 2), (1, 1), ((-2147483648), 2147483647)]), [(21, [(some 17, 0), (some 24, 0)], [70, 66]), (19, [(some 24, 0), (some 21, 0)], []), (0, [(some 23, 0), (none, 1)], []), (20, [(some 23, 0), (some 15, 0)], [46]), (1, [(some 22, 0), (none, 0)], []), (20, [(some 22, 0), (some 15, 0)], [46]), (0, [(some 15, 0), (none, 3)], []), (20, [(some 21, 0), (some 14, 0)], [67]), (91, [(some 19, 0), (some 20, 0), (some 18, 0), (some 17, 0), (none, 0), (none, 0)], [58, 59, 7, 8, 10, 11, 16, 20, 21, 24, 25, 60, 61, 62, 67, 68, 69]), (2, [(some 17, 0), (some 16, 0)], []), (150, [(some 18, 0), (some 2, 0), (some 3, 0), (some 4, 0), (some 5, 0), (some 6, 0)], [58, 59, 7, 8, 10, 11, 12, 13, 15, 16, 19, 20, 21, 23, 24, 25]), (149, [(some 19, 0), (some 17, 0), (some 2, 0), (some 3, 0), (some 4, 0), (some 5, 0), (some 6, 0), (none, 0), (none, 0)], [7, 8, 10, 11, 12, 13, 15, 16, 19, 20, 21, 23, 24, 25, 58, 60, 61, 62]), (147, [(some 16, 0), (some 14, 0), (some 15, 0), (some 2, 0)], [45, 46]), (161, [(some 17, 0), (some 14, 0), (some 15, 0), (some 2, 0), (some 3, 0), (some 4, 0), (some 5, 0), (some 6, 0), (none, 0), (none, 0)], [7, 8, 10, 11, 12, 13, 15, 16, 19, 20, 21, 23, 24, 25, 46, 41, 42, 43, 44, 63, 64, 65, 66]), (3, [(some 16, 0), (some 17, 0)], []), (3, [(some 15, 0), (none, 0)], []), (3, [(none, 3), (some 15, 0)], []), (3, [(some 14, 0), (none, 0)], []), (2, [(some 14, 0), (some 2, 0)], [])], (3, [(some 16, 0), (some 17, 1)], []))
set_option maxRecDepth 20000 in
theorem v_xo_writeC_1_34 {PT : PTy} (hp : HP11 PT) : vcOk PT w_xo_writeC_1_34 := vc_iv [(2, 1, 8), (3, 0, 10), (4, 0, 8), (5, 0, 6), (6, 0, 6), (14, 0, 7), (15, 3, 3), (16, 1, 24), (17, 0, 23), (18, 0, 49), (19, 0, 49), (20, 0, 49), (21, 0, 99), (22, (-1), 2), (23, 1, 1), (24, (-2147483648), 2147483647)] [7, 8, 10, 11, 12, 13, 15, 16, 19, 20, 21, 23, 24, 25, 41, 42, 43, 44, 45, 46, 58, 59, 60, 61, 62, 63, 64, 65, 66, 67, 68, 69, 70] (by decide +kernel) (fun ρ α => by
  intro r2 g2 b2 r3 g3 b3 r4 g4 b4 r5 g5 b5 r6 g6 b6 r14 g14 b14 r15 g15 b15 r16 g16 b16 r17 g17 b17 r18 g18 b18 r19 g19 b19 r20 g20 b20 r21 g21 b21 r22 g22 b22 r23 g23 b23 r24 g24 b24 a7 h7 a8 h8 a10 h10 a11 h11 a12 h12 a13 h13 a15 h15 a16 h16 a19 h19 a20 h20 a21 h21 a23 h23 a24 h24 a25 h25 a41 h41 a42 h42 a43 h43 a44 h44 a45 h45 a46 h46 a58 h58 a59 h59 a60 h60 a61 h61 a62 h62 a63 h63 a64 h64 a65 h65 a66 h66 a67 h67 a68 h68 a69 h69 a70 h70 f0 f1 f2 f3 f4 f5 f6 f7 f8 f9 f10 f11 f12 f13 f14 f15 f16 f17 f18 tt
  clear f15 f16 f17
  have e91 : PT 91 = P_adE := pe91_11 hp
  have e147 : PT 147 = P_wrX := pe147_11 hp
  have e149 : PT 149 = P_yi := pe149_11 hp
  have e150 : PT 150 = P_ar2 := pe150_11 hp
  have e161 : PT 161 = P_wcX := pe161_11 hp
  simp only [hF0, hF1, hF2, hF3, hF19, hF20, hF21, hFp_91, hFp_147, hFp_149, hFp_150, hFp_161, e91, e147, e149, e150, e161, P_adE, P_wrX, P_yi, P_ar2, P_wcX, den_s, den_c, Int.add_zero, List.map_cons, List.map_nil, g2.eq, g3.eq, g4.eq, g5.eq, g6.eq, g14.eq, g15.eq, g16.eq, g17.eq, g18.eq, g19.eq, g20.eq, g21.eq, g22.eq, g23.eq, g24.eq, h7, h8, h10, h11, h12, h13, h15, h16, h19, h20, h21, h23, h24, h25, h41, h42, h43, h44, h45, h46, h58, h59, h60, h61, h62, h63, h64, h65, h66, h67, h68, h69, h70] at f0 f1 f2 f3 f4 f5 f6 f7 f8 f9 f10 f11 f12 f13 f14 f18 ⊢
  subst f0
  subst f1
  subst f3
  subst f5
  subst f7
  ((repeat' (first | apply And.intro | intro h)) <;> first | omega | rfl | trivial | (exfalso; omega)))
def w_xo_writeC_1_35 : VC := (([(0, 23), (0, 49), (1, 8), (0, 10), (0, 8), (0, 6), (0, 6), (0, 8), (0, 9), (0, 49), (0, 49), ((-2147483648), 2147483647), ((-2147483648), 2147483647), (0, 5), (0, 7), (3, 3), (1, 24), (0, 23), (0, 49), (0, 49), (0, 49), (0, 99), (0, 0), ((-2147483648), 2147483647)]), [(21, [(some 17, 0), (some 23, 0)], [70, 66]), (18, [(some 23, 0), (some 21, 0)], []), (0, [(some 22, 0), (none, 0)], []), (20, [(some 22, 0), (some 15, 0)], [46]), (0, [(some 15, 0), (none, 3)], []), (20, [(some 21, 0), (some 14, 0)], [67]), (91, [(some 19, 0), (some 20, 0), (some 18, 0), (some 17, 0), (none, 0), (none, 0)], [58, 59, 7, 8, 10, 11, 16, 20, 21, 24, 25, 60, 61, 62, 67, 68, 69]), (2, [(some 17, 0), (some 16, 0)], []), (150, [(some 18, 0), (some 2, 0), (some 3, 0), (some 4, 0), (some 5, 0), (some 6, 0)], [58, 59, 7, 8, 10, 11, 12, 13, 15, 16, 19, 20, 21, 23, 24, 25]), (149, [(some 19, 0), (some 17, 0), (some 2, 0), (some 3, 0), (some 4, 0), (some 5, 0), (some 6, 0), (none, 0), (none, 0)], [7, 8, 10, 11, 12, 13, 15, 16, 19, 20, 21, 23, 24, 25, 58, 60, 61, 62]), (147, [(some 16, 0), (some 14, 0), (some 15, 0), (some 2, 0)], [45, 46]), (161, [(some 17, 0), (some 14, 0), (some 15, 0), (some 2, 0), (some 3, 0), (some 4, 0), (some 5, 0), (some 6, 0), (none, 0), (none, 0)], [7, 8, 10, 11, 12, 13, 15, 16, 19, 20, 21, 23, 24, 25, 46, 41, 42, 43, 44, 63, 64, 65, 66]), (3, [(some 16, 0), (some 17, 0)], []), (3, [(some 15, 0), (none, 0)], []), (3, [(none, 3), (some 15, 0)], []), (3, [(some 14, 0), (none, 0)], []), (2, [(some 14, 0), (some 2, 0)], [])], (149, [(some 20, 0), (some 17, 1), (some 2, 0), (some 3, 0), (some 4, 0), (some 5, 0), (some 6, 0), (none, 0), (none, 0)], [7, 8, 10, 11, 12, 13, 15, 16, 19, 20, 21, 23, 24, 25, 58, 67, 68, 69]))
set_option maxRecDepth 20000 in
theorem v_xo_writeC_1_35 {PT : PTy} (hp : HP11 PT) : vcOk PT w_xo_writeC_1_35 := vc_in [(2, 1, 8), (3, 0, 10), (4, 0, 8), (5, 0, 6), (6, 0, 6), (14, 0, 7), (15, 3, 3), (16, 1, 24), (17, 0, 23), (18, 0, 49), (19, 0, 49), (20, 0, 49), (21, 0, 99), (22, 0, 0), (23, (-2147483648), 2147483647)] (by decide +kernel) (fun ρ α => by
  intro b2 b3 b4 b5 b6 b14 b15 b16 b17 b18 b19 b20 b21 b22 b23 f0 f1 f2 f3 f4 f5 f6 f7 f8 f9 f10 f11 f12 f13 f14 f15 f16 tt
  clear f13 f14 f15
  have e91 : PT 91 = P_adE := pe91_11 hp
  have e147 : PT 147 = P_wrX := pe147_11 hp
  have e149 : PT 149 = P_yi := pe149_11 hp
  have e150 : PT 150 = P_ar2 := pe150_11 hp
  have e161 : PT 161 = P_wcX := pe161_11 hp
  simp only [hF0, hF2, hF3, hF18, hF20, hF21, hFp_91, hFp_147, hFp_149, hFp_150, hFp_161, e91, e147, e149, e150, e161, P_adE, P_wrX, P_yi, P_ar2, P_wcX, den_s, den_c, Int.add_zero, List.map_cons, List.map_nil] at f0 f1 f2 f3 f4 f5 f6 f7 f8 f9 f10 f11 f12 f16 ⊢
  exact yI_s (f8).2 f9 (by omega) (f6).1)
def w_xo_writeC_1_36 : VC := (([(0, 23), (0, 49), (1, 8), (0, 10), (0, 8), (0, 6), (0, 6), (0, 8), (0, 9), (0, 49), (0, 49), ((-2147483648), 2147483647), ((-2147483648), 2147483647), (0, 5), (0, 7), (3, 3), (1, 24), (0, 23), (0, 49), (0, 49), (0, 49), (0, 99), (0, 0), ((-2147483648), 2147483647)]), [(21, [(some 17, 0), (some 23, 0)], [70, 66]), (18, [(some 23, 0), (some 21, 0)], []), (0, [(some 22, 0), (none, 0)], []), (20, [(some 22, 0), (some 15, 0)], [46]), (0, [(some 15, 0), (none, 3)], []), (20, [(some 21, 0), (some 14, 0)], [67]), (91, [(some 19, 0), (some 20, 0), (some 18, 0), (some 17, 0), (none, 0), (none, 0)], [58, 59, 7, 8, 10, 11, 16, 20, 21, 24, 25, 60, 61, 62, 67, 68, 69]), (2, [(some 17, 0), (some 16, 0)], []), (150, [(some 18, 0), (some 2, 0), (some 3, 0), (some 4, 0), (some 5, 0), (some 6, 0)], [58, 59, 7, 8, 10, 11, 12, 13, 15, 16, 19, 20, 21, 23, 24, 25]), (149, [(some 19, 0), (some 17, 0), (some 2, 0), (some 3, 0), (some 4, 0), (some 5, 0), (some 6, 0), (none, 0), (none, 0)], [7, 8, 10, 11, 12, 13, 15, 16, 19, 20, 21, 23, 24, 25, 58, 60, 61, 62]), (147, [(some 16, 0), (some 14, 0), (some 15, 0), (some 2, 0)], [45, 46]), (161, [(some 17, 0), (some 14, 0), (some 15, 0), (some 2, 0), (some 3, 0), (some 4, 0), (some 5, 0), (some 6, 0), (none, 0), (none, 0)], [7, 8, 10, 11, 12, 13, 15, 16, 19, 20, 21, 23, 24, 25, 46, 41, 42, 43, 44, 63, 64, 65, 66]), (3, [(some 16, 0), (some 17, 0)], []), (3, [(some 15, 0), (none, 0)], []), (3, [(none, 3), (some 15, 0)], []), (3, [(some 14, 0), (none, 0)], []), (2, [(some 14, 0), (some 2, 0)], [])], (161, [(some 17, 1), (some 14, 0), (some 15, 0), (some 2, 0), (some 3, 0), (some 4, 0), (some 5, 0), (some 6, 0), (none, 0), (none, 0)], [7, 8, 10, 11, 12, 13, 15, 16, 19, 20, 21, 23, 24, 25, 46, 41, 42, 43, 44, 63, 64, 65, 70]))
set_option maxRecDepth 20000 in
theorem v_xo_writeC_1_36 {PT : PTy} (hp : HP11 PT) : vcOk PT w_xo_writeC_1_36 := vc_iv [(2, 1, 8), (3, 0, 10), (4, 0, 8), (5, 0, 6), (6, 0, 6), (14, 0, 7), (15, 3, 3), (16, 1, 24), (17, 0, 23), (18, 0, 49), (19, 0, 49), (20, 0, 49), (21, 0, 99), (22, 0, 0), (23, (-2147483648), 2147483647)] [7, 8, 10, 11, 12, 13, 15, 16, 19, 20, 21, 23, 24, 25, 41, 42, 43, 44, 45, 46, 58, 59, 60, 61, 62, 63, 64, 65, 66, 67, 68, 69, 70] (by decide +kernel) (fun ρ α => by
  intro r2 g2 b2 r3 g3 b3 r4 g4 b4 r5 g5 b5 r6 g6 b6 r14 g14 b14 r15 g15 b15 r16 g16 b16 r17 g17 b17 r18 g18 b18 r19 g19 b19 r20 g20 b20 r21 g21 b21 r22 g22 b22 r23 g23 b23 a7 h7 a8 h8 a10 h10 a11 h11 a12 h12 a13 h13 a15 h15 a16 h16 a19 h19 a20 h20 a21 h21 a23 h23 a24 h24 a25 h25 a41 h41 a42 h42 a43 h43 a44 h44 a45 h45 a46 h46 a58 h58 a59 h59 a60 h60 a61 h61 a62 h62 a63 h63 a64 h64 a65 h65 a66 h66 a67 h67 a68 h68 a69 h69 a70 h70 f0 f1 f2 f3 f4 f5 f6 f7 f8 f9 f10 f11 f12 f13 f14 f15 f16 tt
  clear f13 f14 f15
  have e91 : PT 91 = P_adE := pe91_11 hp
  have e147 : PT 147 = P_wrX := pe147_11 hp
  have e149 : PT 149 = P_yi := pe149_11 hp
  have e150 : PT 150 = P_ar2 := pe150_11 hp
  have e161 : PT 161 = P_wcX := pe161_11 hp
  simp only [hF0, hF2, hF3, hF18, hF20, hF21, hFp_91, hFp_147, hFp_149, hFp_150, hFp_161, e91, e147, e149, e150, e161, P_adE, P_wrX, P_yi, P_ar2, P_wcX, den_s, den_c, Int.add_zero, List.map_cons, List.map_nil, g2.eq, g3.eq, g4.eq, g5.eq, g6.eq, g14.eq, g15.eq, g16.eq, g17.eq, g18.eq, g19.eq, g20.eq, g21.eq, g22.eq, g23.eq, h7, h8, h10, h11, h12, h13, h15, h16, h19, h20, h21, h23, h24, h25, h41, h42, h43, h44, h45, h46, h58, h59, h60, h61, h62, h63, h64, h65, h66, h67, h68, h69, h70] at f0 f1 f2 f3 f4 f5 f6 f7 f8 f9 f10 f11 f12 f16 ⊢
  subst f0
  subst f1
  subst f3
  subst f5
  have hy := yI_e (f8).2 (yI_s (f8).2 f9 (by omega) (f6).1) (f6).2
  have hw := f11
  rcases (show r15 = 0 ∨ r15 = 1 ∨ r15 = 2 ∨ r15 = 3 by omega) with z | z | z | z <;> subst z <;> first
    | (exfalso; omega)
    | (refine wcS_s hw (by omega) (by simp only [rowX_0, rowX_1, rowX_2, rowX_3]; rfl) ⟨_, _, _, hy, ?_⟩ (fun t h1 h2 h3 => ?_)
       · unfold cutF
         (repeat' split) <;> first | rfl | (exfalso; omega)
       · rcases (show t = 0 ∨ t = 1 ∨ t = 2 ∨ t = 3 by omega) with y | y | y | y <;> subst y <;> first | (exact absurd rfl h3) | (simp only [rowX_0, rowX_1, rowX_2, rowX_3])))
def w_xo_writeC_1_37 : VC := (([(0, 23), (0, 49), (1, 8), (0, 10), (0, 8), (0, 6), (0, 6), (0, 8), (0, 9), (0, 49), (0, 49), ((-2147483648), 2147483647), ((-2147483648), 2147483647), (0, 5), (0, 7), (3, 3), (1, 24), (0, 23), (0, 49), (0, 49), (0, 49), (0, 99), (0, 0), ((-2147483648), 2147483647)]), [(21, [(some 17, 0), (some 23, 0)], [70, 66]), (18, [(some 23, 0), (some 21, 0)], []), (0, [(some 22, 0), (none, 0)], []), (20, [(some 22, 0), (some 15, 0)], [46]), (0, [(some 15, 0), (none, 3)], []), (20, [(some 21, 0), (some 14, 0)], [67]), (91, [(some 19, 0), (some 20, 0), (some 18, 0), (some 17, 0), (none, 0), (none, 0)], [58, 59, 7, 8, 10, 11, 16, 20, 21, 24, 25, 60, 61, 62, 67, 68, 69]), (2, [(some 17, 0), (some 16, 0)], []), (150, [(some 18, 0), (some 2, 0), (some 3, 0), (some 4, 0), (some 5, 0), (some 6, 0)], [58, 59, 7, 8, 10, 11, 12, 13, 15, 16, 19, 20, 21, 23, 24, 25]), (149, [(some 19, 0), (some 17, 0), (some 2, 0), (some 3, 0), (some 4, 0), (some 5, 0), (some 6, 0), (none, 0), (none, 0)], [7, 8, 10, 11, 12, 13, 15, 16, 19, 20, 21, 23, 24, 25, 58, 60, 61, 62]), (147, [(some 16, 0), (some 14, 0), (some 15, 0), (some 2, 0)], [45, 46]), (161, [(some 17, 0), (some 14, 0), (some 15, 0), (some 2, 0), (some 3, 0), (some 4, 0), (some 5, 0), (some 6, 0), (none, 0), (none, 0)], [7, 8, 10, 11, 12, 13, 15, 16, 19, 20, 21, 23, 24, 25, 46, 41, 42, 43, 44, 63, 64, 65, 66]), (3, [(some 16, 0), (some 17, 0)], []), (3, [(some 15, 0), (none, 0)], []), (3, [(none, 3), (some 15, 0)], []), (3, [(some 14, 0), (none, 0)], []), (2, [(some 14, 0), (some 2, 0)], [])], (3, [(some 16, 0), (some 17, 1)], []))
set_option maxRecDepth 20000 in
theorem v_xo_writeC_1_37 {PT : PTy} (hp : HP11 PT) : vcOk PT w_xo_writeC_1_37 := vc_iv [(2, 1, 8), (3, 0, 10), (4, 0, 8), (5, 0, 6), (6, 0, 6), (14, 0, 7), (15, 3, 3), (16, 1, 24), (17, 0, 23), (18, 0, 49), (19, 0, 49), (20, 0, 49), (21, 0, 99), (22, 0, 0), (23, (-2147483648), 2147483647)] [7, 8, 10, 11, 12, 13, 15, 16, 19, 20, 21, 23, 24, 25, 41, 42, 43, 44, 45, 46, 58, 59, 60, 61, 62, 63, 64, 65, 66, 67, 68, 69, 70] (by decide +kernel) (fun ρ α => by
  intro r2 g2 b2 r3 g3 b3 r4 g4 b4 r5 g5 b5 r6 g6 b6 r14 g14 b14 r15 g15 b15 r16 g16 b16 r17 g17 b17 r18 g18 b18 r19 g19 b19 r20 g20 b20 r21 g21 b21 r22 g22 b22 r23 g23 b23 a7 h7 a8 h8 a10 h10 a11 h11 a12 h12 a13 h13 a15 h15 a16 h16 a19 h19 a20 h20 a21 h21 a23 h23 a24 h24 a25 h25 a41 h41 a42 h42 a43 h43 a44 h44 a45 h45 a46 h46 a58 h58 a59 h59 a60 h60 a61 h61 a62 h62 a63 h63 a64 h64 a65 h65 a66 h66 a67 h67 a68 h68 a69 h69 a70 h70 f0 f1 f2 f3 f4 f5 f6 f7 f8 f9 f10 f11 f12 f13 f14 f15 f16 tt
  clear f13 f14 f15
  have e91 : PT 91 = P_adE := pe91_11 hp
  have e147 : PT 147 = P_wrX := pe147_11 hp
  have e149 : PT 149 = P_yi := pe149_11 hp
  have e150 : PT 150 = P_ar2 := pe150_11 hp
  have e161 : PT 161 = P_wcX := pe161_11 hp
  simp only [hF0, hF2, hF3, hF18, hF20, hF21, hFp_91, hFp_147, hFp_149, hFp_150, hFp_161, e91, e147, e149, e150, e161, P_adE, P_wrX, P_yi, P_ar2, P_wcX, den_s, den_c, Int.add_zero, List.map_cons, List.map_nil, g2.eq, g3.eq, g4.eq, g5.eq, g6.eq, g14.eq, g15.eq, g16.eq, g17.eq, g18.eq, g19.eq, g20.eq, g21.eq, g22.eq, g23.eq, h7, h8, h10, h11, h12, h13, h15, h16, h19, h20, h21, h23, h24, h25, h41, h42, h43, h44, h45, h46, h58, h59, h60, h61, h62, h63, h64, h65, h66, h67, h68, h69, h70] at f0 f1 f2 f3 f4 f5 f6 f7 f8 f9 f10 f11 f12 f16 ⊢
  subst f0
  subst f1
  subst f3
  subst f5
  ((repeat' (first | apply And.intro | intro h)) <;> first | omega | rfl | trivial | (exfalso; omega)))
set_option maxRecDepth 1000000 in
theorem k_xo_writeC {PT : PTy} (hp : HP11 PT) : wfX c_xo_writeC = true ∧ xcOk PT c_xo_writeC := xctr (xl (k_arrange14 hp.1.1.1.1.1.1.1.1) (xl (k_begin14 hp.1.1.1.1.1.1.1) (xl (k_advance14 hp.1.1.1.1.1.1.1) (xl0)))) c_xo_writeC 81 mX6_write rfl h_xo_writeC (by decide +kernel) (by decide +kernel) (by decide) (vcs_by [w_xo_writeC_0_0, w_xo_writeC_0_1, w_xo_writeC_0_2, w_xo_writeC_0_3, w_xo_writeC_0_4, w_xo_writeC_0_5, w_xo_writeC_0_6, w_xo_writeC_0_7, w_xo_writeC_0_8, w_xo_writeC_0_9] (by decide +kernel) (vc (v_xo_writeC_0_0 hp) (vc (v_xo_writeC_0_1 hp) (vc (v_xo_writeC_0_2 hp) (vc (v_xo_writeC_0_3 hp) (vc (v_xo_writeC_0_4 hp) (vc (v_xo_writeC_0_5 hp) (vc (v_xo_writeC_0_6 hp) (vc (v_xo_writeC_0_7 hp) (vc (v_xo_writeC_0_8 hp) (vc (v_xo_writeC_0_9 hp) vn))))))))))) (fmc (vcs_by [w_xo_writeC_1_0, w_xo_writeC_1_1, w_xo_writeC_1_2, w_xo_writeC_1_3, w_xo_writeC_1_4, w_xo_writeC_1_5, w_xo_writeC_1_6, w_xo_writeC_1_7, w_xo_writeC_1_8, w_xo_writeC_1_9, w_xo_writeC_1_10, w_xo_writeC_1_11, w_xo_writeC_1_12, w_xo_writeC_1_13, w_xo_writeC_1_14, w_xo_writeC_1_15, w_xo_writeC_1_16, w_xo_writeC_1_17, w_xo_writeC_1_18, w_xo_writeC_1_19, w_xo_writeC_1_20, w_xo_writeC_1_21, w_xo_writeC_1_22, w_xo_writeC_1_23, w_xo_writeC_1_24, w_xo_writeC_1_25, w_xo_writeC_1_26, w_xo_writeC_1_27, w_xo_writeC_1_28, w_xo_writeC_1_29, w_xo_writeC_1_30, w_xo_writeC_1_31, w_xo_writeC_1_32, w_xo_writeC_1_33, w_xo_writeC_1_34, w_xo_writeC_1_35, w_xo_writeC_1_36, w_xo_writeC_1_37] (by decide +kernel) (vc (v_xo_writeC_1_0 hp) (vc (v_xo_writeC_1_1 hp) (vc (v_xo_writeC_1_2 hp) (vc (v_xo_writeC_1_3 hp) (vc (v_xo_writeC_1_4 hp) (vc (v_xo_writeC_1_5 hp) (vc (v_xo_writeC_1_6 hp) (vc (v_xo_writeC_1_7 hp) (vc (v_xo_writeC_1_8 hp) (vc (v_xo_writeC_1_9 hp) (vc (v_xo_writeC_1_10 hp) (vc (v_xo_writeC_1_11 hp) (vc (v_xo_writeC_1_12 hp) (vc (v_xo_writeC_1_13 hp) (vc (v_xo_writeC_1_14 hp) (vc (v_xo_writeC_1_15 hp) (vc (v_xo_writeC_1_16 hp) (vc (v_xo_writeC_1_17 hp) (vc (v_xo_writeC_1_18 hp) (vc (v_xo_writeC_1_19 hp) (vc (v_xo_writeC_1_20 hp) (vc (v_xo_writeC_1_21 hp) (vc (v_xo_writeC_1_22 hp) (vc (v_xo_writeC_1_23 hp) (vc (v_xo_writeC_1_24 hp) (vc (v_xo_writeC_1_25 hp) (vc (v_xo_writeC_1_26 hp) (vc (v_xo_writeC_1_27 hp) (vc (v_xo_writeC_1_28 hp) (vc (v_xo_writeC_1_29 hp) (vc (v_xo_writeC_1_30 hp) (vc (v_xo_writeC_1_31 hp) (vc (v_xo_writeC_1_32 hp) (vc (v_xo_writeC_1_33 hp) (vc (v_xo_writeC_1_34 hp) (vc (v_xo_writeC_1_35 hp) (vc (v_xo_writeC_1_36 hp) (vc (v_xo_writeC_1_37 hp) vn))))))))))))))))))))))))))))))))))))))) fmn)
