/-! ===== the class's year, told ===== -/
def bgP (sz c t s : Int → Int) : Prop := (∀ i, 0 ≤ i → i < 8 → c i = sz i ∧ t i = 0) ∧ ∀ i, 0 ≤ i → i < 11 → s i = 0
/-- coats, tears and promises behind all acts below a key -/
def yX (lim n m nk nl nt u h : Int) (so sz wh gr md du kd ko ld lw lm td tw tm C T S : Int → Int) : Prop := ∃ c t s, bgP sz c t s ∧ (C, T, S) = fdA (acF so sz wh gr ko lw lm tw tm u h) (c, t, s) (fLt lim (aT n m nk nl nt wh md du kd ko ld lw td tw))
/-- on the way: the first b acts are done, all below a key -/
def yI (b lim n m nk nl nt u h : Int) (so sz wh gr md du kd ko ld lw lm td tw tm f C T S : Int → Int) : Prop := ∃ c t s, bgP sz c t s ∧ 0 ≤ b ∧ b ≤ (aT n m nk nl nt wh md du kd ko ld lw td tw).length ∧ (∀ i, 0 ≤ i → i < b → f i < lim) ∧ (C, T, S) = fdA (acF so sz wh gr ko lw lm tw tm u h) (c, t, s) ((aT n m nk nl nt wh md du kd ko ld lw td tw).take b.toNat)
section YS
variable {lim n m nk nl nt u h : Int} {so sz wh gr md du kd ko ld lw lm td tw tm f g C T S C' T' S' : Int → Int}
theorem yI_z (hb : bgP sz C T S) : yI 0 lim n m nk nl nt u h so sz wh gr md du kd ko ld lw lm td tw tm f C T S := ⟨C, T, S, hb, by omega, by omega, fun i h1 h2 => by omega, rfl⟩
theorem yI_s {a b d : Int} (hl : isL (aT n m nk nl nt wh md du kd ko ld lw td tw) a f g) (hy : yI b lim n m nk nl nt u h so sz wh gr md du kd ko ld lw lm td tw tm f C T S) (hd : lim ≤ 5 * (d + 1)) {b' : Int} (ha : adI b b' a (5 * (d + 1)) (acF so sz wh gr ko lw lm tw tm u h) f g C T S C' T' S') : yI b' (5 * (d + 1)) n m nk nl nt u h so sz wh gr md du kd ko ld lw lm td tw tm f C' T' S' := by
  obtain ⟨c, t, s, y1, y2, y3, y4, y5⟩ := hy
  obtain ⟨a1, a2, a3, a4⟩ := ha
  have hn := hl.1
  have hb' : b' ≤ a := a2 (by omega)
  refine ⟨c, t, s, y1, by omega, by omega, fun i h1 h2 => ?_, ?_⟩
  · by_cases q : i < b
    · have := y4 i h1 q
      omega
    · exact a3 i (by omega) h2
  · rw [a4, y5]
    have e := rnF_fdA (F := acF so sz wh gr ko lw lm tw tm u h) hl (σ := (c, t, s)) b.toNat (b' - b).toNat (by omega)
    rw [Int.toNat_of_nonneg y2] at e
    rw [e, show b.toNat + (b' - b).toNat = b'.toNat by omega]
theorem yI_e {a b d : Int} (hl : isL (aT n m nk nl nt wh md du kd ko ld lw td tw) a f g) (hy : yI b (5 * (d + 1)) n m nk nl nt u h so sz wh gr md du kd ko ld lw lm td tw tm f C T S) (he : ¬ (b < a ∧ f b < 5 * (d + 1))) : yX (5 * (d + 1)) n m nk nl nt u h so sz wh gr md du kd ko ld lw lm td tw tm C T S := by
  obtain ⟨c, t, s, y1, y2, y3, y4, y5⟩ := hy
  have hn := hl.1
  refine ⟨c, t, s, y1, ?_⟩
  rw [y5, take_fLt aT_srt hl (b := b.toNat) (by omega) (fun i h1 h2 => y4 i h1 (by omega)) (by rw [Int.toNat_of_nonneg y2]; exact he)]
/-- the whole of it at once -/
theorem yX_by {a b d : Int} {c t s : Int → Int} (hl : isL (aT n m nk nl nt wh md du kd ko ld lw td tw) a f g) (hb : bgP sz c t s) (ha : adI 0 b a (5 * (d + 1)) (acF so sz wh gr ko lw lm tw tm u h) f g c t s C T S ∧ ¬ (b < a ∧ f b < 5 * (d + 1))) : yX (5 * (d + 1)) n m nk nl nt u h so sz wh gr md du kd ko ld lw lm td tw tm C T S := yI_e hl (yI_s hl (yI_z (lim := 5 * (d + 1)) hb) (Int.le_refl _) ha.1) ha.2
end YS
/-! ===== bits counted ===== -/
def bcA (x : Int) : Int := mSub x (mAnd (mUsh x 1) 1431655765)
def bcB (a : Int) : Int := mAdd (mAnd a 858993459) (mAnd (mUsh a 2) 858993459)
def bcC (b : Int) : Int := mAnd (mAdd b (mUsh b 4)) 252645135
def bcD (c : Int) : Int := mAdd c (mUsh c 8)
def bcE (d : Int) : Int := mAdd d (mUsh d 16)
def bcF (x : Int) : Int := mAnd (bcE (bcD (bcC (bcB (bcA x))))) 63
def bitG (p : Int → Bool) (n : Nat) : Int := foldI (fun i b => if p i = true then mOr b (mShl 1 i) else b) 0 n
def cntG (p : Int → Bool) (n : Nat) : Int := foldI (fun i c => if p i = true then c + 1 else c) 0 n
set_option maxRecDepth 100000 in
theorem bc_step : (List.range 8).all (fun n => (List.range (2 ^ n)).all (fun b => decide (mOr (b : Int) (mShl 1 (n : Int)) = ((b + 2 ^ n : Nat) : Int)) && decide (bcF ((b + 2 ^ n : Nat) : Int) = bcF (b : Int) + 1))) = true := by decide +kernel
theorem bc_G (p : Int → Bool) : ∀ n : Nat, n ≤ 8 → ∃ b : Nat, b < 2 ^ n ∧ bitG p n = (b : Int) ∧ bcF (b : Int) = cntG p n
  | 0, _ => ⟨0, by decide, rfl, by show bcF ((0 : Nat) : Int) = 0; decide +kernel⟩
  | n + 1, h => by
    obtain ⟨b, b1, b2, b3⟩ := bc_G p n (by omega)
    have q := List.all_eq_true.mp (List.all_eq_true.mp bc_step n (List.mem_range.mpr (by omega))) b (List.mem_range.mpr b1)
    rw [Bool.and_eq_true, decide_eq_true_eq, decide_eq_true_eq] at q
    have e1 : bitG p (n + 1) = if p (n : Int) = true then mOr (bitG p n) (mShl 1 (n : Int)) else bitG p n := rfl
    have e2 : cntG p (n + 1) = if p (n : Int) = true then cntG p n + 1 else cntG p n := rfl
    by_cases hp : p (n : Int) = true
    · refine ⟨b + 2 ^ n, by rw [Nat.pow_succ]; omega, ?_, ?_⟩
      · rw [e1, if_pos hp, b2]; exact q.1
      · rw [e2, if_pos hp, q.2, b3]
    · refine ⟨b, by rw [Nat.pow_succ]; omega, ?_, ?_⟩
      · rw [e1, if_neg hp, b2]
      · rw [e2, if_neg hp, b3]
def fitP (C Z : Int → Int) (i : Int) : Prop := C i - Z i = 0 ∨ C i - Z i = 1
def bitF (C Z : Int → Int) (n : Int) : Int := foldI (fun i b => if C i - Z i = 0 ∨ C i - Z i = 1 then mOr b (mShl 1 i) else b) 0 n.toNat
def cntF (C Z : Int → Int) (n : Int) : Int := foldI (fun i c => if C i - Z i = 0 ∨ C i - Z i = 1 then c + 1 else c) 0 n.toNat
def nkdF (C : Int → Int) (n : Int) : Int := foldI (fun i b => if C i = 0 then mOr b (mShl 1 i) else b) 0 n.toNat
def rpsF (T : Int → Int) (n : Int) : Int := foldI (fun i b => mAdd b (T i)) 0 n.toNat
theorem bit_G (C Z : Int → Int) (n : Int) : bitF C Z n = bitG (fun i => decide (C i - Z i = 0 ∨ C i - Z i = 1)) n.toNat := foldI_cg _ (fun i _ _ t => by simp only [decide_eq_true_eq])
theorem cnt_G (C Z : Int → Int) (n : Int) : cntF C Z n = cntG (fun i => decide (C i - Z i = 0 ∨ C i - Z i = 1)) n.toNat := foldI_cg _ (fun i _ _ t => by simp only [decide_eq_true_eq])
theorem bc_bit {C Z : Int → Int} {n : Int} (h : n ≤ 8) : bcF (bitF C Z n) = cntF C Z n := by
  obtain ⟨b, -, b2, b3⟩ := bc_G (fun i => decide (C i - Z i = 0 ∨ C i - Z i = 1)) n.toNat (by omega)
  rw [bit_G, cnt_G, b2, b3]
theorem cntG_nn (p : Int → Bool) : ∀ n : Nat, 0 ≤ cntG p n ∧ cntG p n ≤ n
  | 0 => ⟨Int.le_refl _, Int.le_refl _⟩
  | n + 1 => by
    have ih := cntG_nn p n
    have e2 : cntG p (n + 1) = if p (n : Int) = true then cntG p n + 1 else cntG p n := rfl
    rw [e2]
    split <;> omega
theorem bc_nn {C Z : Int → Int} {n : Int} (h : n ≤ 8) : 0 ≤ bcF (bitF C Z n) := by
  rw [bc_bit h, cnt_G]
  exact (cntG_nn _ _).1
theorem bits_cg {C Z C' Z' : Int → Int} {n : Int} (h : ∀ k, 0 ≤ k → k < n → C k = C' k ∧ Z k = Z' k) : bitF C Z n = bitF C' Z' n ∧ cntF C Z n = cntF C' Z' n := by
  constructor
  · exact foldI_cg _ (fun i h1 h2 t => by rw [(h i h1 (by omega)).1, (h i h1 (by omega)).2])
  · exact foldI_cg _ (fun i h1 h2 t => by rw [(h i h1 (by omega)).1, (h i h1 (by omega)).2])
theorem nkd_cg {C C' : Int → Int} {n : Int} (h : ∀ k, 0 ≤ k → k < n → C k = C' k) : nkdF C n = nkdF C' n := foldI_cg _ (fun i h1 h2 t => by rw [h i h1 (by omega)])
theorem rps_cg {C C' : Int → Int} {n : Int} (h : ∀ k, 0 ≤ k → k < n → C k = C' k) : rpsF C n = rpsF C' n := foldI_cg _ (fun i h1 h2 t => by rw [h i h1 (by omega)])
/-! ===== the first greatest ===== -/
/-- of i tries the first greatest, above -1 -/
def amx (i w v : Int) (G : Int → Int) : Prop := (i = 0 → w = -1 ∧ v = -1) ∧ (0 < i → 0 ≤ w ∧ w < i ∧ v = G w ∧ (∀ j, 0 ≤ j → j < i → G j ≤ v) ∧ ∀ j, 0 ≤ j → j < w → G j < v)
theorem amx_z {G : Int → Int} : amx 0 (-1) (-1) G := ⟨fun _ => ⟨rfl, rfl⟩, fun h => by omega⟩
theorem amx_t {i w v : Int} {G : Int → Int} (h : amx i w v G) (hi : 0 ≤ i) (hv : v < G i) (hg : 0 ≤ G i) : amx (i + 1) i (G i) G := by
  refine ⟨fun q => by omega, fun _ => ⟨hi, by omega, rfl, fun j h1 h2 => ?_, fun j h1 h2 => ?_⟩⟩
  · by_cases q : j = i
    · rw [q]; omega
    · have := (h.2 (by omega)).2.2.2.1 j h1 (by omega)
      omega
  · have := (h.2 (by omega)).2.2.2.1 j h1 h2
    omega
theorem amx_k {i w v : Int} {G : Int → Int} (h : amx i w v G) (hi : 0 ≤ i) (hv : G i ≤ v) (hg : 0 ≤ G i) : amx (i + 1) w v G := by
  have h0 : 0 < i := by
    by_cases q : i = 0
    · have := (h.1 q).2
      omega
    · omega
  obtain ⟨a1, a2, a3, a4, a5⟩ := h.2 h0
  refine ⟨fun q => by omega, fun _ => ⟨a1, by omega, a3, fun j h1 h2 => ?_, a5⟩⟩
  by_cases q : j = i
  · rw [q]; exact hv
  · exact a4 j h1 (by omega)
theorem amx_eq {i w v w' v' : Int} {G G' : Int → Int} (h : amx i w v G) (h' : amx i w' v' G') (hi : 0 ≤ i) (hG : ∀ j, 0 ≤ j → j < i → G j = G' j) : w = w' ∧ v = v' := by
  by_cases q : i = 0
  · have a := h.1 q
    have b := h'.1 q
    omega
  · obtain ⟨a1, a2, a3, a4, a5⟩ := h.2 (by omega)
    obtain ⟨b1, b2, b3, b4, b5⟩ := h'.2 (by omega)
    have e1 := hG w a1 a2
    have e2 := hG w' b1 b2
    have u1 := a4 w' b1 b2
    have u2 := b4 w a1 a2
    rcases Int.lt_trichotomy w w' with c | c | c
    · have := b5 w a1 c
      omega
    · exact ⟨c, by omega⟩
    · have := a5 w' b1 c
      omega
/-- tries one behind the other, each with what it gives -/
def obS (Q : Int → Int → Prop) (i w v : Int) : Prop := ∃ G, (∀ d, 0 ≤ d → d < i → Q d (G d)) ∧ amx i w v G
theorem obS_z {Q : Int → Int → Prop} : obS Q 0 (-1) (-1) := ⟨fun _ => 0, fun d h1 h2 => by omega, amx_z⟩
theorem amx_cg {i w v : Int} {G G' : Int → Int} (h : amx i w v G) (hG : ∀ j, 0 ≤ j → j < i → G' j = G j) : amx i w v G' := by
  refine ⟨h.1, fun h0 => ?_⟩
  obtain ⟨a1, a2, a3, a4, a5⟩ := h.2 h0
  exact ⟨a1, a2, by rw [hG w a1 a2]; exact a3, fun j h1 h2 => by rw [hG j h1 h2]; exact a4 j h1 h2, fun j h1 h2 => by rw [hG j h1 (by omega)]; exact a5 j h1 h2⟩
theorem obS_t {Q : Int → Int → Prop} {i w v x : Int} (h : obS Q i w v) (hi : 0 ≤ i) (hq : Q i x) (hv : v < x) (hx : 0 ≤ x) : obS Q (i + 1) i x := by
  obtain ⟨G, g1, g2⟩ := h
  have e : updI G i x i = x := updI_at _ _ _
  refine ⟨updI G i x, fun d h1 h2 => ?_, ?_⟩
  · by_cases q : d = i
    · rw [q, e]; exact hq
    · rw [updI_ne q]; exact g1 d h1 (by omega)
  · have := amx_t (amx_cg g2 (G' := updI G i x) (fun j h1 h2 => updI_ne (by omega))) hi (by rw [e]; exact hv) (by rw [e]; exact hx)
    rw [e] at this
    exact this
theorem obS_k {Q : Int → Int → Prop} {i w v x : Int} (h : obS Q i w v) (hi : 0 ≤ i) (hq : Q i x) (hv : x ≤ v) (hx : 0 ≤ x) : obS Q (i + 1) w v := by
  obtain ⟨G, g1, g2⟩ := h
  have e : updI G i x i = x := updI_at _ _ _
  refine ⟨updI G i x, fun d h1 h2 => ?_, ?_⟩
  · by_cases q : d = i
    · rw [q, e]; exact hq
    · rw [updI_ne q]; exact g1 d h1 (by omega)
  · exact amx_k (amx_cg g2 (G' := updI G i x) (fun j h1 h2 => updI_ne (by omega))) hi (by rw [e]; exact hv) (by rw [e]; exact hx)
theorem obS_eq {Q Q' : Int → Int → Prop} {i w v w' v' : Int} (h : obS Q i w v) (h' : obS Q' i w' v') (hi : 0 ≤ i) (hQ : ∀ d x y, 0 ≤ d → d < i → Q d x → Q' d y → x = y) : w = w' ∧ v = v' := by
  obtain ⟨G, g1, g2⟩ := h
  obtain ⟨G', g1', g2'⟩ := h'
  exact amx_eq g2 g2' hi (fun j h1 h2 => hQ j _ _ h1 h2 (g1 j h1 h2) (g1' j h1 h2))
/-- how many fit behind a day -/
def fitQ (n m nk nl nt u h : Int) (so sz wh gr md du kd ko ld lw lm td tw tm : Int → Int) (d v : Int) : Prop := ∃ C T S, yX (5 * (d + 1)) n m nk nl nt u h so sz wh gr md du kd ko ld lw lm td tw tm C T S ∧ v = bcF (bitF C sz n)
/-- what is written of a coat behind a day -/
def cutF (f v : Int) : Int := if f = 0 then mI2b v else if f = 1 then mI2s v else v
def cutQ (f k n m nk nl nt u h : Int) (so sz wh gr md du kd ko ld lw lm td tw tm : Int → Int) (d v : Int) : Prop := ∃ C T S, yX (5 * (d + 1)) n m nk nl nt u h so sz wh gr md du kd ko ld lw lm td tw tm C T S ∧ v = cutF f (C k)
theorem rowX_0 {a b c d : Int → Int} : rowX 0 a b c d = a := if_pos rfl
theorem rowX_1 {a b c d : Int → Int} : rowX 1 a b c d = b := by unfold rowX; rw [if_neg (by omega), if_pos rfl]
theorem rowX_2 {a b c d : Int → Int} : rowX 2 a b c d = c := by unfold rowX; rw [if_neg (by omega), if_neg (by omega), if_pos rfl]
theorem rowX_3 {a b c d : Int → Int} : rowX 3 a b c d = d := by unfold rowX; rw [if_neg (by omega), if_neg (by omega), if_neg (by omega)]
def wcS (Q : Int → Int → Prop) (i s : Int) (q0 q1 q2 q3 r0 r1 r2 r3 : Int → Int) : Prop := (∀ d, 0 ≤ d → d < i → Q d (rowX s q0 q1 q2 q3 d)) ∧ (∀ d, ¬ (0 ≤ d ∧ d < i) → rowX s q0 q1 q2 q3 d = rowX s r0 r1 r2 r3 d) ∧ ∀ t, 0 ≤ t → t ≤ 3 → ¬ t = s → rowX t q0 q1 q2 q3 = rowX t r0 r1 r2 r3
theorem wcS_z {Q : Int → Int → Prop} {s : Int} {r0 r1 r2 r3 : Int → Int} : wcS Q 0 s r0 r1 r2 r3 r0 r1 r2 r3 := ⟨fun d h1 h2 => by omega, fun d _ => rfl, fun t _ _ _ => rfl⟩
theorem wcS_s {Q : Int → Int → Prop} {i s x : Int} {q0 q1 q2 q3 p0 p1 p2 p3 r0 r1 r2 r3 : Int → Int} (h : wcS Q i s q0 q1 q2 q3 r0 r1 r2 r3) (hi : 0 ≤ i) (e : rowX s p0 p1 p2 p3 = updI (rowX s q0 q1 q2 q3) i x) (hq : Q i x) (ho : ∀ t, 0 ≤ t → t ≤ 3 → ¬ t = s → rowX t p0 p1 p2 p3 = rowX t q0 q1 q2 q3) : wcS Q (i + 1) s p0 p1 p2 p3 r0 r1 r2 r3 := by
  obtain ⟨h1, h2, h3⟩ := h
  refine ⟨fun d d1 d2 => ?_, fun d hd => ?_, fun t t1 t2 t3 => (ho t t1 t2 t3).trans (h3 t t1 t2 t3)⟩
  · rw [e]
    by_cases q : d = i
    · rw [q, updI_at]; exact hq
    · rw [updI_ne q]; exact h1 d d1 (by omega)
  · rw [e, updI_ne (by omega)]
    exact h2 d (by omega)
/-! ===== the reference's year, told ===== -/
def toY (n m nk : Int) (L T so sz wh gr md du KD KO kd ko : Int → Int) : Prop := (∃ a b, rdP a n (L 0) T so sz ∧ rdV b m (L 1) (sh T) wh gr md du) ∧ ∀ j, 0 ≤ j → j < nk → KD j = kd j ∧ KO j = ko j
def yY (n m nk nl nt u h : Int) (so sz wh gr md du kd ko ld lw lm td tw tm CA TA SA C U S : Int → Int) : Prop := ∃ c t s, (C, U, S) = rnS (dyS n m m nk nl nt u h so sz wh gr md du kd ko ld lw lm td tw tm) (inS n m sz c t s) (24 : Int).toNat ∧ roS n m 24 (dyS n m m nk nl nt u h so sz wh gr md du kd ko ld lw lm td tw tm) (inS n m sz c t s) CA TA SA
theorem nP_ex (L : Int) (A : Int → Int) : ∃ n, nP n L A := by
  by_cases w : wellP L A
  · exact ⟨_, fun _ => rfl, fun h => absurd w h⟩
  · exact ⟨_, fun h => absurd h w, fun _ => rfl⟩
theorem nV_ex (L : Int) (A : Int → Int) : ∃ n, nV n L A := by
  by_cases w : wellV L A
  · exact ⟨_, fun _ => rfl, fun h => absurd w h⟩
  · exact ⟨_, fun h => absurd h w, fun _ => rfl⟩
theorem nP_un {n n' L : Int} {A : Int → Int} (h : nP n L A) (h' : nP n' L A) : n = n' := by
  by_cases w : wellP L A
  · rw [h.1 w, h'.1 w]
  · rw [h.2 w, h'.2 w]
theorem nV_un {n n' L : Int} {A : Int → Int} (h : nV n L A) (h' : nV n' L A) : n = n' := by
  by_cases w : wellV L A
  · rw [h.1 w, h'.1 w]
  · rw [h.2 w, h'.2 w]
theorem mOr_0 {b : Int} (h1 : -2147483648 ≤ b) (h2 : b ≤ 2147483647) : mOr b 0 = b := by
  unfold mOr
  rw [show Int32.ofInt 0 = 0 from rfl, Int32.or_zero, Int32.toInt_ofInt, show Int32.size = 4294967296 from rfl]
  exact Int.bmod_eq_of_le (by omega) (by omega)
/-- of k the first greatest -/
def lgS (k w : Int) (G : Int → Int) : Prop := (k = 0 → w = -1) ∧ (0 < k → 0 ≤ w ∧ w < k ∧ (∀ j, 0 ≤ j → j < k → G j ≤ G w) ∧ ∀ j, 0 ≤ j → j < w → G j < G w)
theorem lgS_z {G : Int → Int} : lgS 0 (-1) G := ⟨fun _ => rfl, fun h => by omega⟩
theorem lgS_1 {G : Int → Int} : lgS 1 0 G := ⟨fun h => by omega, fun _ => ⟨by omega, by omega, fun j h1 h2 => by rw [show j = 0 by omega]; exact Int.le_refl _, fun j h1 h2 => by omega⟩⟩
theorem lgS_t {k w : Int} {G : Int → Int} (h : lgS k w G) (hk : 0 ≤ k) (hv : w = -1 ∨ G w < G k) : lgS (k + 1) k G := by
  refine ⟨fun q => by omega, fun _ => ⟨hk, by omega, fun j h1 h2 => ?_, fun j h1 h2 => ?_⟩⟩
  · by_cases q : j = k
    · rw [q]; exact Int.le_refl _
    · obtain ⟨a1, a2, a3, a4⟩ := h.2 (by omega)
      have := a3 j h1 (by omega)
      omega
  · obtain ⟨a1, a2, a3, a4⟩ := h.2 (by omega)
    have := a3 j h1 h2
    omega
theorem lgS_k {k w : Int} {G : Int → Int} (h : lgS k w G) (hk : 0 ≤ k) (hw : ¬ w = -1) (hv : G k ≤ G w) : lgS (k + 1) w G := by
  have h0 : 0 < k := by
    by_cases q : k = 0
    · exact absurd (h.1 q) hw
    · omega
  obtain ⟨a1, a2, a3, a4⟩ := h.2 h0
  refine ⟨fun q => by omega, fun _ => ⟨a1, by omega, fun j h1 h2 => ?_, a4⟩⟩
  by_cases q : j = k
  · rw [q]; exact hv
  · exact a3 j h1 (by omega)
theorem lg_amx {k w w' v : Int} {G G' : Int → Int} (h : amx k w v G) (h' : lgS k w' G') (hk : 0 ≤ k) (hG : ∀ j, 0 ≤ j → j < k → G j = G' j) : w = w' := by
  by_cases q : k = 0
  · have a := (h.1 q).1
    have b := h'.1 q
    omega
  · obtain ⟨a1, a2, a3, a4, a5⟩ := h.2 (by omega)
    obtain ⟨b1, b2, b3, b4⟩ := h'.2 (by omega)
    have e1 := hG w a1 a2
    have e2 := hG w' b1 b2
    have u1 := a4 w' b1 b2
    have u2 := b3 w a1 a2
    rcases Int.lt_trichotomy w w' with c | c | c
    · have := b4 w a1 c
      omega
    · exact c
    · have := a5 w' b1 c
      omega
def atD (d : Int) (CA : Int → Int) : Int → Int := fun k => CA (8 * d + k)
