/-! ===== the law's frame: two worlds side by side ===== -/
def lwA (s : State) : Nat → Prop := fun q => s.heap.size ≤ q
def LW (b L : Nat) (xs : Nat → Int32) (cs ss pc : Nat) (i : Int32) (st : List Value) (aX aY : Nat) (hx hy : AH) : Prop :=
  ∀ (p : Program) (l : Launch) (e : Env) (s : State) (m : MethodId) (below : List Frame) (meth : Method) (c : Code) (D : va_G) (cA : FieldType → ClassId) (adX adY : List Nat) (H : Heap) (locs : List Loc) (ls : Array Slot),
    lw_At p s m meth c b L xs → va_K D clsL (tysL cA) s → xN s → adX.length = hx.length → adY.length = hy.length → adX.getD 0 0 = aX → adY.getD 0 0 = aY →
    va_P D clsL (conc cA adX hx) H → va_P D clsL (conc cA adY hy) H → va_D (lwA s) (conc cA adX hx) → va_D (lwA s) (conc cA adY hy) → (∀ q, q ∈ adX → q ∉ adY) → va_S (lwA s) s.heap H locs → lv_has ls 4 [(0, .ref b), (1, .ref aX), (2, .ref aY), (3, .int i)] →
    W p l e room_1 s m #[Value.ref b] below meth c H locs cs ss (lw_Z below #[Value.ref b] s) (F0 m pc ls st)
theorem conc_ad {cA : FieldType → ClassId} {ad : List Nat} {hp : AH} (hl : ad.length = hp.length) {q : Nat} : q ∈ ad ↔ ∃ (k : Nat) (e : va_E), (conc cA ad hp)[k]? = some (q, e) := by
  constructor
  · intro h
    obtain ⟨k, hk⟩ := List.getElem?_of_mem h
    have hk2 : k < hp.length := by rw [← hl]; exact (List.getElem?_eq_some_iff.mp hk).1
    have := conc_get (cA := cA) hl (List.getElem?_eq_getElem hk2)
    have e : ad.getD k 0 = q := by rw [List.getD_eq_getElem?_getD, hk]; rfl
    rw [e] at this
    exact ⟨k, _, this⟩
  · rintro ⟨k, e, h⟩
    obtain ⟨x, hx, he⟩ := conc_addr hl h
    have hk2 : k < ad.length := by rw [hl]; exact (List.getElem?_eq_some_iff.mp hx).1
    have : q = ad.getD k 0 := congrArg Prod.fst he
    rw [this, List.getD_eq_getElem?_getD, List.getElem?_eq_getElem hk2]
    exact List.getElem_mem hk2
/-- a call on one of the two worlds: the other stays -/
theorem law_call {p : Program} {l : Launch} {e : Env} {s : State} {m : MethodId} {args : Array Value} {below : List Frame} {meth : Method} {c : Code} {D : va_G} {cA : FieldType → ClassId} {adU adV : List Nat} {hu hv : AH} {H : Heap} {locs : List Loc} {ls : Array Slot} {cs ss mc ms pc : Nat} {Q : State → Prop} {Q' : Option Value → AH → Prop} {st0 rest : List Value} {R : Room} {a : Array Value}
    (hlU : adU.length = hu.length) (hlV : adV.length = hv.length) (hPV : va_P D clsL (conc cA adV hv) H) (hDU : va_D (lwA s) (conc cA adU hu)) (hdis : ∀ q, q ∈ adU → q ∉ adV) (hS : va_S (lwA s) s.heap H locs)
    (hr : va_Run p l e R s m args below meth c H locs cs ss mc ms (F0 m pc ls st0) rest (jQ D cA (va_A (conc cA adU hu) H.size) adU Q' a) (va_A (conc cA adU hu) H.size))
    (kk : ∀ (v : Option Value) (hu' : AH) (x' : List Nat) (H1 : Heap) (locs1 : List Loc), Q' v hu' → (adU ++ x').length = hu'.length → va_P D clsL (conc cA (adU ++ x') hu') H1 → va_P D clsL (conc cA adV hv) H1 → va_D (lwA s) (conc cA (adU ++ x') hu') → (∀ q, q ∈ adU ++ x' → q ∉ adV) → va_S (lwA s) s.heap H1 locs1 → W p l e R s m args below meth c H1 locs1 (cs + mc) (ss + ms) Q (F0 m (pc + 3) ls ((v.map (cv (adU ++ x'))).toList ++ rest))) : W p l e R s m args below meth c H locs cs ss Q (F0 m pc ls st0) := by
  have hF : ∀ q, va_A (conc cA adU hu) H.size q → lwA s q := ct_free hDU hS (fun _ h => h)
  have hVlt : ∀ q, q ∈ adV → q < H.size := fun q hq => by
    obtain ⟨k, e, h⟩ := (conc_ad (cA := cA) hlV).mp hq
    exact (hPV k _ h).lt
  intro T hT X
  obtain ⟨v, st₀, t, T', L, h0, X', hL, e1, e2, ⟨⟨w, hp', x', hv', hq, hl, hP, hD, hK⟩, hz, hk⟩, st⟩ := hr T hT X
  rw [Outcome.returned.injEq] at hv'
  subst hv'
  rw [h0] at hz hk
  have hPV1 : va_P D clsL (conc cA adV hv) T'.heap := hPV.kept (fun k q h => by
    have hqV : q.1 ∈ adV := (conc_ad (cA := cA) hlV).mpr ⟨k, q.2, h⟩
    rw [e1]
    refine hk q.1 (hVlt _ hqV) (fun hA => ?_)
    rcases hA with ⟨k2, e9, h9⟩ | h9
    · exact hdis q.1 ((conc_ad (cA := cA) hlU).mpr ⟨k2, e9, h9⟩) hqV
    · exact absurd (hVlt _ hqV) (by omega))
  obtain ⟨t2, a1, b1⟩ := kk w hp' x' T'.heap (locs ++ L) hq hl (by rw [e1]; exact hP) hPV1 (hD.weaken (fun _ q _ h => hF _ h)) (fun q hqU hqV => by
      obtain ⟨k2, e9, h9⟩ := (conc_ad (cA := cA) hl).mp hqU
      rcases hD.2 k2 _ h9 with ⟨k3, e8, h8⟩ | h8
      · exact hdis q ((conc_ad (cA := cA) hlU).mpr ⟨k3, e8, h8⟩) hqV
      · have := hVlt _ hqV
        exact absurd this (by simpa using h8))
    ⟨Nat.le_trans hS.1 (by rw [e1]; exact hz), fun q h1 h2 => by rw [e1, hk q (Nat.lt_of_lt_of_le h1 hS.1) (fun z => h2 (hF q z))]; exact hS.2.1 q h1 h2, fun q hq => by
      rcases List.mem_append.mp hq with h | h
      · exact hS.2.2 q h
      · exact hF _ (hL q h)⟩ T' rfl X'
  exact ⟨t2, st t2 a1, b1⟩
def numB (v : Value) : Bool := match v with
  | .int _ => true
  | .long _ => true
  | _ => false
theorem cv_num {ad : List Nat} {v : Value} (h : numB v = true) : cv ad v = v := by
  cases v <;> first | rfl | cases h
theorem map_cv_num {ad : List Nat} {as : List Value} (h : as.all numB = true) : as.map (cv ad) = as := by
  have : as.map (cv ad) = as.map id := List.map_congr_left (fun v hv => cv_num (List.all_eq_true.mp h v hv))
  rw [this, List.map_id]
section LWR
variable {b L : Nat} {xs : Nat → Int32} {cs ss pc : Nat} {i : Int32} {st : List Value} {aX aY : Nat} {hx hy : AH}
theorem LW_x (hd : decode code pc = .ok (.aload_n 1, 1)) (k : LW b L xs cs ss (pc + 1) i (.ref aX :: st) aX aY hx hy) : LW b L xs cs ss pc i st aX aY hx hy := by
  intro p l e s m below meth c D cA adX adY H locs ls C0 hK hN lX lY eX eY pX pY dX dY dd hS hl
  exact lv_aload_n C0.1 C0.2.1 hd rfl (lv_at hl 1 rfl) (k p l e s m below meth c D cA adX adY H locs ls C0 hK hN lX lY eX eY pX pY dX dY dd hS hl)
theorem LW_y (hd : decode code pc = .ok (.aload_n 2, 1)) (k : LW b L xs cs ss (pc + 1) i (.ref aY :: st) aX aY hx hy) : LW b L xs cs ss pc i st aX aY hx hy := by
  intro p l e s m below meth c D cA adX adY H locs ls C0 hK hN lX lY eX eY pX pY dX dY dd hS hl
  exact lv_aload_n C0.1 C0.2.1 hd rfl (lv_at hl 2 rfl) (k p l e s m below meth c D cA adX adY H locs ls C0 hK hN lX lY eX eY pX pY dX dY dd hS hl)
theorem LW_arg {n : Int} {q : Nat} (hd0 : decode code pc = .ok (.aload_n 0, 1)) (hd1 : decode code (pc + 1) = .ok (.iload_n 3, 1)) (hd2 : decode code (pc + 2) = .ok (.iconst n, 1)) (hd3 : decode code (pc + 3) = .ok (.iadd, 1)) (hd4 : decode code (pc + 4) = .ok (.iaload, 1)) (hin : vp_in (i + Int32.ofInt n) L) (hj : (i + Int32.ofInt n).toNatClampNeg = q) (k : LW b L xs cs ss (pc + 5) i (.int (xs q) :: st) aX aY hx hy) : LW b L xs cs ss pc i st aX aY hx hy := by
  intro p l e s m below meth c D cA adX adY H locs ls C0 hK hN lX lY eX eY pX pY dX dY dd hS hl
  have hbl := C0.2.2.2.2.2.2.2.1
  refine lv_aload_n C0.1 C0.2.1 hd0 rfl (lv_at hl 0 rfl) ?_
  refine lv_iload_n C0.1 C0.2.1 hd1 rfl (lv_at hl 3 rfl) ?_
  refine lv_iconst C0.1 C0.2.1 hd2 rfl ?_
  refine lv_iadd C0.1 C0.2.1 hd3 ?_
  subst hj
  refine va_sld C0.1 C0.2.1 C0.2.2.2.2.2.2.1 hbl (A := lwA s) (Nat.not_le.mpr hbl) hS hin hd4 ?_
  exact k p l e s m below meth c D cA adX adY H locs ls C0 hK hN lX lY eX eY pX pY dX dY dd hS hl
theorem law_room {N : MT} {mc' ms' : Nat} (hN : nOk N) : (rmm 12 mc' ms').frames + 1 ≤ room_1.frames ∧ 8 + (N.ml + 11) + (rmm 12 mc' ms').locals ≤ room_1.locals := by
  refine ⟨Nat.le_refl _, ?_⟩
  have := hN.2.2.2.1
  show 8 + (N.ml + 11) + 39 * 12 ≤ 512
  omega
theorem LW_callX {idx : Nat} {N : MT} {as : List Value} {fs : List Value} {Q' : Option Value → AH → Prop} (hd : decode code pc = .ok (.invokevirtual idx, 3)) (hN : nOk N) (hlk : Cond.methodLink R_law idx N.y ∈ tb) (hin : Cond.instanceMethod N.y ∈ tb) (hse : Cond.selects N.y.cls N.y N.y ∈ tb) (hnp : np N = some as.length) (hc : hx[0]? = some (.inr (.inr (6, fs)))) (hcl : N.y.cls = RX6) (has : as.all numB = true) (hcat : (st.map (fun v => v.category)).sum ≤ 8) (hr : cs ≤ 600000 ∧ ss ≤ 7302250) (C : Ct N 12 0 0 (.ref 0 :: as) hx Q') (hQ : ∀ v hp', Q' v hp' → hp'.length = hx.length ∧ ∃ w, v = some w ∧ numB w = true)
    (k : ∀ w hx', Q' (some w) hx' → numB w = true → LW b L xs cs ss (pc + 3) i (w :: st) aX aY hx' hy) : LW b L xs cs ss pc i (as.reverse ++ .ref aX :: st) aX aY hx hy := by
  intro p l e s m below meth c D cA adX adY H locs ls C0 hK hX lX lY eX eY pX pY dX dY dd hS hl
  obtain ⟨hxe, hb, hrt, hml, hown, hts, hXs, hbl, hlocks, hgv⟩ := id C0
  have htb : ∀ w ∈ tb, w.before #[Value.ref b] s = true := fun w hw => hts w (List.mem_filter.mp hw).1
  have hrecv := va_recv hK pX (ci := 6) (q0 := 0) rfl (conc_get lX hc)
  have hpre := ct_pre (as := .ref 0 :: as) pX dX hK hX
  rw [eX] at hrecv
  have e0 : (Value.ref 0 :: as).map (cv adX) = .ref aX :: as := by rw [List.map_cons, map_cv_num has, ← eX]; rfl
  have Cm := C l D cA adX H.size lX
  rw [e0] at hpre Cm
  refine law_call (Q' := Q') lX lY pY dX dd hS (va_runV (Ts := tb) (n := as.length) (C := N.y.cls) (b := aX) (As := as) (rest := st) ⟨hxe, hb, hml, hown, htb⟩ Cm ⟨callB_of as.length htb (mw_good hN) rfl rfl rfl (htb _ hN.2.1) (htb _ hlk) ⟨hN.2.2.1.1, hN.2.2.1.2, hnp⟩ (law_room hN), htb _ hin, htb _ hse⟩ ⟨hpre.1, by rw [hcl]; exact hrecv, hpre.2⟩ rfl rfl hl.1 rfl (lv_room hcat) hd ⟨by show cs + 0 ≤ 600000; omega, by show ss + 0 ≤ 7302250; omega⟩) (fun v hu' x' H1 locs1 hq hl1 hP1 hPV hD1 hdis hS1 => ?_)
  obtain ⟨h1, w, rfl, hw⟩ := hQ v hu' hq
  have hx' : x' = [] := by
    rw [List.length_append, lX, h1] at hl1
    exact List.eq_nil_of_length_eq_zero (by omega)
  subst hx'
  rw [List.append_nil] at hl1 hP1 hD1 hdis
  have e3 : ((some w).map (cv (adX ++ []))).toList ++ st = w :: st := by simp [cv_num hw]
  rw [e3]
  exact k w hu' hq hw p l e s m below meth c D cA adX adY H1 locs1 ls C0 hK hX hl1 lY eX eY hP1 hPV hD1 dY hdis hS1 hl
theorem LW_callY {idx : Nat} {N : MT} {as : List Value} {fs : List Value} {Q' : Option Value → AH → Prop} (hd : decode code pc = .ok (.invokevirtual idx, 3)) (hN : nOk N) (hlk : Cond.methodLink R_law idx N.y ∈ tb) (hin : Cond.instanceMethod N.y ∈ tb) (hse : Cond.selects N.y.cls N.y N.y ∈ tb) (hnp : np N = some as.length) (hc : hy[0]? = some (.inr (.inr (7, fs)))) (hcl : N.y.cls = RX7) (has : as.all numB = true) (hcat : (st.map (fun v => v.category)).sum ≤ 8) (hr : cs ≤ 600000 ∧ ss ≤ 7302250) (C : Ct N 12 0 0 (.ref 0 :: as) hy Q') (hQ : ∀ v hp', Q' v hp' → hp'.length = hy.length ∧ ∃ w, v = some w ∧ numB w = true)
    (k : ∀ w hy', Q' (some w) hy' → numB w = true → LW b L xs cs ss (pc + 3) i (w :: st) aX aY hx hy') : LW b L xs cs ss pc i (as.reverse ++ .ref aY :: st) aX aY hx hy := by
  intro p l e s m below meth c D cA adX adY H locs ls C0 hK hX lX lY eX eY pX pY dX dY dd hS hl
  obtain ⟨hxe, hb, hrt, hml, hown, hts, hXs, hbl, hlocks, hgv⟩ := id C0
  have htb : ∀ w ∈ tb, w.before #[Value.ref b] s = true := fun w hw => hts w (List.mem_filter.mp hw).1
  have hrecv := va_recv hK pY (ci := 7) (q0 := 0) rfl (conc_get lY hc)
  have hpre := ct_pre (as := .ref 0 :: as) pY dY hK hX
  rw [eY] at hrecv
  have e0 : (Value.ref 0 :: as).map (cv adY) = .ref aY :: as := by rw [List.map_cons, map_cv_num has, ← eY]; rfl
  have Cm := C l D cA adY H.size lY
  rw [e0] at hpre Cm
  refine law_call (Q' := Q') lY lX pX dY (fun q h1 h2 => dd q h2 h1) hS (va_runV (Ts := tb) (n := as.length) (C := N.y.cls) (b := aY) (As := as) (rest := st) ⟨hxe, hb, hml, hown, htb⟩ Cm ⟨callB_of as.length htb (mw_good hN) rfl rfl rfl (htb _ hN.2.1) (htb _ hlk) ⟨hN.2.2.1.1, hN.2.2.1.2, hnp⟩ (law_room hN), htb _ hin, htb _ hse⟩ ⟨hpre.1, by rw [hcl]; exact hrecv, hpre.2⟩ rfl rfl hl.1 rfl (lv_room hcat) hd ⟨by show cs + 0 ≤ 600000; omega, by show ss + 0 ≤ 7302250; omega⟩) (fun v hu' x' H1 locs1 hq hl1 hP1 hPV hD1 hdis hS1 => ?_)
  obtain ⟨h1, w, rfl, hw⟩ := hQ v hu' hq
  have hx' : x' = [] := by
    rw [List.length_append, lY, h1] at hl1
    exact List.eq_nil_of_length_eq_zero (by omega)
  subst hx'
  rw [List.append_nil] at hl1 hP1 hD1 hdis
  have e3 : ((some w).map (cv (adY ++ []))).toList ++ st = w :: st := by simp [cv_num hw]
  rw [e3]
  exact k w hu' hq hw p l e s m below meth c D cA adX adY H1 locs1 ls C0 hK hX lX hl1 eX eY hPV hP1 dX hD1 (fun q h1 h2 => hdis q h2 h1) hS1 hl
theorem LW_eqi {x y : Int32} {off : Int} {t : Nat} (hd : decode code pc = .ok (.if_icmp .eq off, 3)) (ht : (pc : Int) + off = (t : Int)) (h : x = y) (k : LW b L xs cs ss t i st aX aY hx hy) : LW b L xs cs ss pc i (.int y :: .int x :: st) aX aY hx hy := by
  intro p l e s m below meth c D cA adX adY H locs ls C0 hK hX lX lY eX eY pX pY dX dY dd hS hl
  exact lv_icmp_eq C0.1 C0.2.1 hd ht (fun _ => k p l e s m below meth c D cA adX adY H locs ls C0 hK hX lX lY eX eY pX pY dX dY dd hS hl) (fun q => absurd h q)
theorem LW_eql {x y : Int64} {off : Int} {t : Nat} (hd0 : decode code pc = .ok (.lcmp, 1)) (hd : decode code (pc + 1) = .ok (.ifCond .eq off, 3)) (ht : ((pc + 1 : Nat) : Int) + off = (t : Int)) (h : x = y) (k : LW b L xs cs ss t i st aX aY hx hy) : LW b L xs cs ss pc i (.long y :: .long x :: st) aX aY hx hy := by
  intro p l e s m below meth c D cA adX adY H locs ls C0 hK hX lX lY eX eY pX pY dX dY dd hS hl
  refine W.lcmp C0.1 C0.2.1 hd0 ?_
  subst h
  have h0 : lg_cmp x x = 0 := by simp [lg_cmp]
  exact lv_if_eq C0.1 C0.2.1 hd ht (fun _ => k p l e s m below meth c D cA adX adY H locs ls C0 hK hX lX lY eX eY pX pY dX dY dd hS hl) (fun q => absurd h0 q)
end LWR
