/-! THE CLAIM OUT OF ONE WALK OF THE LAW'S BODY. Your part is whole_start (and what it stands on); all else here is the same for every law, but numbers. -/
def R_law : String := "PromiseTailorLaw"
def lw_P (b : Addr) (xs : List Int32) (args : Array Value) (s : State) : Prop := args = #[.ref b] ∧ s.IntsAt b xs ∧ xs.length ≤ 3072 ∧ (Jvm.Cond.and given_1 narrow_1).before args s = true
def lw_Q (_ : Array Value) (s : State) (o : Outcome) (t : State) : Prop := o = .returned (some (.int 1)) ∧ Framed s o t [] 600000 7302250
def lw_Z (below : List Frame) (a : Array Value) (s : State) : State → Prop := fun t => ∃ o, t.status = .running ∧ Ended t below o ∧ lw_Q a s o t
/-- the law's own end, with 1 on the stack, nothing written that was there before, its room as the claim has it -/
theorem lw_ret {p : Program} {l : Launch} {e : Env} {s : State} {m : MethodId} {below : List Frame} {meth : Method} {c : Code} {b : Nat} (hx : p.tables.exec = Jvm.exec) (hb : c.code = code) (hr : meth.sig.returnType = ret) (hlocks : meth.locks = false) {pc : Nat} {H : Heap} {ls : Array Slot} (hdg : decode code pc = .ok (.ireturn, 1)) : W p l e room_1 s m #[Value.ref b] below meth c H [] 600000 7302250 (lw_Z below #[Value.ref b] s) (F0 m pc ls [.int 1]) := by
  intro T hT X
  obtain ⟨fs, hret, hrun, hended, hW, hframe⟩ := X.leave (v := some (.int 1)) (hlocks := hlocks) (fun h => by rw [hr] at h; cases h)
  have hmeth' : T.vm.method? m = some meth := X.method'
  refine ⟨T.setFrames fs, ?_, .returned (some (.int 1)), hrun, hended, rfl, ⟨_, rfl⟩, hW, hframe⟩
  jvm_step X.here [X.here.top, hx, hb, hdg, hmeth', hr, ret, narrow_b1]
  (try refine ⟨rfl, ?_⟩); (try refine ⟨rfl, ?_⟩)
  first | (intro acts; rw [hret _ acts rfl rfl rfl]) | rw [hret _ _ rfl rfl rfl]
  exact Steps.refl _
/-- what holds at the law's entry: the machine, the code, the tables' words (any of lw_tbl by 'hts w (by decide +kernel)'), the script of L ints xs at the cell b, what the Statement gives of the start (any of its parts by flat_of_before) -/
def lw_At (p : Program) (s : State) (m : MethodId) (meth : Method) (c : Code) (b L : Nat) (xs : Nat → Int32) : Prop :=
  p.tables.exec = Jvm.exec ∧ c.code = code ∧ meth.sig.returnType = ret ∧ c.maxLocals = 4 ∧ s.vm.findClass R_law = some m.cls ∧ (∀ w ∈ lw_tbl, w.before #[Value.ref b] s = true) ∧ va_X b L xs s s.heap ∧ b < s.heap.size ∧ meth.locks = false ∧ (Jvm.Cond.and given_1 narrow_1).before #[Value.ref b] s = true
/-! ===== the law's frame: two worlds side by side ===== -/
def lwA (s : State) : Nat → Prop := fun q => s.heap.size ≤ q
def LW (b L : Nat) (xs : Nat → Int32) (cs ss pc : Nat) (i : Int32) (st : List Value) (aX aY : Nat) (hx hy : AH) : Prop :=
  ∀ (p : Program) (l : Launch) (e : Env) (s : State) (m : MethodId) (below : List Frame) (meth : Method) (c : Code) (D : va_G) (cA : FieldType → ClassId) (adX adY : List Nat) (H : Heap) (locs : List Loc) (ls : Array Slot),
    lw_At p s m meth c b L xs → va_K D clsL (tysL cA) s → xN s → adX.length = hx.length → adY.length = hy.length → adX.getD 0 0 = aX → adY.getD 0 0 = aY →
    va_P D clsL (conc cA adX hx) H → va_P D clsL (conc cA adY hy) H → va_D (lwA s) (conc cA adX hx) → va_D (lwA s) (conc cA adY hy) → (∀ q, q ∈ adX → q ∉ adY) → va_S (lwA s) s.heap H locs → lv_has ls 4 [(0, .ref b), (1, .ref aX), (2, .ref aY), (3, .int i)] →
    W p l e room_1 s m #[Value.ref b] below meth c H locs cs ss (lw_Z below #[Value.ref b] s) (F0 m pc ls st)
theorem conc_ad {cA : FieldType → ClassId} {ad : List Nat} {hp : AH} (hl : ad.length = hp.length) {q : Nat} : q ∈ ad ↔ ∃ (k : Nat) (e : va_E), (conc cA ad hp)[k]? = some (q, e) := by
  constructor
  · intro h
    obtain ⟨k, hk⟩ := List.getElem?_of_mem h
    have hk2 : k < hp.length := by rw [← hl]; exact (List.getElem?_eq_some_iff.mp hk).1
    have := conc_get (cA := cA) hl (List.getElem?_eq_getElem hk2)
    have e : ad.getD k 0 = q := by rw [List.getD_eq_getElem?_getD, hk]; rfl
    rw [e] at this
    exact ⟨k, _, this⟩
  · rintro ⟨k, e, h⟩
    obtain ⟨x, hx, he⟩ := conc_addr hl h
    have hk2 : k < ad.length := by rw [hl]; exact (List.getElem?_eq_some_iff.mp hx).1
    have : q = ad.getD k 0 := congrArg Prod.fst he
    rw [this, List.getD_eq_getElem?_getD, List.getElem?_eq_getElem hk2]
    exact List.getElem_mem hk2
/-- a call on one of the two worlds: the other stays -/
theorem law_call {p : Program} {l : Launch} {e : Env} {s : State} {m : MethodId} {args : Array Value} {below : List Frame} {meth : Method} {c : Code} {D : va_G} {cA : FieldType → ClassId} {adU adV : List Nat} {hu hv : AH} {H : Heap} {locs : List Loc} {ls : Array Slot} {cs ss mc ms pc : Nat} {Q : State → Prop} {Q' : Option Value → AH → Prop} {st0 rest : List Value} {R : Room} {a : Array Value}
    (hlU : adU.length = hu.length) (hlV : adV.length = hv.length) (hPV : va_P D clsL (conc cA adV hv) H) (hDU : va_D (lwA s) (conc cA adU hu)) (hdis : ∀ q, q ∈ adU → q ∉ adV) (hS : va_S (lwA s) s.heap H locs)
    (hr : va_Run p l e R s m args below meth c H locs cs ss mc ms (F0 m pc ls st0) rest (jQ D cA (va_A (conc cA adU hu) H.size) adU Q' a) (va_A (conc cA adU hu) H.size))
    (kk : ∀ (v : Option Value) (hu' : AH) (x' : List Nat) (H1 : Heap) (locs1 : List Loc), Q' v hu' → (adU ++ x').length = hu'.length → va_P D clsL (conc cA (adU ++ x') hu') H1 → va_P D clsL (conc cA adV hv) H1 → va_D (lwA s) (conc cA (adU ++ x') hu') → (∀ q, q ∈ adU ++ x' → q ∉ adV) → va_S (lwA s) s.heap H1 locs1 → W p l e R s m args below meth c H1 locs1 (cs + mc) (ss + ms) Q (F0 m (pc + 3) ls ((v.map (cv (adU ++ x'))).toList ++ rest))) : W p l e R s m args below meth c H locs cs ss Q (F0 m pc ls st0) := by
  have hF : ∀ q, va_A (conc cA adU hu) H.size q → lwA s q := ct_free hDU hS (fun _ h => h)
  have hVlt : ∀ q, q ∈ adV → q < H.size := fun q hq => by
    obtain ⟨k, e, h⟩ := (conc_ad (cA := cA) hlV).mp hq
    exact (hPV k _ h).lt
  intro T hT X
  obtain ⟨v, st₀, t, T', L, h0, X', hL, e1, e2, ⟨⟨w, hp', x', hv', hq, hl, hP, hD, hK⟩, hz, hk⟩, st⟩ := hr T hT X
  rw [Outcome.returned.injEq] at hv'
  subst hv'
  rw [h0] at hz hk
  have hPV1 : va_P D clsL (conc cA adV hv) T'.heap := hPV.kept (fun k q h => by
    have hqV : q.1 ∈ adV := (conc_ad (cA := cA) hlV).mpr ⟨k, q.2, h⟩
    rw [e1]
    refine hk q.1 (hVlt _ hqV) (fun hA => ?_)
    rcases hA with ⟨k2, e9, h9⟩ | h9
    · exact hdis q.1 ((conc_ad (cA := cA) hlU).mpr ⟨k2, e9, h9⟩) hqV
    · exact absurd (hVlt _ hqV) (by omega))
  obtain ⟨t2, a1, b1⟩ := kk w hp' x' T'.heap (locs ++ L) hq hl (by rw [e1]; exact hP) hPV1 (hD.weaken (fun _ q _ h => hF _ h)) (fun q hqU hqV => by
      obtain ⟨k2, e9, h9⟩ := (conc_ad (cA := cA) hl).mp hqU
      rcases hD.2 k2 _ h9 with ⟨k3, e8, h8⟩ | h8
      · exact hdis q ((conc_ad (cA := cA) hlU).mpr ⟨k3, e8, h8⟩) hqV
      · have := hVlt _ hqV
        exact absurd this (by simpa using h8))
    ⟨Nat.le_trans hS.1 (by rw [e1]; exact hz), fun q h1 h2 => by rw [e1, hk q (Nat.lt_of_lt_of_le h1 hS.1) (fun z => h2 (hF q z))]; exact hS.2.1 q h1 h2, fun q hq => by
      rcases List.mem_append.mp hq with h | h
      · exact hS.2.2 q h
      · exact hF _ (hL q h)⟩ T' rfl X'
  exact ⟨t2, st t2 a1, b1⟩
def numB (v : Value) : Bool := match v with
  | .int _ => true
  | .long _ => true
  | _ => false
theorem cv_num {ad : List Nat} {v : Value} (h : numB v = true) : cv ad v = v := by
  cases v <;> first | rfl | cases h
theorem map_cv_num {ad : List Nat} {as : List Value} (h : as.all numB = true) : as.map (cv ad) = as := by
  have : as.map (cv ad) = as.map id := List.map_congr_left (fun v hv => cv_num (List.all_eq_true.mp h v hv))
  rw [this, List.map_id]
section LWR
variable {b L : Nat} {xs : Nat → Int32} {cs ss pc : Nat} {i : Int32} {st : List Value} {aX aY : Nat} {hx hy : AH}
theorem LW_x (hd : decode code pc = .ok (.aload_n 1, 1)) (k : LW b L xs cs ss (pc + 1) i (.ref aX :: st) aX aY hx hy) : LW b L xs cs ss pc i st aX aY hx hy := by
  intro p l e s m below meth c D cA adX adY H locs ls C0 hK hN lX lY eX eY pX pY dX dY dd hS hl
  exact lv_aload_n C0.1 C0.2.1 hd rfl (lv_at hl 1 rfl) (k p l e s m below meth c D cA adX adY H locs ls C0 hK hN lX lY eX eY pX pY dX dY dd hS hl)
theorem LW_y (hd : decode code pc = .ok (.aload_n 2, 1)) (k : LW b L xs cs ss (pc + 1) i (.ref aY :: st) aX aY hx hy) : LW b L xs cs ss pc i st aX aY hx hy := by
  intro p l e s m below meth c D cA adX adY H locs ls C0 hK hN lX lY eX eY pX pY dX dY dd hS hl
  exact lv_aload_n C0.1 C0.2.1 hd rfl (lv_at hl 2 rfl) (k p l e s m below meth c D cA adX adY H locs ls C0 hK hN lX lY eX eY pX pY dX dY dd hS hl)
theorem LW_arg {n : Int} {q : Nat} (hd0 : decode code pc = .ok (.aload_n 0, 1)) (hd1 : decode code (pc + 1) = .ok (.iload_n 3, 1)) (hd2 : decode code (pc + 2) = .ok (.iconst n, 1)) (hd3 : decode code (pc + 3) = .ok (.iadd, 1)) (hd4 : decode code (pc + 4) = .ok (.iaload, 1)) (hin : vp_in (i + Int32.ofInt n) L) (hj : (i + Int32.ofInt n).toNatClampNeg = q) (k : LW b L xs cs ss (pc + 5) i (.int (xs q) :: st) aX aY hx hy) : LW b L xs cs ss pc i st aX aY hx hy := by
  intro p l e s m below meth c D cA adX adY H locs ls C0 hK hN lX lY eX eY pX pY dX dY dd hS hl
  have hbl := C0.2.2.2.2.2.2.2.1
  refine lv_aload_n C0.1 C0.2.1 hd0 rfl (lv_at hl 0 rfl) ?_
  refine lv_iload_n C0.1 C0.2.1 hd1 rfl (lv_at hl 3 rfl) ?_
  refine lv_iconst C0.1 C0.2.1 hd2 rfl ?_
  refine lv_iadd C0.1 C0.2.1 hd3 ?_
  subst hj
  refine va_sld C0.1 C0.2.1 C0.2.2.2.2.2.2.1 hbl (A := lwA s) (Nat.not_le.mpr hbl) hS hin hd4 ?_
  exact k p l e s m below meth c D cA adX adY H locs ls C0 hK hN lX lY eX eY pX pY dX dY dd hS hl
theorem law_room {N : MT} {mc' ms' : Nat} (hN : nOk N) : (rmm 12 mc' ms').frames + 1 ≤ room_1.frames ∧ 8 + (N.ml + 11) + (rmm 12 mc' ms').locals ≤ room_1.locals := by
  refine ⟨Nat.le_refl _, ?_⟩
  have := hN.2.2.2.1
  show 8 + (N.ml + 11) + 39 * 12 ≤ 512
  omega
theorem LW_callX {idx : Nat} {N : MT} {as : List Value} {fs : List Value} {Q' : Option Value → AH → Prop} (hd : decode code pc = .ok (.invokevirtual idx, 3)) (hN : nOk N) (hlk : Cond.methodLink R_law idx N.y ∈ tb) (hin : Cond.instanceMethod N.y ∈ tb) (hse : Cond.selects N.y.cls N.y N.y ∈ tb) (hnp : np N = some as.length) (hc : hx[0]? = some (.inr (.inr (6, fs)))) (hcl : N.y.cls = RX6) (has : as.all numB = true) (hcat : (st.map (fun v => v.category)).sum ≤ 8) (hr : cs ≤ 600000 ∧ ss ≤ 7302250) (C : Ct N 12 0 0 (.ref 0 :: as) hx Q') (hQ : ∀ v hp', Q' v hp' → hp'.length = hx.length ∧ ∃ w, v = some w ∧ numB w = true)
    (k : ∀ w hx', Q' (some w) hx' → numB w = true → LW b L xs cs ss (pc + 3) i (w :: st) aX aY hx' hy) : LW b L xs cs ss pc i (as.reverse ++ .ref aX :: st) aX aY hx hy := by
  intro p l e s m below meth c D cA adX adY H locs ls C0 hK hX lX lY eX eY pX pY dX dY dd hS hl
  obtain ⟨hxe, hb, hrt, hml, hown, hts, hXs, hbl, hlocks, hgv⟩ := id C0
  have htb : ∀ w ∈ tb, w.before #[Value.ref b] s = true := fun w hw => hts w (List.mem_filter.mp hw).1
  have hrecv := va_recv hK pX (ci := 6) (q0 := 0) rfl (conc_get lX hc)
  have hpre := ct_pre (as := .ref 0 :: as) pX dX hK hX
  rw [eX] at hrecv
  have e0 : (Value.ref 0 :: as).map (cv adX) = .ref aX :: as := by rw [List.map_cons, map_cv_num has, ← eX]; rfl
  have Cm := C l D cA adX H.size lX
  rw [e0] at hpre Cm
  refine law_call (Q' := Q') lX lY pY dX dd hS (va_runV (Ts := tb) (n := as.length) (C := N.y.cls) (b := aX) (As := as) (rest := st) ⟨hxe, hb, hml, hown, htb⟩ Cm ⟨callB_of as.length htb (mw_good hN) rfl rfl rfl (htb _ hN.2.1) (htb _ hlk) ⟨hN.2.2.1.1, hN.2.2.1.2, hnp⟩ (law_room hN), htb _ hin, htb _ hse⟩ ⟨hpre.1, by rw [hcl]; exact hrecv, hpre.2⟩ rfl rfl hl.1 rfl (lv_room hcat) hd ⟨by show cs + 0 ≤ 600000; omega, by show ss + 0 ≤ 7302250; omega⟩) (fun v hu' x' H1 locs1 hq hl1 hP1 hPV hD1 hdis hS1 => ?_)
  obtain ⟨h1, w, rfl, hw⟩ := hQ v hu' hq
  have hx' : x' = [] := by
    rw [List.length_append, lX, h1] at hl1
    exact List.eq_nil_of_length_eq_zero (by omega)
  subst hx'
  rw [List.append_nil] at hl1 hP1 hD1 hdis
  have e3 : ((some w).map (cv (adX ++ []))).toList ++ st = w :: st := by simp [cv_num hw]
  rw [e3]
  exact k w hu' hq hw p l e s m below meth c D cA adX adY H1 locs1 ls C0 hK hX hl1 lY eX eY hP1 hPV hD1 dY hdis hS1 hl
theorem LW_callY {idx : Nat} {N : MT} {as : List Value} {fs : List Value} {Q' : Option Value → AH → Prop} (hd : decode code pc = .ok (.invokevirtual idx, 3)) (hN : nOk N) (hlk : Cond.methodLink R_law idx N.y ∈ tb) (hin : Cond.instanceMethod N.y ∈ tb) (hse : Cond.selects N.y.cls N.y N.y ∈ tb) (hnp : np N = some as.length) (hc : hy[0]? = some (.inr (.inr (7, fs)))) (hcl : N.y.cls = RX7) (has : as.all numB = true) (hcat : (st.map (fun v => v.category)).sum ≤ 8) (hr : cs ≤ 600000 ∧ ss ≤ 7302250) (C : Ct N 12 0 0 (.ref 0 :: as) hy Q') (hQ : ∀ v hp', Q' v hp' → hp'.length = hy.length ∧ ∃ w, v = some w ∧ numB w = true)
    (k : ∀ w hy', Q' (some w) hy' → numB w = true → LW b L xs cs ss (pc + 3) i (w :: st) aX aY hx hy') : LW b L xs cs ss pc i (as.reverse ++ .ref aY :: st) aX aY hx hy := by
  intro p l e s m below meth c D cA adX adY H locs ls C0 hK hX lX lY eX eY pX pY dX dY dd hS hl
  obtain ⟨hxe, hb, hrt, hml, hown, hts, hXs, hbl, hlocks, hgv⟩ := id C0
  have htb : ∀ w ∈ tb, w.before #[Value.ref b] s = true := fun w hw => hts w (List.mem_filter.mp hw).1
  have hrecv := va_recv hK pY (ci := 7) (q0 := 0) rfl (conc_get lY hc)
  have hpre := ct_pre (as := .ref 0 :: as) pY dY hK hX
  rw [eY] at hrecv
  have e0 : (Value.ref 0 :: as).map (cv adY) = .ref aY :: as := by rw [List.map_cons, map_cv_num has, ← eY]; rfl
  have Cm := C l D cA adY H.size lY
  rw [e0] at hpre Cm
  refine law_call (Q' := Q') lY lX pX dY (fun q h1 h2 => dd q h2 h1) hS (va_runV (Ts := tb) (n := as.length) (C := N.y.cls) (b := aY) (As := as) (rest := st) ⟨hxe, hb, hml, hown, htb⟩ Cm ⟨callB_of as.length htb (mw_good hN) rfl rfl rfl (htb _ hN.2.1) (htb _ hlk) ⟨hN.2.2.1.1, hN.2.2.1.2, hnp⟩ (law_room hN), htb _ hin, htb _ hse⟩ ⟨hpre.1, by rw [hcl]; exact hrecv, hpre.2⟩ rfl rfl hl.1 rfl (lv_room hcat) hd ⟨by show cs + 0 ≤ 600000; omega, by show ss + 0 ≤ 7302250; omega⟩) (fun v hu' x' H1 locs1 hq hl1 hP1 hPV hD1 hdis hS1 => ?_)
  obtain ⟨h1, w, rfl, hw⟩ := hQ v hu' hq
  have hx' : x' = [] := by
    rw [List.length_append, lY, h1] at hl1
    exact List.eq_nil_of_length_eq_zero (by omega)
  subst hx'
  rw [List.append_nil] at hl1 hP1 hD1 hdis
  have e3 : ((some w).map (cv (adY ++ []))).toList ++ st = w :: st := by simp [cv_num hw]
  rw [e3]
  exact k w hu' hq hw p l e s m below meth c D cA adX adY H1 locs1 ls C0 hK hX lX hl1 eX eY hPV hP1 dX hD1 (fun q h1 h2 => hdis q h2 h1) hS1 hl
theorem LW_eqi {x y : Int32} {off : Int} {t : Nat} (hd : decode code pc = .ok (.if_icmp .eq off, 3)) (ht : (pc : Int) + off = (t : Int)) (h : x = y) (k : LW b L xs cs ss t i st aX aY hx hy) : LW b L xs cs ss pc i (.int y :: .int x :: st) aX aY hx hy := by
  intro p l e s m below meth c D cA adX adY H locs ls C0 hK hX lX lY eX eY pX pY dX dY dd hS hl
  exact lv_icmp_eq C0.1 C0.2.1 hd ht (fun _ => k p l e s m below meth c D cA adX adY H locs ls C0 hK hX lX lY eX eY pX pY dX dY dd hS hl) (fun q => absurd h q)
theorem LW_eql {x y : Int64} {off : Int} {t : Nat} (hd0 : decode code pc = .ok (.lcmp, 1)) (hd : decode code (pc + 1) = .ok (.ifCond .eq off, 3)) (ht : ((pc + 1 : Nat) : Int) + off = (t : Int)) (h : x = y) (k : LW b L xs cs ss t i st aX aY hx hy) : LW b L xs cs ss pc i (.long y :: .long x :: st) aX aY hx hy := by
  intro p l e s m below meth c D cA adX adY H locs ls C0 hK hX lX lY eX eY pX pY dX dY dd hS hl
  refine W.lcmp C0.1 C0.2.1 hd0 ?_
  subst h
  have h0 : lg_cmp x x = 0 := by simp [lg_cmp]
  exact lv_if_eq C0.1 C0.2.1 hd ht (fun _ => k p l e s m below meth c D cA adX adY H locs ls C0 hK hX lX lY eX eY pX pY dX dY dd hS hl) (fun q => absurd h0 q)
end LWR
section LWN
variable {b L : Nat} {xs : Nat → Int32} {cs ss pc : Nat} {i : Int32} {st : List Value} {aX aY : Nat} {hx hy : AH}
theorem LW_next {t : Nat} {off : Int} (hd0 : decode code pc = .ok (.iinc 3 6, 3)) (hd1 : decode code (pc + 3) = .ok (.goto off, 3)) (ht : ((pc + 3 : Nat) : Int) + off = (t : Int)) (k : LW b L xs cs ss t (i + 6) st aX aY hx hy) : LW b L xs cs ss pc i st aX aY hx hy := by
  intro p l e s m below meth c D cA adX adY H locs ls C0 hK hN lX lY eX eY pX pY dX dY dd hS hl
  refine lv_iinc (k := 3) (v := i + 6) (lv' := [(3, .int (i + 6)), (0, .ref b), (1, .ref aX), (2, .ref aY)]) C0.1 C0.2.1 hd0 hl rfl rfl (by decide) rfl (fun ls1 hl1 => ?_)
  refine lv_goto C0.1 C0.2.1 hd1 ht ?_
  exact k p l e s m below meth c D cA adX adY H locs ls1 C0 hK hN lX lY eX eY pX pY dX dY dd hS (lv_sub hl1 [1, 2, 3, 0] rfl)
/-- the loop's head: on, or to the end -/
theorem LW_head {off : Int} {t : Nat} (hd0 : decode code pc = .ok (.iload_n 3, 1)) (hd1 : decode code (pc + 1) = .ok (.aload_n 0, 1)) (hd2 : decode code (pc + 2) = .ok (.arraylength, 1)) (hd3 : decode code (pc + 3) = .ok (.bipush 6, 2)) (hd4 : decode code (pc + 5) = .ok (.isub, 1)) (hd5 : decode code (pc + 6) = .ok (.if_icmp .gt off, 3)) (ht : ((pc + 6 : Nat) : Int) + off = (t : Int)) (kt : nI L - 6 < i → LW b L xs cs ss t i st aX aY hx hy) (kf : ¬ nI L - 6 < i → LW b L xs cs ss (pc + 9) i st aX aY hx hy) : LW b L xs cs ss pc i st aX aY hx hy := by
  intro p l e s m below meth c D cA adX adY H locs ls C0 hK hN lX lY eX eY pX pY dX dY dd hS hl
  have hbl := C0.2.2.2.2.2.2.2.1
  refine lv_iload_n C0.1 C0.2.1 hd0 rfl (lv_at hl 3 rfl) ?_
  refine lv_aload_n C0.1 C0.2.1 hd1 rfl (lv_at hl 0 rfl) ?_
  refine va_slen C0.1 C0.2.1 C0.2.2.2.2.2.2.1 hbl (A := lwA s) (Nat.not_le.mpr hbl) hS hd2 ?_
  refine lv_bipush (v := 6) C0.1 C0.2.1 hd3 (by decide) ?_
  refine lv_isub C0.1 C0.2.1 hd4 ?_
  exact lv_icmp_gt C0.1 C0.2.1 hd5 ht (fun h => kt h p l e s m below meth c D cA adX adY H locs ls C0 hK hN lX lY eX eY pX pY dX dY dd hS hl) (fun h => kf h p l e s m below meth c D cA adX adY H locs ls C0 hK hN lX lY eX eY pX pY dX dY dd hS hl)
theorem LW_exit (hd0 : decode code pc = .ok (.iconst 1, 1)) (hd1 : decode code (pc + 1) = .ok (.ireturn, 1)) (hr : cs ≤ 600000 ∧ ss ≤ 7302250) : LW b L xs cs ss pc i [] aX aY hx hy := by
  intro p l e s m below meth c D cA adX adY H locs ls C0 hK hN lX lY eX eY pX pY dX dY dd hS hl
  refine lv_iconst (v := 1) C0.1 C0.2.1 hd0 (by decide) ?_
  refine va_forget (fun q hq => hS.2.2 q hq) ?_
  refine W.widen hr.1 hr.2 ?_
  exact lw_ret C0.1 C0.2.1 C0.2.2.1 C0.2.2.2.2.2.2.2.2.1 hd1
/-- which call: script[i] & 63 -/
theorem LW_sw {len : Nat} {dflt lo hi : Int} {offs : Array Int} (hd0 : decode code pc = .ok (.aload_n 0, 1)) (hd1 : decode code (pc + 1) = .ok (.iload_n 3, 1)) (hd2 : decode code (pc + 2) = .ok (.iaload, 1)) (hd3 : decode code (pc + 3) = .ok (.bipush 63, 2)) (hd4 : decode code (pc + 5) = .ok (.iand, 1)) (hd5 : decode code (pc + 6) = .ok (.tableswitch dflt lo hi offs, len)) (hin : vp_in i L) (k : ∃ t, swT dflt lo hi offs (pc + 6) (xs i.toNatClampNeg &&& 63) = some t ∧ LW b L xs cs ss t i st aX aY hx hy) : LW b L xs cs ss pc i st aX aY hx hy := by
  intro p l e s m below meth c D cA adX adY H locs ls C0 hK hN lX lY eX eY pX pY dX dY dd hS hl
  have hbl := C0.2.2.2.2.2.2.2.1
  obtain ⟨t, hs, kk⟩ := k
  refine lv_aload_n C0.1 C0.2.1 hd0 rfl (lv_at hl 0 rfl) ?_
  refine lv_iload_n C0.1 C0.2.1 hd1 rfl (lv_at hl 3 rfl) ?_
  refine va_sld C0.1 C0.2.1 C0.2.2.2.2.2.2.1 hbl (A := lwA s) (Nat.not_le.mpr hbl) hS hin hd2 ?_
  refine lv_bipush (v := 63) C0.1 C0.2.1 hd3 (by decide) ?_
  refine lv_iand C0.1 C0.2.1 hd4 ?_
  have K := kk p l e s m below meth c D cA adX adY H locs ls C0 hK hN lX lY eX eY pX pY dX dY dd hS hl
  unfold swT at hs
  split at hs
  · rename_i h
    exact lv_tableOut C0.1 C0.2.1 hd5 h (tgt_spec hs) K
  · rename_i h
    split at hs
    · rename_i off ho
      exact lv_tableIn C0.1 C0.2.1 hd5 (fun q => h (Or.inl q)) (fun q => h (Or.inr q)) ho (tgt_spec hs) K
    · cases hs
end LWN
theorem and63 (x : Int32) : ∃ j : Nat, j < 64 ∧ x &&& 63 = nI j := by
  refine ⟨(x &&& 63).toBitVec.toNat, ?_, ?_⟩
  · have : (x &&& 63).toBitVec.toNat ≤ 63 := by
      rw [Int32.toBitVec_and, BitVec.toNat_and]
      exact Nat.and_le_right
    omega
  · apply Int32.toBitVec_inj.mp
    unfold nI
    rw [Int32.toBitVec_ofNat']
    simp
def oX : AC := .inr (.inr (6, dfs 6))
def oY : AC := .inr (.inr (7, dfs 7))
def rX0 : Option (Option Value × AH × Nat × Nat) := ev noO 2000 12 42 0 (entL [.ref 0] 1) [] [oX] 0 0
def rY0 : Option (Option Value × AH × Nat × Nat) := ev noO 400 12 103 0 (entL [.ref 0] 1) [] [oY] 0 0
def hX0 : AH := match rX0 with
  | some (_, h, _, _) => h
  | none => []
def hY0 : AH := match rY0 with
  | some (_, h, _, _) => h
  | none => []
set_option maxRecDepth 1000000 in
theorem evX0 : rX0.isSome = true := by decide +kernel
set_option maxRecDepth 1000000 in
theorem evXl : hX0.length = 58 := by decide +kernel
set_option maxRecDepth 1000000 in
theorem evYl : hY0.length = 35 := by decide +kernel
def eX (O : OR) (k ml : Nat) (as : List Value) : Option (Option Value × AH × Nat × Nat) := ev O 3000 12 k 0 (entL (.ref 0 :: as) ml) [] hX0 0 0
def eY (O : OR) (k ml : Nat) (as : List Value) : Option (Option Value × AH × Nat × Nat) := ev O 3000 12 k 0 (entL (.ref 0 :: as) ml) [] hY0 0 0
/-- both answer, and alike -/
def alike (rx ry : Option (Option Value × AH × Nat × Nat)) : Bool := match rx, ry with
  | some (some v, h, 0, 0), some (some w, g, 0, 0) => decide (v = w) && (numB v && (decide (h.length = 58) && decide (g.length = 35)))
  | _, _ => false
/-! ===== the two constructors, by evaluation ===== -/
def rIs (r : Option (Option Value × AH × Nat × Nat)) (h0 : AH) (c s : Nat) : Bool := match r with
  | some (none, h, c', s') => decide (h = h0) && (decide (c' = c) && decide (s' = s))
  | _ => false
theorem rIs_spec {r : Option (Option Value × AH × Nat × Nat)} {h0 : AH} {c s : Nat} (h : rIs r h0 c s = true) : r = some (none, h0, c, s) := by
  unfold rIs at h
  split at h
  · simp only [Bool.and_eq_true, decide_eq_true_eq] at h
    obtain ⟨rfl, rfl, rfl⟩ := h
    rfl
  · cases h
set_option maxRecDepth 1000000 in
theorem rX0_is : rIs rX0 hX0 57 979 = true := by decide +kernel
set_option maxRecDepth 1000000 in
theorem rY0_is : rIs rY0 hY0 34 1516 = true := by decide +kernel
theorem ctX0 : Ct mX6_init 12 57 979 [.ref 0] [oX] (fun v2 hp2 => v2 = none ∧ hp2 = hX0) := Ct_ev noO_ok (k := 42) rfl (by decide) (rIs_spec rX0_is)
theorem ctY0 : Ct mX7_init 12 34 1516 [.ref 0] [oY] (fun v2 hp2 => v2 = none ∧ hp2 = hY0) := Ct_ev noO_ok (k := 103) rfl (by decide) (rIs_spec rY0_is)
def isObj (h : AH) (ci : Nat) : Bool := match (h[(0 : Nat)]? : Option AC) with
  | some (.inr (.inr (cj, _))) => decide (cj = ci)
  | _ => false
theorem isObj_spec {h : AH} {ci : Nat} (q : isObj h ci = true) : ∃ fs, (h[(0 : Nat)]? : Option AC) = some (.inr (.inr (ci, fs))) := by
  unfold isObj at q
  split at q
  · rename_i cj fs e
    have := of_decide_eq_true q
    subst this
    exact ⟨fs, e⟩
  · cases q
set_option maxRecDepth 1000000 in
theorem oX_is : isObj hX0 6 = true := by decide +kernel
set_option maxRecDepth 1000000 in
theorem oY_is : isObj hY0 7 = true := by decide +kernel
/-! ===== what the tables give at the law's entry: classes, arrays ===== -/
theorem arr_known {args : Array Value} {s : State} {ty : FieldType} (h : (Cond.arrayClass ty).before args s = true) : ∃ cA, ArrOfT s cA ty ∧ s.vm.findClass ("[" ++ ty.toString) = some cA := by
  obtain ⟨cA, kA, comp, h1, h2, h3⟩ := Cond.arrayClass_spec h
  exact ⟨cA, fun n z => ⟨fun k h => (by cases h), kA, h2, comp, h3⟩, h1⟩
