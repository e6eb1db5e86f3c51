theorem dfs_cv (ad : List Nat) (ci : Nat) : (dfs ci).map (cv ad) = dfs ci := by
  unfold dfs
  split
  · rw [List.map_map]; exact List.map_congr_left (fun j _ => cv_dflt ad _)
  · rfl
set_option maxRecDepth 100000 in
theorem dfs_6 : ∀ j, j < 13 → defaultValue (tyX6 j) = vp_V (dfs 6) j := by decide +kernel
set_option maxRecDepth 100000 in
theorem dfs_7 : ∀ j, j < 45 → defaultValue (tyX7 j) = vp_V (dfs 7) j := by decide +kernel
set_option maxHeartbeats 4000000 in
theorem law_K {s : State} {b : Nat} (htb : ∀ w ∈ tb, w.before #[Value.ref b] s = true) (hxN : xN s) : ∃ (D : va_G) (cA : FieldType → ClassId), va_K D clsL (tysL cA) s := by
  obtain ⟨c0, i0, k0⟩ := u_known (C := RX0) (T := TX0) (N := 15) (n := 15) htb inT0 (htb (.instantiable RX0 15) (chkW_in (i := 123) (by decide +kernel)))
  obtain ⟨c1, i1, k1⟩ := u_known (C := RX1) (T := TX1) (N := 3) (n := 3) htb inT1 (htb (.instantiable RX1 3) (chkW_in (i := 129) (by decide +kernel)))
  obtain ⟨c2, i2, k2⟩ := u_known (C := RX2) (T := TX2) (N := 3) (n := 3) htb inT2 (htb (.instantiable RX2 3) (chkW_in (i := 269) (by decide +kernel)))
  obtain ⟨c3, i3, k3⟩ := u_known (C := RX3) (T := TX3) (N := 4) (n := 4) htb inT3 (htb (.instantiable RX3 4) (chkW_in (i := 95) (by decide +kernel)))
  obtain ⟨c4, i4, k4⟩ := u_known (C := RX4) (T := TX4) (N := 5) (n := 5) htb inT4 (htb (.instantiable RX4 5) (chkW_in (i := 183) (by decide +kernel)))
  obtain ⟨c5, i5, k5⟩ := u_known (C := RX5) (T := TX5) (N := 5) (n := 5) htb inT5 (htb (.instantiable RX5 5) (chkW_in (i := 151) (by decide +kernel)))
  obtain ⟨c6, i6, k6⟩ := u_known (C := RX6) (T := TX6) (N := 13) (n := 13) htb inT6 (htb (.instantiable RX6 13) (chkW_in (i := 87) (by decide +kernel)))
  obtain ⟨c7, i7, k7⟩ := u_known (C := RX7) (T := TX7) (N := 45) (n := 45) htb inT7 (htb (.instantiable RX7 45) (chkW_in (i := 764) (by decide +kernel)))
  obtain ⟨aI, hI1, hI2⟩ := arr_known (htb _ wArrI_in)
  obtain ⟨aZ, hZ1, hZ2⟩ := arr_known (htb _ wArrZ_in)
  obtain ⟨comp, aR, kR, r1, r2, r3, r4, r5⟩ := xO_spec hxN.2
  refine ⟨(fun k => match k with
    | 0 => c0
    | 1 => c1
    | 2 => c2
    | 3 => c3
    | 4 => c4
    | 5 => c5
    | 6 => c6
    | _ => c7, fun k => match k with
    | 0 => i0
    | 1 => i1
    | 2 => i2
    | 3 => i3
    | 4 => i4
    | 5 => i5
    | 6 => i6
    | _ => i7), fun t => match t with
    | .int => aI
    | .boolean => aZ
    | _ => aR, fun k q hq => ?_, fun k q h => ?_⟩
  · match k, hq with
    | 0, hq => cases hq; exact k0
    | 1, hq => cases hq; exact k1
    | 2, hq => cases hq; exact k2
    | 3, hq => cases hq; exact k3
    | 4, hq => cases hq; exact k4
    | 5, hq => cases hq; exact k5
    | 6, hq => cases hq; exact k6
    | 7, hq => cases hq; exact k7
    | k + 8, hq => simp [clsL] at hq
  · match k, h with
    | 0, h => cases h; exact ⟨hI1, hI2⟩
    | 1, h => cases h; exact ⟨hZ1, hZ2⟩
    | 2, h => cases h; exact ⟨fun n z => ⟨fun k h => (by cases h), kR, r3, comp, r4⟩, r5⟩
    | k + 3, h => simp [tysL] at h
set_option maxHeartbeats 4000000 in
set_option maxRecDepth 100000 in
/-- THE LAW, from its entry: both objects are made, then its loop -/
theorem whole_start {p : Program} {e : Env} {s : State} {m : MethodId} {below : List Frame} {meth : Method} {c : Code} (l : Launch) {b L : Nat} {xs : Nat → Int32} (hL : L ≤ 3072) (C0 : lw_At p s m meth c b L xs) : W p l e room_1 s m #[Value.ref b] below meth c s.heap [] 0 0 (lw_Z below #[Value.ref b] s) (entryFrame m ([Value.ref b] : List Value).toArray 4) := by
  obtain ⟨hx, hb, hr, hml, hown, hts, hX, hbl, hlocks, hgv⟩ := id C0
  have htb : ∀ w ∈ tb, w.before #[Value.ref b] s = true := fun w hw => hts w (List.mem_filter.mp hw).1
  have hxN : xN s := ⟨fun a i y h q => va_Nw.of rfl (hts _ q), hts _ wOver_in⟩
  obtain ⟨D, cA, hK⟩ := law_K htb hxN
  have hA : ∀ q : Nat, s.heap.size ≤ q → lwA s q := fun _ h => h
  have hS : va_S (lwA s) s.heap s.heap [] := va_S.rf
  have hP : va_P D clsL [] s.heap := fun k q h => by simp at h
  have hD : va_D (lwA s) [] := ⟨fun i j p q h => by simp at h, fun k q h => by simp at h⟩
  have hl := lv_entry ([.ref b]) (n := 4) (Nat.le_of_ble_eq_true rfl)
  rw [lg_entry_eq]
  generalize (lg_sl ([.ref b]) ++ List.replicate (4 - (lg_sl ([.ref b])).length) Slot.unset).toArray = ls at hl ⊢
  have hl : lv_has ls 4 [(0, .ref b)] := hl
  refine va_new (ci := 6) (fs := dfs 6) (C := RX6) (T := TX6) (N := 13) hx hb htb inT6 tyX6 tyX6_ok hown (htb (.classLink R_law 7 RX6) (chkW_in (i := 86) (by decide +kernel))) (htb (.instantiable RX6 13) (chkW_in (i := 87) (by decide +kernel))) (htb (.initialized RX6) (chkW_in (i := 74) (by decide +kernel))) hK hP hD hS hA rfl dfs_6 (Nat.le_of_ble_eq_true rfl) (Nat.le_of_ble_eq_true rfl) (cdOk_spec tk_0 0 _ rfl) (fun q0 H hP hD hS => ?_)
  have eX : conc cA [q0] [oX] = [(q0, .inr (6, dfs 6))] := by
    show [(q0, jC cA [q0] oX)] = _
    simp only [oX, jC, dfs_cv]
  have hP : va_P D clsL (conc cA [q0] [oX]) H := by rw [eX]; exact hP
  have hD : va_D (lwA s) (conc cA [q0] [oX]) := by rw [eX]; exact hD
  refine lv_dup hx hb (cdOk_spec tk_0 3 _ rfl) rfl ?_
  have mX := mt_ok (k := 42) (M := mX6_init) rfl
  have hpre := ct_pre (as := [.ref 0]) hP hD hK hxN
  refine law_call (adU := [q0]) (adV := []) (hu := [oX]) (hv := []) (Q' := fun v2 hp2 => v2 = none ∧ hp2 = hX0) rfl rfl (fun k q h => by simp [conc] at h) hD (fun q _ h => by simp at h) hS (va_runI (Ts := tb) (n := 0) (b := q0) (As := []) (rest := [.ref q0]) ⟨hx, hb, hml, hown, htb⟩ (ctX0 l D cA [q0] H.size rfl) ⟨callB_of (R := room_1) (ret := none) 0 htb (mw_good mX.1) rfl rfl rfl (htb _ mX.1.2.1) (htb (.methodLink R_law 9 mX6_init.y) (chkW_in (i := 88) (by decide +kernel))) ⟨mX.1.2.2.1.1, mX.1.2.2.1.2, mX.2.trans rfl⟩ (law_room mX.1), rfl, htb (.instanceMethod mX6_init.y) (chkW_in (i := 89) (by decide +kernel))⟩ hpre rfl rfl hl.1 rfl (lv_room (Nat.le_of_ble_eq_true rfl)) (cdOk_spec tk_0 4 _ rfl) ⟨Nat.le_of_ble_eq_true rfl, Nat.le_of_ble_eq_true rfl⟩) (fun v hu' x' H1 locs1 hq lX pX pV dX hdis hS => ?_)
  obtain ⟨rfl, rfl⟩ := hq
  refine lv_astore_n (lv' := [(1, .ref q0), (0, .ref b)]) hx hb (cdOk_spec tk_0 7 _ rfl) rfl hl (by decide) rfl (fun ls hl => ?_)
  generalize hadX : [q0] ++ x' = adX at lX pX dX
  have gX : adX.getD 0 0 = q0 := by rw [← hadX]; rfl
  refine va_new (ci := 7) (fs := dfs 7) (C := RX7) (T := TX7) (N := 45) hx hb htb inT7 tyX7 tyX7_ok hown (htb (.classLink R_law 10 RX7) (chkW_in (i := 763) (by decide +kernel))) (htb (.instantiable RX7 45) (chkW_in (i := 764) (by decide +kernel))) (htb (.initialized RX7) (chkW_in (i := 83) (by decide +kernel))) hK pX dX hS hA rfl dfs_7 (Nat.le_of_ble_eq_true rfl) (Nat.le_of_ble_eq_true rfl) (cdOk_spec tk_0 8 _ rfl) (fun q1 H2 hP2 hD2 hS => ?_)
  have eY : conc cA [q1] [oY] = [(q1, .inr (7, dfs 7))] := by
    show [(q1, jC cA [q1] oY)] = _
    simp only [oY, jC, dfs_cv]
  have lc := conc_length (cA := cA) lX
  have at1 : (conc cA adX hX0 ++ [(q1, (.inr (7, dfs 7) : va_E))])[hX0.length]? = some (q1, .inr (7, dfs 7)) := by
    rw [List.getElem?_append_right (by rw [lc]; exact Nat.le_refl _), lc, Nat.sub_self]; rfl
  have atX : ∀ (k : Nat) (q : Nat × va_E), (conc cA adX hX0)[k]? = some q → (conc cA adX hX0 ++ [(q1, (.inr (7, dfs 7) : va_E))])[k]? = some q := fun k q h => by
    rw [List.getElem?_append_left (List.getElem?_eq_some_iff.mp h).1]; exact h
  have pX2 : va_P D clsL (conc cA adX hX0) H2 := fun k q h => hP2 k q (atX k q h)
  have dX2 : va_D (lwA s) (conc cA adX hX0) := ⟨fun i j x y h1 h2 h3 => hD2.1 i j x y (atX i x h1) (atX j y h2) h3, fun k q h => hD2.2 k q (atX k q h)⟩
  have pY2 : va_P D clsL (conc cA [q1] [oY]) H2 := by
    rw [eY]
    intro k q h
    cases k with
    | zero => cases h; exact hP2 hX0.length _ at1
    | succ k => simp at h
  have dY2 : va_D (lwA s) (conc cA [q1] [oY]) := by
    rw [eY]
    refine ⟨fun i j x y h1 h2 _ => ?_, fun k q h => ?_⟩
    · have a1 := (List.getElem?_eq_some_iff.mp h1).1
      have a2 := (List.getElem?_eq_some_iff.mp h2).1
      simp only [List.length_cons, List.length_nil] at a1 a2
      omega
    · cases k with
      | zero => cases h; exact hD2.2 hX0.length _ at1
      | succ k => simp at h
  have dis : ∀ q, q ∈ [q1] → q ∉ adX := fun q h1 h2 => by
    have hq : q = q1 := by simpa using h1
    subst hq
    obtain ⟨k, e9, h9⟩ := (conc_ad (cA := cA) lX).mp h2
    have := hD2.1 k hX0.length _ _ (atX k _ h9) at1 rfl
    have h8 := (List.getElem?_eq_some_iff.mp h9).1
    rw [lc] at h8
    omega
  refine lv_dup hx hb (cdOk_spec tk_0 11 _ rfl) rfl ?_
  have mY := mt_ok (k := 103) (M := mX7_init) rfl
  have hpre := ct_pre (as := [.ref 0]) pY2 dY2 hK hxN
  refine law_call (adU := [q1]) (adV := adX) (hu := [oY]) (hv := hX0) (Q' := fun v2 hp2 => v2 = none ∧ hp2 = hY0) rfl lX pX2 dY2 dis hS (va_runI (Ts := tb) (n := 0) (b := q1) (As := []) (rest := [.ref q1]) ⟨hx, hb, hml, hown, htb⟩ (ctY0 l D cA [q1] H2.size rfl) ⟨callB_of (R := room_1) (ret := none) 0 htb (mw_good mY.1) rfl rfl rfl (htb _ mY.1.2.1) (htb (.methodLink R_law 12 mX7_init.y) (chkW_in (i := 765) (by decide +kernel))) ⟨mY.1.2.2.1.1, mY.1.2.2.1.2, mY.2.trans rfl⟩ (law_room mY.1), rfl, htb (.instanceMethod mX7_init.y) (chkW_in (i := 766) (by decide +kernel))⟩ hpre rfl rfl hl.1 rfl (lv_room (Nat.le_of_ble_eq_true rfl)) (cdOk_spec tk_0 12 _ rfl) ⟨Nat.le_of_ble_eq_true rfl, Nat.le_of_ble_eq_true rfl⟩) (fun v hu' y' H3 locs3 hq lY pY pX3 dY hdis2 hS => ?_)
  obtain ⟨rfl, rfl⟩ := hq
  refine lv_astore_n (lv' := [(2, .ref q1), (1, .ref q0), (0, .ref b)]) hx hb (cdOk_spec tk_0 15 _ rfl) rfl hl (by decide) rfl (fun ls hl => ?_)
  refine lv_iconst (v := 0) hx hb (cdOk_spec tk_0 16 _ rfl) (by decide) ?_
  refine lv_istore_n (lv' := [(3, .int 0), (2, .ref q1), (1, .ref q0), (0, .ref b)]) hx hb (cdOk_spec tk_0 17 _ rfl) rfl hl (by decide) rfl (fun ls hl => ?_)
  exact LW_loop hL p l e s m below meth c D cA adX ([q1] ++ y') H3 locs3 ls C0 hK hxN lX lY gX rfl pX3 pY dX2 dY (fun q h1 h2 => hdis2 q h2 h1) hS (lv_sub hl [3, 2, 1, 0] rfl)
