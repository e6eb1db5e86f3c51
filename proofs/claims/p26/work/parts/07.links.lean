/-! ===== links by their tables ===== -/
theorem lk_mem {α : Type} {l : List (Nat × α)} {i : Nat} {v : α} (h : l.lookup i = some v) : (i, v) ∈ l := by
  induction l with
  | nil => cases h
  | cons q l ih =>
    obtain ⟨a, b⟩ := q
    rw [List.lookup_cons] at h
    split at h
    · rename_i hb
      have : i = a := by simpa using hb
      subst this
      cases h
      exact List.mem_cons_self
    · exact List.mem_cons_of_mem _ (ih h)
theorem tab_row {α : Type} {L : List (List (Nat × α))} {B : Nat → Nat × α → Bool} {n : Nat} (hall : (List.range n).all (fun cn => (L.getD cn []).all (B cn)) = true) (hlen : L.length ≤ n) {cn i : Nat} {v : α} (h : (L.getD cn []).lookup i = some v) : B cn (i, v) = true := by
  have hcn : cn < n := by
    rcases Nat.lt_or_ge cn L.length with q | q
    · omega
    · rw [List.getD_eq_getElem?_getD, List.getElem?_eq_none q] at h; cases h
  exact List.all_eq_true.mp (List.all_eq_true.mp hall cn (List.mem_range.mpr hcn)) _ (lk_mem h)
def fRowB (cn : Nat) (e : Nat × Nat × Nat × Nat) : Bool := match fW cn e.1 e.2.1 e.2.2.1 with
  | some w => chkW e.2.2.2 w
  | none => false
set_option maxRecDepth 100000 in
theorem frB_ok : (List.range 11).all (fun cn => (frL.getD cn []).all (fRowB cn)) = true := by decide +kernel
def fRes (cn idx : Nat) : Option (Nat × Nat × Nat) := (frL.getD cn []).lookup idx
def mRowB (cn : Nat) (e : Nat × Nat × Nat × Nat × Nat × Nat) : Bool :=
  if e.2.1 = 5 then chkW e.2.2.2.1 (.methodLink (cnm cn) e.1 Lib.objectInit) && (chkW e.2.2.2.2.1 (.instanceMethod Lib.objectInit) && chkW e.2.2.2.2.2 (.code Lib.objectInit ⟨#[0xb1]⟩ 1 none))
  else if e.2.1 = 6 then chkW e.2.2.2.1 (.methodLink (cnm cn) e.1 arraycopyName) && (chkW e.2.2.2.2.1 (.native arraycopyName) && chkW e.2.2.2.2.2 (.static arraycopyName))
  else if e.2.1 = 7 then chkW e.2.2.2.1 (.methodLink (cnm cn) e.1 Lib.Math.min.name) && (chkW e.2.2.2.2.1 (.static Lib.Math.min.name) && chkW e.2.2.2.2.2 (.code Lib.Math.min.name Lib.Math.min.code 2 (some .int)))
  else if e.2.1 = 8 then chkW e.2.2.2.1 (.methodLink (cnm cn) e.1 Lib.Math.max.name) && (chkW e.2.2.2.2.1 (.static Lib.Math.max.name) && chkW e.2.2.2.2.2 (.code Lib.Math.max.name Lib.Math.max.code 2 (some .int)))
  else match mtL[e.2.2.1]? with
  | none => false
  | some N =>
    if e.2.1 = 0 then chkW e.2.2.2.1 (.methodLink (cnm cn) e.1 N.y) && chkW e.2.2.2.2.1 (.static N.y)
    else if e.2.1 = 1 then chkN e.2.2.2.1 (.methodLinkNest (cnm cn) e.1 N.y "PromiseTailor") && chkW e.2.2.2.2.1 (.static N.y)
    else if e.2.1 = 2 then chkW e.2.2.2.1 (.methodLink (cnm cn) e.1 N.y) && (chkW e.2.2.2.2.1 (.instanceMethod N.y) && chkW e.2.2.2.2.2 (.selects N.y.cls N.y N.y))
    else if e.2.1 = 3 then chkW e.2.2.2.1 (.methodLink (cnm cn) e.1 N.y) && (chkW e.2.2.2.2.1 (.instanceMethod N.y) && (decide (N.rt = none) && decide (N.y.name = "<init>")))
    else if e.2.1 = 4 then chkN e.2.2.2.1 (.methodLinkNest (cnm cn) e.1 N.y "PromiseTailor") && (chkW e.2.2.2.2.1 (.instanceMethod N.y) && (decide (N.rt = none) && decide (N.y.name = "<init>")))
    else false
def mRes (cn idx : Nat) : Option (Nat × Nat × Nat × Nat × Nat) := (mrL.getD cn []).lookup idx
def ciRowB (cn : Nat) (e : Nat × Int32 × Nat) : Bool := chkW e.2.2 (.constant (cnm cn) e.1 e.2.1)
def clRowB (cn : Nat) (e : Nat × Int64 × Nat) : Bool := chkW e.2.2 (.constantLong (cnm cn) e.1 e.2.1)
set_option maxRecDepth 100000 in
theorem ciB_ok : (List.range 11).all (fun cn => (ciL.getD cn []).all (ciRowB cn)) = true := by decide +kernel
set_option maxRecDepth 100000 in
theorem clB_ok : (List.range 11).all (fun cn => (clL.getD cn []).all (clRowB cn)) = true := by decide +kernel
def ciRes (cn idx : Nat) : Option (Int32 × Nat) := (ciL.getD cn []).lookup idx
def clRes (cn idx : Nat) : Option (Int64 × Nat) := (clL.getD cn []).lookup idx
theorem ciRes_ok {cn idx w : Nat} {v : Int32} (h : ciRes cn idx = some (v, w)) : Cond.constant (cnm cn) idx v ∈ tb := chkW_in (tab_row ciB_ok (by decide) h)
theorem clRes_ok {cn idx w : Nat} {v : Int64} (h : clRes cn idx = some (v, w)) : Cond.constantLong (cnm cn) idx v ∈ tb := chkW_in (tab_row clB_ok (by decide) h)
def nwRowB (cn : Nat) (e : Nat × Nat × Nat × Nat × Nat) : Bool := match clsL[e.2.1]? with
  | some (C, _, N) => chkW e.2.2.1 (.classLink (cnm cn) e.1 C) && (chkW e.2.2.2.1 (.instantiable C N) && chkW e.2.2.2.2 (.initialized C))
  | none => false
set_option maxRecDepth 100000 in
theorem nwB_ok : (List.range 11).all (fun cn => (nwL.getD cn []).all (nwRowB cn)) = true := by decide +kernel
def nwRes (cn idx : Nat) : Option (Nat × Nat × Nat × Nat) := (nwL.getD cn []).lookup idx
def mnRowB (cn : Nat) (e : Nat × Nat) : Bool := chkW e.2 (.classLink (cnm cn) e.1 "[[I")
set_option maxRecDepth 100000 in
theorem mnB_ok : (List.range 11).all (fun cn => (mnL.getD cn []).all (mnRowB cn)) = true := by decide +kernel
def mnRes (cn idx : Nat) : Option Nat := (mnL.getD cn []).lookup idx
set_option maxRecDepth 100000 in
theorem wOver_in : Cond.arrayOver (.array .int) ∈ lw_tbl := chkN_in (i := wOver) (by decide +kernel)
set_option maxRecDepth 100000 in
theorem wArrI_in : Cond.arrayClass .int ∈ tb := chkW_in (i := wArrI) (by decide +kernel)
set_option maxRecDepth 100000 in
theorem wArrZ_in : Cond.arrayClass .boolean ∈ tb := chkW_in (i := wArrZ) (by decide +kernel)
set_option maxRecDepth 100000 in
theorem wSys_in : Cond.initialized "java/lang/System" ∈ tb := chkW_in (i := wSys) (by decide +kernel)
set_option maxRecDepth 100000 in
theorem wMath_in : Cond.initialized "java/lang/Math" ∈ tb := chkW_in (i := wMath) (by decide +kernel)
/-! a field is its class's own -/
def declB (ci : Nat) : Bool := match clsL[ci]? with
  | some (_, T, N) => (List.range N).all (fun sl => decide ((T sl).1 = cnm ci))
  | none => true
set_option maxRecDepth 100000 in
theorem declB_ok : (List.range 8).all declB = true := by decide +kernel
theorem decl_own {ci N sl : Nat} {C : String} {T : u_T} (h : clsL[ci]? = some (C, T, N)) (hs : sl < N) : (T sl).1 = cnm ci := by
  have hci : ci < 8 := by
    have h1 := (List.getElem?_eq_some_iff.mp h).1
    have h2 : clsL.length = 8 := rfl
    omega
  have := List.all_eq_true.mp declB_ok ci (List.mem_range.mpr hci)
  unfold declB at this
  rw [h] at this
  simpa using List.all_eq_true.mp this sl (List.mem_range.mpr hs)
set_option maxRecDepth 100000 in
theorem mr_0 : (mrL.getD 0 []).all (mRowB 0) = true := by decide +kernel
set_option maxRecDepth 100000 in
theorem mr_1 : (mrL.getD 1 []).all (mRowB 1) = true := by decide +kernel
set_option maxRecDepth 100000 in
theorem mr_2 : (mrL.getD 2 []).all (mRowB 2) = true := by decide +kernel
set_option maxRecDepth 100000 in
theorem mr_3 : (mrL.getD 3 []).all (mRowB 3) = true := by decide +kernel
set_option maxRecDepth 100000 in
theorem mr_4 : (mrL.getD 4 []).all (mRowB 4) = true := by decide +kernel
set_option maxRecDepth 100000 in
theorem mr_5 : (mrL.getD 5 []).all (mRowB 5) = true := by decide +kernel
set_option maxRecDepth 100000 in
theorem mr_6 : (mrL.getD 6 []).all (mRowB 6) = true := by decide +kernel
set_option maxRecDepth 100000 in
theorem mr_7 : (mrL.getD 7 []).all (mRowB 7) = true := by decide +kernel
set_option maxRecDepth 100000 in
theorem mr_8 : (mrL.getD 8 []).all (mRowB 8) = true := by decide +kernel
set_option maxRecDepth 100000 in
theorem mr_9 : (mrL.getD 9 []).all (mRowB 9) = true := by decide +kernel
set_option maxRecDepth 100000 in
theorem mr_10 : (mrL.getD 10 []).all (mRowB 10) = true := by decide +kernel
theorem mrB_all : ∀ cn, cn < 11 → (mrL.getD cn []).all (mRowB cn) = true
  | 0, _ => mr_0
  | 1, _ => mr_1
  | 2, _ => mr_2
  | 3, _ => mr_3
  | 4, _ => mr_4
  | 5, _ => mr_5
  | 6, _ => mr_6
  | 7, _ => mr_7
  | 8, _ => mr_8
  | 9, _ => mr_9
  | 10, _ => mr_10
  | n + 11, h => absurd h (by omega)
theorem mrB_ok {cn idx : Nat} {e : Nat × Nat × Nat × Nat × Nat} (h : mRes cn idx = some e) : mRowB cn (idx, e) = true := by
  refine tab_row (n := 11) (L := mrL) (B := mRowB) (List.all_eq_true.mpr (fun cn hcn => mrB_all cn (List.mem_range.mp hcn))) (by decide) h
