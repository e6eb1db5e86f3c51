/-! ===== numbers, states written out before they are handed on: for the kernel's sake alone ===== -/
section FRC
variable {β : Type}
def frN (n : Nat) (k : Nat → β) : β := match n with
  | 0 => k 0
  | m + 1 => k (m + 1)
theorem frN_eq (n : Nat) (k : Nat → β) : frN n k = k n := by cases n <;> rfl
def frI (n : Int) (k : Int → β) : β := match n with
  | .ofNat m => frN m (fun m => k (.ofNat m))
  | .negSucc m => frN m (fun m => k (.negSucc m))
theorem frI_eq (n : Int) (k : Int → β) : frI n k = k n := by cases n <;> simp only [frI, frN_eq]
def frP (b : Int × Int) (k : Int × Int → β) : β := match b with
  | (x, y) => frI x (fun x => frI y (fun y => k (x, y)))
theorem frP_eq (b : Int × Int) (k : Int × Int → β) : frP b k = k b := by obtain ⟨x, y⟩ := b; simp only [frP, frI_eq]
def frA (n : AN) (k : AN → β) : β := match n with
  | (none, c) => frI c (fun c => k (none, c))
  | (some j, c) => frN j (fun j => frI c (fun c => k (some j, c)))
theorem frA_eq (n : AN) (k : AN → β) : frA n k = k n := by
  obtain ⟨x, y⟩ := n
  cases x <;> simp only [frA, frI_eq, frN_eq]
def frV (a : AVa) (k : AVa → β) : β := match a with
  | .inl n => frA n (fun n => k (.inl n))
  | .inr (.inl r) => frN r (fun r => k (.inr (.inl r)))
  | .inr (.inr none) => k (.inr (.inr none))
  | .inr (.inr (some c)) => frA c (fun c => k (.inr (.inr (some c))))
theorem frV_eq (a : AVa) (k : AVa → β) : frV a k = k a := by
  match a with
  | .inl n => simp only [frV, frA_eq]
  | .inr (.inl r) => simp only [frV, frN_eq]
  | .inr (.inr none) => rfl
  | .inr (.inr (some c)) => simp only [frV, frA_eq]
def frO (a : Option AVa) (k : Option AVa → β) : β := match a with
  | none => k none
  | some v => frV v (fun v => k (some v))
theorem frO_eq (a : Option AVa) (k : Option AVa → β) : frO a k = k a := by cases a <;> simp only [frO, frV_eq]
end FRC
def frLs {α β : Type} (f : α → (α → β) → β) : List α → (List α → β) → β
  | [], k => k []
  | a :: l, k => f a (fun a => frLs f l (fun l => k (a :: l)))
theorem frLs_eq {α β : Type} {f : α → (α → β) → β} (hf : ∀ a k, f a k = k a) : ∀ (l : List α) (k : List α → β), frLs f l k = k l
  | [], _ => rfl
  | a :: l, k => by simp only [frLs, hf, frLs_eq hf l]
section FRC2
variable {β : Type}
def frC (c : ACa) (k : ACa → β) : β := match c with
  | .inl q => k (.inl q)
  | .inr (.inl (ty, ns)) => frLs frA ns (fun ns => k (.inr (.inl (ty, ns))))
  | .inr (.inr (.inl rs)) => k (.inr (.inr (.inl rs)))
  | .inr (.inr (.inr (ci, fa))) => frLs frV fa (fun fa => k (.inr (.inr (.inr (ci, fa)))))
theorem frC_eq (c : ACa) (k : ACa → β) : frC c k = k c := by
  match c with
  | .inl q => rfl
  | .inr (.inl (ty, ns)) => simp only [frC, frLs_eq frA_eq]
  | .inr (.inr (.inl rs)) => rfl
  | .inr (.inr (.inr (ci, fa))) => simp only [frC, frLs_eq frV_eq]
def frB (B : BD) (k : BD → β) : β := frLs frP B k
theorem frB_eq (B : BD) (k : BD → β) : frB B k = k B := frLs_eq frP_eq B k
/-- only where a step makes names or bounds -/
def frBi (b : Bool) (B : BD) (k : BD → β) : β := match b with
  | true => frB B k
  | false => k B
theorem frBi_eq (b : Bool) (B : BD) (k : BD → β) : frBi b B k = k B := by cases b <;> simp only [frBi, frB_eq]
def frS (s : List AVa) (k : List AVa → β) : β := frLs frV s k
theorem frS_eq (s : List AVa) (k : List AVa → β) : frS s k = k s := frLs_eq frV_eq s k
def frT (s : List (Option AVa)) (k : List (Option AVa) → β) : β := frLs frO s k
theorem frT_eq (s : List (Option AVa)) (k : List (Option AVa) → β) : frT s k = k s := frLs_eq frO_eq s k
def frTi (b : Bool) (s : List (Option AVa)) (k : List (Option AVa) → β) : β := match b with
  | true => frT s k
  | false => k s
theorem frTi_eq (b : Bool) (s : List (Option AVa)) (k : List (Option AVa) → β) : frTi b s k = k s := by cases b <;> simp only [frTi, frT_eq]
def frH (h : AHa) (k : AHa → β) : β := frLs frC h k
theorem frH_eq (h : AHa) (k : AHa → β) : frH h k = k h := frLs_eq frC_eq h k
def frHi (b : Bool) (h : AHa) (k : AHa → β) : β := match b with
  | true => frH h k
  | false => k h
theorem frHi_eq (b : Bool) (h : AHa) (k : AHa → β) : frHi b h k = k h := by cases b <;> simp only [frHi, frH_eq]
end FRC2
def chB (i : Instr) : Bool := match i with
  | .iadd => true
  | .isub => true
  | .imul => true
  | .iand => true
  | .ior => true
  | .ixor => true
  | .ishl => true
  | .ishr => true
  | .iushr => true
  | .iinc _ _ => true
  | .ineg => true
  | .i2b => true
  | .i2s => true
  | .lcmp => true
  | .ladd => true
  | .lshl => true
  | .lsub => true
  | .lmul => true
  | .iaload => true
  | .baload => true
  | .idiv => true
  | .irem => true
  | _ => false
def chL (i : Instr) : Bool := match i with
  | .istore_n _ => true
  | .istore _ => true
  | .lstore_n _ => true
  | .lstore _ => true
  | .astore_n _ => true
  | .astore _ => true
  | .iinc _ _ => true
  | _ => false
def chH (i : Instr) : Bool := match i with
  | .putfield _ => true
  | .iastore => true
  | .bastore => true
  | _ => false

