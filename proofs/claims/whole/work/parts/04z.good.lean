/-! the good words of the tables; methods; what calls ask -/
abbrev ZM : Type := MethodName × ByteArray × Nat × Option FieldType
def zgood : List Cond := lw_tbl.filter goodWord
theorem zgood_in {w : Cond} (i : Nat) (h : lw_tbl[i]? = some w) (hg : goodWord w = true) : w ∈ zgood := List.mem_filter.mpr ⟨List.mem_of_getElem? h, hg⟩
theorem zgood_ok {w : Cond} (h : w ∈ zgood) : w ∈ zgood ∧ ((w.onTables && w.keeps) = true ∨ ∃ ty, w = .arrayClass ty) := ⟨h, good_of_word (List.mem_filter.mp h).2⟩
def zws (M : ZM) : List Cond := .code M.1 M.2.1 M.2.2.1 M.2.2.2 :: zgood
/-- the words that say that an object of one class may stand for another's -/
def zisc (w : Cond) : Bool := match w with
  | .castable _ _ => true
  | .declares _ => true
  | _ => false
def zcast : List Cond := lw_tbl.filter zisc
theorem zcast_of {w : Cond} (h : w ∈ zcast) : (∃ C T : String, w = .castable C T) ∨ ∃ x : MethodName, w = .declares x := by
  have h1 := (List.mem_filter.mp h).2
  cases w <;> first | exact Or.inl ⟨_, _, rfl⟩ | exact Or.inr ⟨_, rfl⟩ | cases h1
theorem zcast_on {w : Cond} (h : w ∈ zcast) : w.onTables = true := by
  rcases zcast_of h with ⟨C, T, rfl⟩ | ⟨x, rfl⟩ <;> rfl
theorem zcast_warm {w : Cond} (h : w ∈ zcast) {s U : State} (hW : s.WarmedH U.vm) (hz : va_Nw w s) : va_Nw w U := by
  rcases zcast_of h with ⟨C, T, rfl⟩ | ⟨x, rfl⟩
  · exact va_Nw.warmC hW hz
  · exact va_Nw.warmD hW hz
theorem zcast_in {w : Cond} (i : Nat) (h : lw_tbl[i]? = some w) (hg : zisc w = true) : w ∈ zcast := List.mem_filter.mpr ⟨List.mem_of_getElem? h, hg⟩
/-- what a call of Y asks of the tables -/
def zcV (Y : ZM) (n : Nat) : Prop := (∀ w ∈ ([.instanceMethod Y.1, .selects Y.1.cls Y.1 Y.1, .initialized Y.1.cls, .code Y.1 Y.2.1 Y.2.2.1 Y.2.2.2] : List Cond), w ∈ zgood) ∧ (Y.1.cls ≠ "java/lang/invoke/MethodHandle" ∧ Y.1.cls ≠ "java/lang/invoke/VarHandle" ∧ (parseMethodDescriptor Y.1.desc).map (fun d => d.parameters.length) = some n) ∧ Y.2.2.1 ≤ 21
def zcS (Y : ZM) (n : Nat) : Prop := (∀ w ∈ ([.static Y.1, .initialized Y.1.cls, .code Y.1 Y.2.1 Y.2.2.1 Y.2.2.2] : List Cond), w ∈ zgood) ∧ (Y.1.cls ≠ "java/lang/invoke/MethodHandle" ∧ Y.1.cls ≠ "java/lang/invoke/VarHandle" ∧ (parseMethodDescriptor Y.1.desc).map (fun d => d.parameters.length) = some n) ∧ Y.2.2.1 ≤ 21
def zcI (Y : ZM) (n : Nat) : Prop := (∀ w ∈ ([.instanceMethod Y.1, .initialized Y.1.cls, .code Y.1 Y.2.1 Y.2.2.1 Y.2.2.2] : List Cond), w ∈ zgood) ∧ (Y.1.cls ≠ "java/lang/invoke/MethodHandle" ∧ Y.1.cls ≠ "java/lang/invoke/VarHandle" ∧ (parseMethodDescriptor Y.1.desc).map (fun d => d.parameters.length) = some n) ∧ Y.2.2.1 ≤ 21 ∧ Y.1.name = "<init>" ∧ Y.2.2.2 = none
/-- classes by their number in vwCl -/
def zC (ci : Nat) : String := (vwCl.getD ci (RJx4a65c, TJx4a65c, 3)).1
def zT (ci : Nat) : u_T := (vwCl.getD ci (RJx4a65c, TJx4a65c, 3)).2.1
def zN (ci : Nat) : Nat := (vwCl.getD ci (RJx4a65c, TJx4a65c, 3)).2.2
