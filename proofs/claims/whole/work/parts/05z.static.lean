/-! what is known of String constants, of further statics, and of classes that are no subclasses -/
/-- the texts of the String constants: thing zp 1000 k is the k-th; its bytes are thing zp (3840 + k) 0 -/
def zstx : List String := ["need fee back years risk see", "deed photo consent both oldbook report ticket change", "if", "not", "age wanted valid abroad first renew lost second urgent", "and", "or", "AAAAOOOOUUSAANNEEEECC", "EEEEEEEEEESAA        ", "need", "fee", "years", "risk", "see", "back", "deed", "photo", "consent", "both", "oldbook", "report", "ticket", "change", "age", "wanted", "valid", "abroad", "first", "renew", "lost", "second", "urgent"]
/-- who names which: the class, the entry, the text, its number -/
def zsrf : List (String × Nat × String × Nat) := [(RX3, 75, "need fee back years risk see", 0), (RX3, 96, "deed photo consent both oldbook report ticket change", 1), (RX3, 83, "if", 2), (RX3, 108, "not", 3), (RX3, 114, "age wanted valid abroad first renew lost second urgent", 4), (RX3, 106, "and", 5), (RX3, 101, "or", 6), (RX5, 43, "AAAAOOOOUUSAANNEEEECC", 7), (RX5, 50, "EEEEEEEEEESAA        ", 8), (RX12, 291, "need", 9), (RX12, 293, "fee", 10), (RX12, 295, "years", 11), (RX12, 297, "risk", 12), (RX12, 299, "see", 13), (RX12, 301, "back", 14), (RX12, 238, "deed", 15), (RX12, 240, "photo", 16), (RX12, 242, "consent", 17), (RX12, 244, "both", 18), (RX12, 246, "oldbook", 19), (RX12, 248, "report", 20), (RX12, 250, "ticket", 21), (RX12, 252, "change", 22), (RX12, 306, "if", 2), (RX12, 265, "not", 3), (RX12, 220, "age", 23), (RX12, 222, "wanted", 24), (RX12, 224, "valid", 25), (RX12, 226, "abroad", 26), (RX12, 228, "first", 27), (RX12, 230, "renew", 28), (RX12, 232, "lost", 29), (RX12, 234, "second", 30), (RX12, 236, "urgent", 31), (RX12, 284, "and", 5), (RX12, 289, "or", 6)]
def zncs : List (String × String) := [("java/lang/IndexOutOfBoundsException", "java/lang/IllegalArgumentException"), ("java/lang/IndexOutOfBoundsException", "java/lang/UnsupportedOperationException"), ("java/lang/IndexOutOfBoundsException", "java/lang/IllegalStateException"), ("java/lang/IndexOutOfBoundsException", "java/util/NoSuchElementException"), ("java/lang/IllegalArgumentException", "java/lang/IndexOutOfBoundsException"), ("java/lang/IllegalArgumentException", "java/lang/UnsupportedOperationException"), ("java/lang/IllegalArgumentException", "java/lang/IllegalStateException"), ("java/lang/IllegalArgumentException", "java/util/NoSuchElementException"), ("java/lang/UnsupportedOperationException", "java/lang/IndexOutOfBoundsException"), ("java/lang/UnsupportedOperationException", "java/lang/IllegalArgumentException"), ("java/lang/UnsupportedOperationException", "java/lang/IllegalStateException"), ("java/lang/UnsupportedOperationException", "java/util/NoSuchElementException"), ("java/lang/IllegalStateException", "java/lang/IndexOutOfBoundsException"), ("java/lang/IllegalStateException", "java/lang/IllegalArgumentException"), ("java/lang/IllegalStateException", "java/lang/UnsupportedOperationException"), ("java/lang/IllegalStateException", "java/util/NoSuchElementException"), ("java/util/NoSuchElementException", "java/lang/IndexOutOfBoundsException"), ("java/util/NoSuchElementException", "java/lang/IllegalArgumentException"), ("java/util/NoSuchElementException", "java/lang/UnsupportedOperationException"), ("java/util/NoSuchElementException", "java/lang/IllegalStateException")]
/-- the words that say that an object of one class may stand for another's -/
def zisc (w : Cond) : Bool := match w with
  | .castable _ _ => true
  | _ => false
def zcast : List Cond := lw_tbl.filter zisc
theorem zcast_of {w : Cond} (h : w ∈ zcast) : ∃ C T : String, w = .castable C T := by
  have h1 := (List.mem_filter.mp h).2
  cases w <;> first | exact ⟨_, _, rfl⟩ | cases h1
theorem zcast_in {w : Cond} (i : Nat) (h : lw_tbl[i]? = some w) (hg : zisc w = true) : w ∈ zcast := List.mem_filter.mpr ⟨List.mem_of_getElem? h, hg⟩
def ZS2 (E : ZE) (U : State) (H : Heap) : Prop :=
  (∀ k, k < 32 → va_O "java/lang/String" (E.2.2.2 (zp 1000 k)) (fun q => E.2.2.1 ≤ q) U H ∧ va_OF "java/lang/String" "coder" "B" (.int 0) (E.2.2.2 (zp 1000 k)) (fun q => E.2.2.1 ≤ q) U H ∧ va_OF "java/lang/String" "value" "[B" (.ref (E.2.2.2 (zp (3840 + k) 0))) (E.2.2.2 (zp 1000 k)) (fun q => E.2.2.1 ≤ q) U H) ∧
  (∀ x ∈ zsrf, vk_R x.1 x.2.1 x.2.2.1 (E.2.2.2 (zp 1000 x.2.2.2)) U) ∧ va_Z "java/lang/String" "COMPACT_STRINGS" "Z" (.int 1) (fun q => E.2.2.1 ≤ q) U H ∧
  (va_Z "jdk/internal/util/Preconditions" "SIOOBE_FORMATTER" "Ljava/util/function/BiFunction;" .null (fun q => E.2.2.1 ≤ q) U H ∨ va_Z "jdk/internal/util/Preconditions" "SIOOBE_FORMATTER" "Ljava/util/function/BiFunction;" (.ref (E.2.2.2 (zp 1002 0))) (fun q => E.2.2.1 ≤ q) U H) ∧
  (∀ x ∈ zncs, va_Nc x.1 x.2 U) ∧ (∀ w ∈ zcast, va_Nw w U) ∧ va_AO "java/lang/Object" U
theorem ZS2.go {E : ZE} {s U : State} {H H1 : Heap} (hW : s.WarmedH U.vm) (hq : ∀ a : Nat, a < H.size → ¬ E.2.2.1 ≤ a → H1[a]? = H[a]?) (h : ZS2 E s H) : ZS2 E U H1 := by
  obtain ⟨h1, h2, h3, h4, h5, h6, h7⟩ := h
  refine ⟨fun k hk => ⟨va_O.moved hW.alike ((h1 k hk).1.kept hq), va_OF.moved hW.alike ((h1 k hk).2.1.kept hq), va_OF.moved hW.alike ((h1 k hk).2.2.kept hq)⟩, fun x hx => (h2 x hx).warm hW, va_Z.moved hW.alike (h3.kept hq), ?_, fun x hx => (h5 x hx).moved hW.alike, fun w hw => by
    obtain ⟨C, T, rfl⟩ := zcast_of hw
    exact va_Nw.warmC hW (h6 _ hw), va_AO.moved hW.alike h7⟩
  rcases h4 with h4 | h4
  · exact Or.inl (va_Z.moved hW.alike (h4.kept hq))
  · exact Or.inr (va_Z.moved hW.alike (h4.kept hq))
