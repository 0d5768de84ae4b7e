/-! numbers of things; the order at a desk -/
def nA (S : ZS9) : Nat := (S 416 66).toNatClampNeg
def nP (S : ZS9) : Nat := (S 416 34).toNatClampNeg
def nB (S : ZS9) : Nat := (S 416 71).toNatClampNeg
def nT (S : ZS9) : Nat := (S 416 52).toNatClampNeg
def pn (S : ZS9) (a : Nat) : Nat := (S 1153 a).toNatClampNeg
/-- what the days need of the reference's numbers -/
def RI (S : ZS9) : Prop :=
  (S 416 66 = Int32.ofNat (nA S) ∧ nA S ≤ 120) ∧ (S 416 34 = Int32.ofNat (nP S) ∧ nP S ≤ 80) ∧ (S 416 71 = Int32.ofNat (nB S) ∧ nB S ≤ 150) ∧ (S 416 52 = Int32.ofNat (nT S) ∧ nT S ≤ 20) ∧
  (∀ a, a < nA S → S 1153 a = Int32.ofNat (pn S a) ∧ pn S a < nP S) ∧ ∀ a, S 2158 a = 0 ∨ S 2158 a = 1
noncomputable def zk1 (S : ZS9) (a : Nat) : Int := if S 2158 a = 0 then 1 else 0
noncomputable def zk2 (S : ZS9) (r : Int32) (a : Nat) : Int := if r = 0 then (S 1155 a).toInt else if r = 2 then @ite _ (rTicket S a) (Classical.propDecidable _) 0 1 else 0
noncomputable def zk3 (S : ZS9) (r : Int32) (a : Nat) : Int := if r = 0 then 0 else (S 1156 a).toInt
/-- a is ahead of b by rule r -/
def zlt (S : ZS9) (r : Int32) (a b : Nat) : Prop :=
  zk1 S a < zk1 S b ∨ (zk1 S a = zk1 S b ∧ (zk2 S r a < zk2 S r b ∨ (zk2 S r a = zk2 S r b ∧ (zk3 S r a < zk3 S r b ∨ (zk3 S r a = zk3 S r b ∧ a < b)))))
theorem zlt_irr {S : ZS9} {r : Int32} {a : Nat} : ¬ zlt S r a a := by unfold zlt; omega
theorem zlt_tr {S : ZS9} {r : Int32} {a b c : Nat} (h : zlt S r a b) (h2 : zlt S r b c) : zlt S r a c := by unfold zlt at *; omega
theorem zlt_tot {S : ZS9} {r : Int32} {a b : Nat} (h : ¬ zlt S r a b) (hn : a ≠ b) : zlt S r b a := by unfold zlt at *; omega
theorem zlt_as {S : ZS9} {r : Int32} {a b : Nat} (h : zlt S r a b) : ¬ zlt S r b a := by unfold zlt at *; omega
theorem zlt_cg {S S' : ZS9} {r : Int32} {a b : Nat} (h : ∀ t k, t = 2158 ∨ t = 1155 ∨ t = 1156 ∨ t = 1157 → S' t k = S t k) : zlt S' r a b ↔ zlt S r a b := by
  have e1 : ∀ a, zk1 S' a = zk1 S a := fun a => by unfold zk1; rw [h _ _ (by omega)]
  have e2 : ∀ a, zk2 S' r a = zk2 S r a := fun a => by
    have ht : rTicket S' a = rTicket S a := by unfold rTicket; rw [h _ _ (by omega)]
    unfold zk2; rw [h 1155 _ (by omega), ht]
  have e3 : ∀ a, zk3 S' r a = zk3 S r a := fun a => by unfold zk3; rw [h _ _ (by omega)]
  unfold zlt
  rw [e1, e1, e2, e2, e3, e3]
theorem q0 {S : ZS9} {c : Prop} (h : ¬ c) : rI (zb c) S (some (.int 0)) S := ⟨by rw [zbz h], rfl⟩
theorem q1 {S : ZS9} {c : Prop} (h : c) : rI (zb c) S (some (.int 1)) S := ⟨by rw [zb_t h], rfl⟩
theorem i_ti {x y : Int32} : x ≤ y ↔ x.toInt ≤ y.toInt := Int32.le_iff_toInt_le
theorem i_tl {x y : Int32} : x < y ↔ x.toInt < y.toInt := Int32.lt_iff_toInt_lt
theorem i_te {x y : Int32} : x = y ↔ x.toInt = y.toInt := Int32.toInt_inj.symm
section ZRc
variable {E : ZE} {l : Launch} {S : ZS9}
theorem r_isAhead {a b : Nat} {r : Int32} (ha : a < 120) (hb : b < 120) (hr : r = 0 ∨ r = 1 ∨ r = 2) (hu : ∀ a, S 2158 a = 0 ∨ S 2158 a = 1) : rMet E l mX12_isAhead 1 0 [.int (Int32.ofNat a), .int (Int32.ofNat b), .int r] S (rI (zb (zlt S r a b)) S) := by
  refine r_meth (by decide) (Nat.le_of_ble_eq_true rfl) (by simp [Value.category]) (fun G hK => rwpt_X12_isAhead_0 hK ?_); unfold rwp_X12_isAhead_0
  rw [n_nn (by omega), n_nn (by omega)]
  have va : vp_in (Int32.ofNat a) 120 := n_in ha (by omega)
  have vb : vp_in (Int32.ofNat b) 120 := n_in hb (by omega)
  have e86 : ∀ k, (zk1 S a = zk1 S b ∧ zk2 S r a = zk2 S r b) → zW E l mX12_isAhead 1 0 (zput G S) (rQ G (rI (zb (zlt S r a b)) S)) k 86 [some (.ref (zp 416 0)), some (.int (Int32.ofNat a)), some (.int (Int32.ofNat b)), some (.int r)] [] (zput G S) := by
    rintro k ⟨h1, h2⟩
    refine rwpt_X12_isAhead_86 hK ?_; unfold rwp_X12_isAhead_86
    rw [n_nn (by omega), n_nn (by omega), n_le (by omega) (by omega)]
    have ez : zlt S r a b ↔ (zk3 S r a < zk3 S r b ∨ (zk3 S r a = zk3 S r b ∧ a < b)) := by unfold zlt; omega
    by_cases h0 : r = 0
    · have e3 : ∀ c, zk3 S r c = 0 := fun c => if_pos h0
      rw [e3, e3] at ez
      refine it (by rw [h0]; decide) ⟨fun h => q0 ?_, fun h => q1 ?_⟩
      · rw [ez]; omega
      · rw [ez]; omega
    · have e3 : ∀ c, zk3 S r c = (S 1156 c).toInt := fun c => if_neg h0
      rw [e3, e3] at ez
      refine ie (by rcases hr with h | h | h <;> rw [h] <;> first | exact absurd h h0 | decide) ⟨va, vb, fun h => ⟨fun h3 => q0 ?_, fun h3 => q1 ?_⟩, fun h => ⟨va, vb, fun h3 => q0 ?_, fun h3 => q1 ?_⟩⟩
      · rw [ez, h]; omega
      · rw [ez, h]; omega
      · rw [i_te] at h; rw [i_ti] at h3; rw [ez]; omega
      · rw [i_ti] at h3; rw [ez]; omega
  have e62 : ∀ k, (zk1 S a = zk1 S b ∧ (r = 0 → zk2 S r a = zk2 S r b)) → zW E l mX12_isAhead 1 0 (zput G S) (rQ G (rI (zb (zlt S r a b)) S)) k 62 [some (.ref (zp 416 0)), some (.int (Int32.ofNat a)), some (.int (Int32.ofNat b)), some (.int r)] [] (zput G S) := by
    rintro k ⟨h1, h2⟩
    refine rwpt_X12_isAhead_62 hK ?_; unfold rwp_X12_isAhead_62
    by_cases hr2 : r = 2
    · have e2 : ∀ c, zk2 S r c = @ite _ (rTicket S c) (Classical.propDecidable _) 0 1 := fun c => by
        unfold zk2
        rw [if_neg (by rw [hr2]; decide), if_pos hr2]
      refine ie (nn hr2) (gI (r_hasTicket ha) (by decide) (gI (r_hasTicket hb) (by decide) ⟨fun h => e86 k ⟨h1, ?_⟩, fun h => gI (r_hasTicket ha) (by decide) ⟨zb_n, ?_⟩⟩))
      · rw [zb_inj] at h
        rw [e2, e2]
        by_cases ht : rTicket S a
        · rw [if_pos ht, if_pos (h.mp ht)]
        · rw [if_neg ht, if_neg (fun z => ht (h.mpr z))]
      · rw [zb_inj] at h
        refine ⟨?_, rfl⟩
        have : rTicket S a ↔ zlt S r a b := by
          unfold zlt
          rw [e2, e2]
          by_cases ht : rTicket S a <;> by_cases ht2 : rTicket S b
          · exact absurd ⟨fun _ => ht2, fun _ => ht⟩ h
          · rw [if_pos ht, if_neg ht2]
            exact ⟨fun _ => Or.inr ⟨h1, Or.inl (by decide)⟩, fun _ => ht⟩
          · rw [if_neg ht, if_pos ht2]
            exact ⟨fun z => absurd z ht, fun z => by omega⟩
          · exact absurd ⟨fun z => absurd z ht, fun z => absurd z ht2⟩ h
        rw [zb_if this]
    · refine it hr2 (e86 k ⟨h1, ?_⟩)
      by_cases h0 : r = 0
      · exact h2 h0
      · unfold zk2
        rw [if_neg h0, if_neg h0, if_neg hr2, if_neg hr2]
  refine ⟨va, vb, fun h => ?_, fun h => ⟨va, ?_⟩⟩
  · have h1 : zk1 S a = zk1 S b := by unfold zk1; rw [h]
    refine ⟨fun h0 => e62 _ ⟨h1, fun z => absurd z h0⟩, fun h0 => ⟨va, vb, fun h2 => e62 _ ⟨h1, fun z => ?_⟩, fun h2 => ⟨va, vb, fun h3 => q0 ?_, fun h3 => q1 ?_⟩⟩⟩
    · unfold zk2; rw [if_pos z, if_pos z, h2]
    · have z := Classical.not_not.mp h0
      unfold zlt zk2
      rw [if_pos z, if_pos z]
      rw [i_te] at h2; rw [i_ti] at h3
      omega
    · have z := Classical.not_not.mp h0
      unfold zlt zk2
      rw [if_pos z, if_pos z]
      rw [i_ti] at h3
      omega
  · rcases hu a with h1 | h1 <;> rcases hu b with h2 | h2
    · exact absurd (h1.trans h2.symm) h
    · rw [h1]
      refine ⟨by decide, q0 ?_⟩
      unfold zlt zk1
      rw [if_pos h1, if_neg (by rw [h2]; decide)]
      omega
    · rw [h1]
      refine ⟨by decide, q1 ?_⟩
      unfold zlt zk1
      rw [if_pos h2, if_neg (by rw [h1]; decide)]
      omega
    · exact absurd (h1.trans h2.symm) h
end ZRc
/-! lists in the array row -/
theorem lcat : ∀ (A : List Nat), A = [] ∨ ∃ A' a, A = A' ++ [a]
  | [] => Or.inl rfl
  | a :: A => by
    rcases lcat A with h | ⟨B, b, h⟩
    · exact Or.inr ⟨[], a, by rw [h]; rfl⟩
    · exact Or.inr ⟨a :: B, b, by rw [h]; rfl⟩
theorem llen1 (A : List Nat) (a : Nat) : (A ++ [a]).length = A.length + 1 := by rw [List.length_append]; rfl
def zat (L : List Nat) (k : Nat) : Nat := (L[k]?).getD 0
theorem zat_app (A B : List Nat) (k : Nat) : zat (A ++ B) k = if k < A.length then zat A k else zat B (k - A.length) := by
  unfold zat
  rw [List.getElem?_append]
  split <;> rfl
theorem zat_c0 (a : Nat) (B : List Nat) : zat (a :: B) 0 = a := rfl
theorem zat_cs (a : Nat) (B : List Nat) (k : Nat) : zat (a :: B) (k + 1) = zat B k := rfl
theorem zat_mem {L : List Nat} {k : Nat} (h : k < L.length) : zat L k ∈ L := by
  unfold zat
  rw [List.getElem?_eq_getElem h]
  exact List.getElem_mem h
def zrw (S : ZS9) (L : List Nat) : ZS9 := fun t k => if t = 1177 ∧ k < L.length then Int32.ofNat (zat L k) else if t = 416 ∧ k = 78 then Int32.ofNat L.length else S t k
noncomputable def zins (S : ZS9) (r : Int32) (a : Nat) : List Nat → List Nat
  | [] => [a]
  | b :: L => @ite _ (zlt S r a b) (Classical.propDecidable _) (a :: b :: L) (b :: zins S r a L)
/-- those of the first n in a state, in order -/
noncomputable def zline (S : ZS9) (r st : Int32) : Nat → List Nat
  | 0 => []
  | n + 1 => if S 1165 (7 * n + 0) = st then zins S r n (zline S r st n) else zline S r st n
theorem zins_mem {S : ZS9} {r : Int32} {a x : Nat} : ∀ {L : List Nat}, x ∈ zins S r a L ↔ x = a ∨ x ∈ L
  | [] => by simp [zins]
  | b :: L => by
    unfold zins
    by_cases h : zlt S r a b
    · rw [if_pos h]; simp
    · rw [if_neg h, List.mem_cons, zins_mem (L := L), List.mem_cons]
      constructor
      · rintro (h | h | h)
        · exact Or.inr (Or.inl h)
        · exact Or.inl h
        · exact Or.inr (Or.inr h)
      · rintro (h | h | h)
        · exact Or.inr (Or.inl h)
        · exact Or.inl h
        · exact Or.inr (Or.inr h)
theorem zins_len {S : ZS9} {r : Int32} {a : Nat} : ∀ {L : List Nat}, (zins S r a L).length = L.length + 1
  | [] => rfl
  | b :: L => by
    unfold zins
    by_cases h : zlt S r a b
    · rw [if_pos h]; rfl
    · rw [if_neg h, List.length_cons, zins_len (L := L), List.length_cons]
theorem zins_sort {S : ZS9} {r : Int32} {a : Nat} : ∀ {L : List Nat}, L.Pairwise (zlt S r) → a ∉ L → (zins S r a L).Pairwise (zlt S r)
  | [], _, _ => by simp [zins]
  | b :: L, h, hn => by
    have hb := List.pairwise_cons.mp h
    unfold zins
    by_cases hc : zlt S r a b
    · rw [if_pos hc]
      refine List.pairwise_cons.mpr ⟨fun x hx => ?_, h⟩
      rcases List.mem_cons.mp hx with rfl | hx
      · exact hc
      · exact zlt_tr hc (hb.1 x hx)
    · rw [if_neg hc]
      refine List.pairwise_cons.mpr ⟨fun x hx => ?_, zins_sort hb.2 (fun z => hn (List.mem_cons_of_mem _ z))⟩
      rcases zins_mem.mp hx with rfl | hx
      · exact zlt_tot hc (fun e => hn (by rw [e]; exact List.mem_cons_self))
      · exact hb.1 x hx
theorem zins_split {S : ZS9} {r : Int32} {a : Nat} : ∀ {A B : List Nat}, (∀ x ∈ A, ¬ zlt S r a x) → (∀ x ∈ B, zlt S r a x) → zins S r a (A ++ B) = A ++ a :: B
  | [], [], _, _ => rfl
  | [], b :: B, _, h => by
    show zins S r a (b :: B) = _
    unfold zins
    rw [if_pos (h b List.mem_cons_self)]; rfl
  | x :: A, B, h, h2 => by
    show zins S r a (x :: (A ++ B)) = _
    unfold zins
    rw [if_neg (h x List.mem_cons_self), zins_split (fun y hy => h y (List.mem_cons_of_mem _ hy)) h2]; rfl
theorem zline_mem {S : ZS9} {r st : Int32} {x : Nat} : ∀ {n : Nat}, x ∈ zline S r st n ↔ x < n ∧ S 1165 (7 * x + 0) = st
  | 0 => by simp [zline]
  | n + 1 => by
    unfold zline
    by_cases h : S 1165 (7 * n + 0) = st
    · rw [if_pos h, zins_mem, zline_mem]
      constructor
      · rintro (rfl | h1)
        · exact ⟨by omega, h⟩
        · exact ⟨by omega, h1.2⟩
      · rintro ⟨h1, h2⟩
        by_cases e : x = n
        · exact Or.inl e
        · exact Or.inr ⟨by omega, h2⟩
    · rw [if_neg h, zline_mem]
      constructor
      · rintro ⟨h1, h2⟩; exact ⟨by omega, h2⟩
      · rintro ⟨h1, h2⟩
        refine ⟨?_, h2⟩
        by_cases e : x = n
        · subst e; exact absurd h2 h
        · omega
theorem zline_sort {S : ZS9} {r st : Int32} : ∀ {n : Nat}, (zline S r st n).Pairwise (zlt S r)
  | 0 => List.Pairwise.nil
  | n + 1 => by
    unfold zline
    by_cases h : S 1165 (7 * n + 0) = st
    · rw [if_pos h]
      exact zins_sort zline_sort (fun z => by have := (zline_mem.mp z).1; omega)
    · rw [if_neg h]; exact zline_sort
theorem zline_len {S : ZS9} {r st : Int32} : ∀ {n : Nat}, (zline S r st n).length ≤ n
  | 0 => Nat.le_refl _
  | n + 1 => by
    have := zline_len (S := S) (r := r) (st := st) (n := n)
    unfold zline
    by_cases h : S 1165 (7 * n + 0) = st
    · rw [if_pos h, zins_len]; omega
    · rw [if_neg h]; omega
/-- a sorted row is known by what is in it -/
theorem zuniq {lt : Nat → Nat → Prop} (irr : ∀ a, ¬ lt a a) (asy : ∀ a b, lt a b → ¬ lt b a) : ∀ {L M : List Nat}, L.Pairwise lt → M.Pairwise lt → (∀ x, x ∈ L ↔ x ∈ M) → L = M
  | [], [], _, _, _ => rfl
  | [], b :: M, _, _, h => absurd ((h b).mpr List.mem_cons_self) (by simp)
  | a :: L, [], _, _, h => absurd ((h a).mp List.mem_cons_self) (by simp)
  | a :: L, b :: M, h1, h2, h => by
    have p1 := List.pairwise_cons.mp h1
    have p2 := List.pairwise_cons.mp h2
    have e : a = b := by
      rcases List.mem_cons.mp ((h a).mp List.mem_cons_self) with e | e
      · exact e
      · rcases List.mem_cons.mp ((h b).mpr List.mem_cons_self) with e2 | e2
        · exact e2.symm
        · exact absurd (p1.1 b e2) (asy _ _ (p2.1 a e))
    subst e
    rw [zuniq irr asy p1.2 p2.2 (fun x => ?_)]
    have hx := h x
    rw [List.mem_cons, List.mem_cons] at hx
    constructor
    · intro z
      rcases hx.mp (Or.inr z) with e | e
      · subst e; exact absurd (p1.1 _ z) (irr _)
      · exact e
    · intro z
      rcases hx.mpr (Or.inr z) with e | e
      · subst e; exact absurd (p2.1 _ z) (irr _)
      · exact e
theorem zrw_st (S : ZS9) (L : List Nat) {t k : Nat} (h : t ≠ 1177) (h2 : ¬ (t = 416 ∧ k = 78)) : zrw S L t k = S t k := by
  unfold zrw
  rw [if_neg (fun z => h z.1), if_neg h2]
def rSt (d : Nat) : Int32 := rStateAt (Int32.ofNat d)
section ZRd
variable {E : ZE} {l : Launch} {S : ZS9}
theorem r_lines {d n : Nat} {r : Int32} (hn : S 416 66 = Int32.ofNat n) (hl : n ≤ 120) (hr : r = 0 ∨ r = 1 ∨ r = 2) (hu : ∀ a, S 2158 a = 0 ∨ S 2158 a = 1) : rMet E l mX12_lines 2 0 [.int (Int32.ofNat d), .int r] S (rV (zrw S (zline S r (rSt d) n))) := by
  refine r_meth (by decide) (Nat.le_of_ble_eq_true rfl) (by simp [Value.category]) (fun G hK => rwpt_X12_lines_0 hK ?_); unfold rwp_X12_lines_0
  intro S1 e1
  have key : ∀ i, i ≤ n → ∀ S2 k, S2 = zrw S (zline S r (rSt d) i) → zW E l mX12_lines 2 0 (zput G S) (rQ G (rV (zrw S (zline S r (rSt d) n)))) k 7 [some (.ref (zp 416 0)), some (.int (Int32.ofNat d)), some (.int r), some (.int (Int32.ofNat i)), none] [] (zput G S2) := by
    refine zdown (fun S2 k e2 => ?_) (fun i hi ih S2 k e2 => ?_)
    · refine rwpt_X12_lines_7 hK ?_; unfold rwp_X12_lines_7
      exact it (by rw [e2, zrw_st _ _ (by omega) (by omega), hn, n_le (by omega) (by omega)]; omega) ⟨rfl, e2⟩
    · refine rwpt_X12_lines_7 hK ?_; unfold rwp_X12_lines_7
      refine ie (by rw [e2, zrw_st _ _ (by omega) (by omega), hn, n_le (by omega) (by omega)]; omega) (gI (r_now (a := i) (w := 0) (by omega)) (by decide) (sI (fun _ => s_stateAt _) (by decide) ?_))
      have e3 : S2 1165 (7 * i + 0) = S 1165 (7 * i + 0) := by rw [e2, zrw_st _ _ (by omega) (by omega)]
      rw [e3]
      show (S 1165 (7 * i + 0) = rSt d → _) ∧ (¬ S 1165 (7 * i + 0) = rSt d → _)
      refine ⟨fun h => ?_, fun h => ?_⟩
      · have hlen := zline_len (S := S) (r := r) (st := rSt d) (n := i)
        have hsort := zline_sort (S := S) (r := r) (st := rSt d) (n := i)
        have hlt : ∀ x ∈ zline S r (rSt d) i, x < i := fun x hx => (zline_mem.mp hx).1
        have hnew : zline S r (rSt d) (i + 1) = zins S r i (zline S r (rSt d) i) := by
          show (if _ then _ else _) = _
          rw [if_pos h]
        generalize hL : zline S r (rSt d) i = L at *
        -- the inner loop: the part A is still to be looked at, B has been moved up
        have inner : ∀ m (A B : List Nat), A.length = m → A ++ B = L → (∀ x ∈ B, zlt S r i x) → ∀ S3 k, (∀ j, j < A.length → S3 1177 j = Int32.ofNat (zat A j)) → (∀ j, j < B.length → S3 1177 (A.length + 1 + j) = Int32.ofNat (zat B j)) → (∀ j, A.length + B.length < j → S3 1177 j = S 1177 j) → (∀ t j, t ≠ 1177 → S3 t j = zrw S L t j) →
            zW E l mX12_lines 2 0 (zput G S) (rQ G (rV (zrw S (zline S r (rSt d) n)))) k 37 [some (.ref (zp 416 0)), some (.int (Int32.ofNat d)), some (.int r), some (.int (Int32.ofNat i)), some (.int (Int32.ofNat A.length))] [] (zput G S3) := by
          have fin : ∀ (A B : List Nat), A ++ B = L → (∀ x ∈ A, ¬ zlt S r i x) → (∀ x ∈ B, zlt S r i x) → ∀ S3 k, (∀ j, j < A.length → S3 1177 j = Int32.ofNat (zat A j)) → (∀ j, j < B.length → S3 1177 (A.length + 1 + j) = Int32.ofNat (zat B j)) → (∀ j, A.length + B.length < j → S3 1177 j = S 1177 j) → (∀ t j, t ≠ 1177 → S3 t j = zrw S L t j) →
              ∀ S4, S4 = zup S3 1177 (Int32.ofNat A.length).toNatClampNeg (Int32.ofNat i) → ∀ S5, S5 = zup S4 416 78 ((S4 416 78) + 1) →
              zW E l mX12_lines 2 0 (zput G S) (rQ G (rV (zrw S (zline S r (rSt d) n)))) k 7 [some (.ref (zp 416 0)), some (.int (Int32.ofNat d)), some (.int r), some (.int (Int32.ofNat i + 1)), none] [] (zput G S5) := by
            intro A B hAB hA hB S3 k g1 g2 g3 g4 S4 e4 S5 e5
            have hlAB : A.length + B.length = L.length := by rw [← hAB, List.length_append]
            rw [n_p1]
            refine ih S5 k ?_
            rw [hnew, ← hAB, zins_split hA hB]
            rw [n_nn (by omega)] at e4
            have hl9 : (A ++ i :: B).length = L.length + 1 := by rw [List.length_append, List.length_cons]; omega
            funext t j
            have hR : zrw S (A ++ i :: B) t j = if t = 1177 ∧ j < L.length + 1 then Int32.ofNat (zat (A ++ i :: B) j) else if t = 416 ∧ j = 78 then Int32.ofNat (L.length + 1) else S t j := by unfold zrw; rw [hl9]
            rw [e5, e4, hR]
            by_cases ht : t = 1177
            · subst ht
              rw [zup_ne (by omega)]
              by_cases hj : j < L.length + 1
              · rw [if_pos (show 1177 = 1177 ∧ j < L.length + 1 from ⟨rfl, hj⟩), zat_app]
                by_cases h1 : j < A.length
                · rw [zup_ne (by omega), if_pos h1, g1 j h1]
                · rw [if_neg h1]
                  by_cases h2 : j = A.length
                  · subst h2
                    rw [zup_s, Nat.sub_self, zat_c0]
                  · obtain ⟨j', rfl⟩ : ∃ j', j = A.length + 1 + j' := ⟨j - A.length - 1, by omega⟩
                    rw [zup_ne (by omega), g2 j' (by omega), show A.length + 1 + j' - A.length = j' + 1 by omega, zat_cs]
              · rw [zup_ne (by omega), if_neg (by omega), if_neg (by omega), g3 j (by omega)]
            · rw [if_neg (fun z => ht z.1)]
              by_cases h1 : t = 416 ∧ j = 78
              · obtain ⟨rfl, rfl⟩ := h1
                rw [zup_s, zup_ne (by omega), if_pos ⟨rfl, rfl⟩, g4 _ _ (by decide)]
                unfold zrw
                rw [if_neg (by omega), if_pos ⟨rfl, rfl⟩, n_p1]
              · rw [if_neg h1, zup_ne h1, zup_ne (fun z => ht z.1), g4 _ _ ht, zrw_st _ _ ht h1]
          intro m
          induction m with
          | zero =>
            intro A B hm hAB hB S3 k g1 g2 g3 g4
            have hA0 : A = [] := List.length_eq_zero_iff.mp hm
            refine rwpt_X12_lines_37 hK ?_; unfold rwp_X12_lines_37
            refine it (by rw [hm]; decide) ⟨n_in (by omega) (by omega), ?_⟩
            exact fin A B hAB (fun x hx => by rw [hA0] at hx; cases hx) hB S3 k g1 g2 g3 g4
          | succ m ihm =>
            intro A B hm hAB hB S3 k g1 g2 g3 g4
            have hlAB : A.length + B.length = L.length := by rw [← hAB, List.length_append]
            rcases lcat A with h0 | ⟨A', a, h0⟩
            · rw [h0] at hm; cases hm
            subst h0
            have hl1 := llen1 A' a
            simp only [hl1] at hm hlAB g1 g2 g3 ⊢
            have haL : a ∈ L := by rw [← hAB]; simp
            have hai := hlt a haL
            have ea : S3 1177 A'.length = Int32.ofNat a := by
              rw [g1 _ (by omega), zat_app, if_neg (by omega), Nat.sub_self, zat_c0]
            refine rwpt_X12_lines_37 hK ?_; unfold rwp_X12_lines_37
            rw [n_s1, n_nn (by omega), n_nn (by omega), ea]
            refine ie (by rw [show (0 : Int32) = Int32.ofNat 0 from rfl, n_le (by omega) (by omega)]; omega) ⟨n_in (by omega) (by omega), gI (r_isAhead (by omega) (by omega) hr ?_) (by decide) ⟨fun hz => ⟨n_in (by omega) (by omega), ?_⟩, fun hz => ⟨n_in (by omega) (by omega), n_in (by omega) (by omega), fun S8 e8 => ?_⟩⟩⟩
            · intro a; rw [g4 _ _ (by decide), zrw_st _ _ (by omega) (by omega)]; exact hu a
            · have hz' : ¬ zlt S r i a := by
                rw [zb_0, zlt_cg (S := S) (fun t k h => by rw [g4 t k (by omega), zrw_st _ _ (by omega) (by omega)])] at hz
                exact hz
              have hA : ∀ x ∈ A' ++ [a], ¬ zlt S r i x := by
                intro x hx hc
                rcases List.mem_append.mp hx with h1 | h1
                · have hp : zlt S r x a := by
                    rw [← hAB] at hsort
                    have h2 := (List.pairwise_append.mp hsort).1
                    exact (List.pairwise_append.mp h2).2.2 x h1 a (by simp)
                  exact hz' (zlt_tr hc hp)
                · rw [List.mem_singleton.mp h1] at hc; exact hz' hc
              have := fin (A' ++ [a]) B hAB hA hB S3 k (by rw [hl1]; exact g1) (by rw [hl1]; exact g2) (by rw [hl1]; exact g3) g4
              rw [hl1, n_nn (by omega)] at this
              exact this
            · have hz' : zlt S r i a := by
                rw [zb_0, Classical.not_not, zlt_cg (S := S) (fun t k h => by rw [g4 t k (by omega), zrw_st _ _ (by omega) (by omega)])] at hz
                exact hz
              rw [n_m1]
              refine ihm A' (a :: B) (by omega) (by rw [← hAB]; simp) (fun x hx => ?_) S8 k (fun j hj => ?_) (fun j hj => ?_) (fun j hj => ?_) (fun t j ht => ?_)
              · rcases List.mem_cons.mp hx with rfl | hx
                · exact hz'
                · exact hB x hx
              · rw [e8, zup_ne (by omega), g1 j (by omega), zat_app, if_pos hj]
              · rw [List.length_cons] at hj
                cases j with
                | zero => rw [e8, zat_c0, Nat.add_zero, zup_s]; exact ea
                | succ j =>
                  rw [e8, zup_ne (by omega), zat_cs, ← g2 j (by omega)]
                  congr 1; omega
              · rw [List.length_cons] at hj
                rw [e8, zup_ne (by omega), g3 j (by omega)]
              · rw [e8, zup_ne (fun z => ht z.1)]; exact g4 t j ht
        have e78 : S2 416 78 = Int32.ofNat L.length := by
          rw [e2]; unfold zrw; rw [if_neg (by omega), if_pos ⟨rfl, rfl⟩]
        rw [e78]
        refine inner L.length L [] rfl (by simp) (fun x hx => nomatch hx) S2 k (fun j hj => ?_) (fun j hj => nomatch hj) (fun j hj => ?_) (fun t j ht => by rw [e2])
        · rw [e2]; unfold zrw; rw [if_pos ⟨rfl, hj⟩]
        · rw [e2]; unfold zrw; rw [if_neg (by rw [List.length_nil] at hj; omega), if_neg (by omega)]
      · rw [n_p1]
        refine ih S2 k ?_
        rw [e2]
        show _ = zrw S (if _ then _ else _)
        rw [if_neg h]
  refine key 0 (by omega) S1 _ ?_
  rw [e1]
  funext t j
  unfold zrw zline
  rw [if_neg (show ¬ (t = 1177 ∧ j < ([] : List Nat).length) from fun z => absurd z.2 (Nat.not_lt_zero _))]
  by_cases h : t = 416 ∧ j = 78
  · rw [if_pos h, h.1, h.2]; exact zup_s _ _ _ _
  · rw [if_neg h, zup_ne h]
end ZRd
