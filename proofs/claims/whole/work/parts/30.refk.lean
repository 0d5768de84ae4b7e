/-! waits: two sortings by insertion -/
noncomputable def pins {α : Type} (gt : α → α → Prop) (v : α) : List α → List α
  | [] => [v]
  | b :: L => @ite _ (gt b v) (Classical.propDecidable _) (v :: b :: L) (b :: pins gt v L)
theorem pins_mem {α : Type} {gt : α → α → Prop} {v x : α} : ∀ {L : List α}, x ∈ pins gt v L ↔ x = v ∨ x ∈ L
  | [] => by simp [pins]
  | b :: L => by
    unfold pins
    by_cases h : gt b v
    · rw [if_pos h]; simp
    · rw [if_neg h, List.mem_cons, pins_mem (L := L), List.mem_cons]
      constructor
      · rintro (h | h | h)
        · exact Or.inr (Or.inl h)
        · exact Or.inl h
        · exact Or.inr (Or.inr h)
      · rintro (h | h | h)
        · exact Or.inr (Or.inl h)
        · exact Or.inl h
        · exact Or.inr (Or.inr h)
theorem pins_len {α : Type} {gt : α → α → Prop} {v : α} : ∀ {L : List α}, (pins gt v L).length = L.length + 1
  | [] => rfl
  | b :: L => by
    unfold pins
    by_cases h : gt b v
    · rw [if_pos h]; rfl
    · rw [if_neg h, List.length_cons, pins_len (L := L), List.length_cons]
theorem pins_sort {α : Type} {gt : α → α → Prop} (tr : ∀ x y z, ¬ gt x y → ¬ gt y z → ¬ gt x z) (as : ∀ x y, gt x y → ¬ gt y x) {v : α} : ∀ {L : List α}, L.Pairwise (fun x y => ¬ gt x y) → (pins gt v L).Pairwise (fun x y => ¬ gt x y)
  | [], _ => by simp [pins]
  | b :: L, h => by
    have hb := List.pairwise_cons.mp h
    unfold pins
    by_cases hc : gt b v
    · rw [if_pos hc]
      refine List.pairwise_cons.mpr ⟨fun x hx => ?_, h⟩
      rcases List.mem_cons.mp hx with rfl | hx
      · exact as _ _ hc
      · exact tr _ _ _ (as _ _ hc) (hb.1 x hx)
    · rw [if_neg hc]
      refine List.pairwise_cons.mpr ⟨fun x hx => ?_, pins_sort tr as hb.2⟩
      rcases pins_mem.mp hx with rfl | hx
      · exact hc
      · exact hb.1 x hx
theorem pins_split {α : Type} {gt : α → α → Prop} {v : α} : ∀ {A B : List α}, (∀ x ∈ A, ¬ gt x v) → (∀ x ∈ B, gt x v) → pins gt v (A ++ B) = A ++ v :: B
  | [], [], _, _ => rfl
  | [], b :: B, _, h => by
    show pins gt v (b :: B) = _
    unfold pins
    rw [if_pos (h b List.mem_cons_self)]; rfl
  | x :: A, B, h, h2 => by
    show pins gt v (x :: (A ++ B)) = _
    unfold pins
    rw [if_neg (h x List.mem_cons_self), pins_split (fun y hy => h y (List.mem_cons_of_mem _ hy)) h2]; rfl
def latI (L : List Int32) (k : Nat) : Int32 := (L[k]?).getD 0
theorem latI_app (A B : List Int32) (k : Nat) : latI (A ++ B) k = if k < A.length then latI A k else latI B (k - A.length) := by
  unfold latI
  rw [List.getElem?_append]
  split <;> rfl
theorem latI_c0 (a : Int32) (B : List Int32) : latI (a :: B) 0 = a := rfl
theorem latI_cs (a : Int32) (B : List Int32) (k : Nat) : latI (a :: B) (k + 1) = latI B k := rfl
theorem lcatI : ∀ (A : List Int32), A = [] ∨ ∃ A' a, A = A' ++ [a]
  | [] => Or.inl rfl
  | a :: A => by
    rcases lcatI A with h | ⟨B, b, h⟩
    · exact Or.inr ⟨[], a, by rw [h]; rfl⟩
    · exact Or.inr ⟨a :: B, b, by rw [h]; rfl⟩
theorem llenI (A : List Int32) (a : Int32) : (A ++ [a]).length = A.length + 1 := by rw [List.length_append]; rfl
/-- later by the day on which it was got -/
def glt (S : ZS9) (x y : Nat) : Prop := S 1165 (7 * y + 3) < S 1165 (7 * x + 3)
theorem glt_tr {S : ZS9} (x y z : Nat) (h : ¬ glt S x y) (h2 : ¬ glt S y z) : ¬ glt S x z := by
  unfold glt at *; rw [i_tl] at *; omega
theorem glt_as {S : ZS9} (x y : Nat) (h : glt S x y) : ¬ glt S y x := by
  unfold glt at *; rw [i_tl] at *; omega
noncomputable def zgot (S : ZS9) (kind : Int32) : Nat → List Nat
  | 0 => []
  | n + 1 => if S 1154 n = kind ∧ S 1165 (7 * n + 0) = 7 then pins (glt S) n (zgot S kind n) else zgot S kind n
def vgt (x y : Int32) : Prop := y < x
theorem vgt_tr (x y z : Int32) (h : ¬ vgt x y) (h2 : ¬ vgt y z) : ¬ vgt x z := by
  unfold vgt at *; rw [i_tl] at *; omega
theorem vgt_as (x y : Int32) (h : vgt x y) : ¬ vgt y x := by
  unfold vgt at *; rw [i_tl] at *; omega
def zspan (S : ZS9) (a : Nat) : Int32 := S 1165 (7 * a + 3) - S 1155 a
/-- the waits of the k askings from place s on, by size -/
noncomputable def zwts (S : ZS9) (L : List Nat) (s : Nat) : Nat → List Int32
  | 0 => []
  | k + 1 => pins vgt (zspan S (zat L (s + k))) (zwts S L s k)
theorem zwts_len {S : ZS9} {L : List Nat} {s : Nat} : ∀ {k : Nat}, (zwts S L s k).length = k
  | 0 => rfl
  | k + 1 => by unfold zwts; rw [pins_len, zwts_len]
theorem zwts_sort {S : ZS9} {L : List Nat} {s : Nat} : ∀ {k : Nat}, (zwts S L s k).Pairwise (fun x y => ¬ vgt x y)
  | 0 => List.Pairwise.nil
  | k + 1 => pins_sort vgt_tr vgt_as zwts_sort
theorem zgot_mem {S : ZS9} {kind : Int32} {x : Nat} : ∀ {n : Nat}, x ∈ zgot S kind n ↔ x < n ∧ S 1154 x = kind ∧ S 1165 (7 * x + 0) = 7
  | 0 => by simp [zgot]
  | n + 1 => by
    unfold zgot
    by_cases h : S 1154 n = kind ∧ S 1165 (7 * n + 0) = 7
    · rw [if_pos h, pins_mem, zgot_mem]
      constructor
      · rintro (rfl | h1)
        · exact ⟨by omega, h⟩
        · exact ⟨by omega, h1.2⟩
      · rintro ⟨h1, h2⟩
        by_cases e : x = n
        · exact Or.inl e
        · exact Or.inr ⟨by omega, h2⟩
    · rw [if_neg h, zgot_mem]
      constructor
      · rintro ⟨h1, h2⟩; exact ⟨by omega, h2⟩
      · rintro ⟨h1, h2⟩
        refine ⟨?_, h2⟩
        by_cases e : x = n
        · subst e; exact absurd h2 h
        · omega
theorem zgot_sort {S : ZS9} {kind : Int32} : ∀ {n : Nat}, (zgot S kind n).Pairwise (fun x y => ¬ glt S x y)
  | 0 => List.Pairwise.nil
  | n + 1 => by
    unfold zgot
    split
    · exact pins_sort glt_tr glt_as zgot_sort
    · exact zgot_sort
theorem zgot_len {S : ZS9} {kind : Int32} : ∀ {n : Nat}, (zgot S kind n).length ≤ n
  | 0 => Nat.le_refl _
  | n + 1 => by
    have := zgot_len (S := S) (kind := kind) (n := n)
    unfold zgot
    split
    · rw [pins_len]; omega
    · omega
noncomputable def zmany (L : List Nat) : Nat := min L.length 20
noncomputable def zwait (S : ZS9) (L : List Nat) (most : Int32) : Int32 := latI (zwts S L (L.length - zmany L) (zmany L)) (if most = 0 then zmany L / 10 else zmany L - 1 - zmany L / 10)
noncomputable def fWaits (S : ZS9) (kind most : Int32) : ZO := fCalls3 (¬ inn kind 0 3) (1, 0, S) (fCalls3 (zgot S kind (nA S) = []) (0, -1, S) (0, zwait S (zgot S kind (nA S)) most, S))
section ZRm
variable {E : ZE} {l : Launch} {S : ZS9}
theorem r_waits (hR : RI S) (kind most : Int32) : rMet E l mX12_waits 2 0 [.int kind, .int most] S (rR (fWaits S kind most)) := by
  have hA := hR.1
  refine r_meth (by decide) (Nat.le_of_ble_eq_true rfl) (by simp [Value.category]) (fun G hK => rwpt_X12_waits_0 hK ?_); unfold rwp_X12_waits_0
  intro S1 e1; have z1 : ∀ t k, ¬ (t = 416 ∧ k = 0) → S1 t k = S t k := fun t k h => by rw [e1, zup_at, if_neg h]
  have s1 : zsim S S1 := by rw [e1]; exact zs0 zsim.rf
  have t1 : S1 416 0 = 0 := by rw [e1]; exact zup_s _ _ _ _
  refine sI (fun _ => s_in _ _ _) (by decide) ⟨fun h => gI (r_thr0 _) (by decide) (it rfl ?_), fun h => gI (r_thr1 _) (by decide) (ie (by decide) ?_)⟩
  · have h : inn kind 0 3 := Classical.not_not.mp (fun z => h (zbz z))
    have ef : fWaits S kind most = fCalls3 (zgot S kind (nA S) = []) (0, -1, S) (0, zwait S (zgot S kind (nA S)) most, S) := by unfold fWaits; rw [f3f (nn h)]
    rw [ef]
    generalize hF : fCalls3 (zgot S kind (nA S) = []) (0, -1, S) (0, zwait S (zgot S kind (nA S)) most, S) = F
    have hgl := zgot_len (S := S) (kind := kind) (n := nA S)
    have hgm : ∀ x ∈ zgot S kind (nA S), x < nA S := fun x hx => (zgot_mem.mp hx).1
    have okS : ∀ T : ZS9, (∀ t k, t ≠ 1182 → t ≠ 1181 → T t k = S1 t k) → zsim S T := fun T hT t k hc => by
      rw [hT t k (fun e => hc (by subst e; unfold zscr; simp)) (fun e => hc (by subst e; unfold zscr; simp))]; exact s1 t k hc
    -- the second sorting
    have second : zgot S kind (nA S) ≠ [] → ∀ T, (∀ t k, t ≠ 1182 → T t k = S1 t k) → (∀ j, j < (zgot S kind (nA S)).length → T 1182 j = Int32.ofNat (zat (zgot S kind (nA S)) j)) → ∀ k, zW E l mX12_waits 2 0 (zput G S) (rQ G (rR F)) k 159 [some (.ref (zp 416 0)), none, some (.int most), some (.int (Int32.ofNat (zgot S kind (nA S)).length)), some (.int (Int32.ofNat (zmany (zgot S kind (nA S))))), some (.int 0), none, none, none] [] (zput G T) := by
      intro hne T hT1 hT2 k
      generalize zgot S kind (nA S) = L at *
      have hm0 : 0 < L.length := by
        rcases Nat.eq_zero_or_pos L.length with z | z
        · exact absurd (List.length_eq_zero_iff.mp z) hne
        · exact z
      have hmL : zmany L ≤ L.length ∧ zmany L ≤ 20 ∧ 0 < zmany L := by unfold zmany; omega
      rw [f3f hne] at hF
      have hw : zwait S L most = latI (zwts S L (L.length - zmany L) (zmany L)) (if most = 0 then zmany L / 10 else zmany L - 1 - zmany L / 10) := rfl
      generalize zmany L = m at *
      have key : ∀ i, i ≤ m → ∀ U, (∀ t k, t ≠ 1181 → U t k = T t k) → (∀ j, j < i → U 1181 j = latI (zwts S L (L.length - m) i) j) → ∀ k, zW E l mX12_waits 2 0 (zput G S) (rQ G (rR F)) k 159 [some (.ref (zp 416 0)), none, some (.int most), some (.int (Int32.ofNat L.length)), some (.int (Int32.ofNat m)), some (.int (Int32.ofNat i)), none, none, none] [] (zput G U) := by
        refine zdown (fun U hU1 hU2 k => ?_) (fun i hi ih U hU1 hU2 k => ?_)
        · refine rwpt_X12_waits_159 hK ?_; unfold rwp_X12_waits_159
          have hs : zsim S U := okS U (fun t k h1 h2 => by rw [hU1 t k h2, hT1 t k h1])
          have h0 : U 416 0 = 0 := by rw [hU1 _ _ (by decide), hT1 _ _ (by decide), t1]
          refine it (by rw [n_le (by omega) (by omega)]; omega) ⟨fun h2 => ?_, fun h2 => ?_⟩
          · rw [show (10 : Int32) = Int32.ofNat 10 from rfl, n_div (by omega) (by omega), n_nn (by omega)]
            refine ⟨n_in (by omega) (by omega), ?_⟩
            rw [← hF]
            refine rR0 hs h0 ?_
            rw [hw, if_pos h2]; exact hU2 _ (by omega)
          · rw [show (10 : Int32) = Int32.ofNat 10 from rfl, n_div (by omega) (by omega), show (1 : Int32) = Int32.ofNat 1 from rfl, n_sub (by omega), n_sub (by omega), n_nn (by omega)]
            refine ⟨n_in (by omega) (by omega), ?_⟩
            rw [← hF]
            refine rR0 hs h0 ?_
            rw [hw, if_neg h2]; exact hU2 _ (by omega)
        · refine rwpt_X12_waits_159 hK ?_; unfold rwp_X12_waits_159
          have hlt : zat L (L.length - m + i) < nA S := hgm _ (zat_mem (by omega))
          have eL : U 1182 (L.length - m + i) = Int32.ofNat (zat L (L.length - m + i)) := by rw [hU1 _ _ (by decide), hT2 _ (by omega)]
          rw [n_sub (by omega), n_add, n_nn (by omega), eL, n_nn (by omega)]
          refine ie (by rw [n_le (by omega) (by omega)]; omega) ⟨n_in (by omega) (by omega), gI (r_now (a := zat L (L.length - m + i)) (w := 3) (by omega)) (by decide) ⟨n_in (by omega) (by omega), ?_⟩⟩
          have e55 : U 1165 (7 * zat L (L.length - m + i) + 3) - U 1155 (zat L (L.length - m + i)) = zspan S (zat L (L.length - m + i)) := by
            unfold zspan
            rw [hU1 _ _ (by decide), hU1 _ _ (by decide), hT1 _ _ (by decide), hT1 _ _ (by decide), z1 _ _ (by omega), z1 _ _ (by omega)]
          rw [e55]
          have hWl := zwts_len (S := S) (L := L) (s := L.length - m) (k := i)
          have hWs := zwts_sort (S := S) (L := L) (s := L.length - m) (k := i)
          have hWn : zwts S L (L.length - m) (i + 1) = pins vgt (zspan S (zat L (L.length - m + i))) (zwts S L (L.length - m) i) := rfl
          generalize zwts S L (L.length - m) i = W at *
          generalize zspan S (zat L (L.length - m + i)) = v at *
          have inner : ∀ n (A B : List Int32), A.length = n → A ++ B = W → (∀ x ∈ B, vgt x v) → ∀ V k, (∀ t k, t ≠ 1181 → V t k = T t k) → (∀ j, j < A.length → V 1181 j = latI A j) → (∀ j, j < B.length → V 1181 (A.length + 1 + j) = latI B j) → zW E l mX12_waits 2 0 (zput G S) (rQ G (rR F)) k 201 [some (.ref (zp 416 0)), none, some (.int most), some (.int (Int32.ofNat L.length)), some (.int (Int32.ofNat m)), some (.int (Int32.ofNat i)), none, some (.int v), some (.int (Int32.ofNat A.length))] [] (zput G V) := by
            have fin : ∀ (A B : List Int32), A ++ B = W → (∀ x ∈ A, ¬ vgt x v) → (∀ x ∈ B, vgt x v) → ∀ V k, (∀ t k, t ≠ 1181 → V t k = T t k) → (∀ j, j < A.length → V 1181 j = latI A j) → (∀ j, j < B.length → V 1181 (A.length + 1 + j) = latI B j) → ∀ V2, V2 = zup V 1181 (Int32.ofNat A.length).toNatClampNeg v → zW E l mX12_waits 2 0 (zput G S) (rQ G (rR F)) k 159 [some (.ref (zp 416 0)), none, some (.int most), some (.int (Int32.ofNat L.length)), some (.int (Int32.ofNat m)), some (.int (Int32.ofNat i + 1)), none, none, none] [] (zput G V2) := by
              intro A B hAB hA2 hB2 V k g1 g2 g3 V2 eV2
              have hl : A.length + B.length = i := by rw [← hWl, ← hAB, List.length_append]
              rw [n_nn (by omega)] at eV2
              rw [n_p1]
              refine ih V2 (fun t k ht => ?_) (fun j hj => ?_) k
              · rw [eV2, zup_ne (fun z => ht z.1)]; exact g1 t k ht
              · rw [hWn, ← hAB, pins_split hA2 hB2, eV2, latI_app]
                by_cases c : j < A.length
                · rw [zup_ne (by omega), if_pos c]; exact g2 j c
                · rw [if_neg c]
                  by_cases c2 : j = A.length
                  · subst c2; rw [zup_s, Nat.sub_self, latI_c0]
                  · obtain ⟨j', rfl⟩ : ∃ j', j = A.length + 1 + j' := ⟨j - A.length - 1, by omega⟩
                    rw [zup_ne (by omega), g3 j' (by omega), show A.length + 1 + j' - A.length = j' + 1 by omega, latI_cs]
            intro n
            induction n with
            | zero =>
              intro A B hn hAB hB2 V k g1 g2 g3
              have hA0 : A = [] := List.length_eq_zero_iff.mp hn
              refine rwpt_X12_waits_201 hK ?_; unfold rwp_X12_waits_201
              refine it (by rw [hn]; decide) ⟨n_in (by omega) (by omega), ?_⟩
              exact fin A B hAB (fun x hx => by rw [hA0] at hx; cases hx) hB2 V k g1 g2 g3
            | succ n ihn =>
              intro A B hn hAB hB2 V k g1 g2 g3
              have hl : A.length + B.length = i := by rw [← hWl, ← hAB, List.length_append]
              rcases lcatI A with h0 | ⟨A', a, h0⟩
              · rw [h0] at hn; cases hn
              subst h0
              have hl1 := llenI A' a
              simp only [hl1] at hn hl g2 g3 ⊢
              have ea : V 1181 A'.length = a := by rw [g2 _ (by omega), latI_app, if_neg (by omega), Nat.sub_self, latI_c0]
              refine rwpt_X12_waits_201 hK ?_; unfold rwp_X12_waits_201
              rw [n_s1, n_nn (by omega), n_nn (by omega), ea]
              refine ie (by rw [show (0 : Int32) = Int32.ofNat 0 from rfl, n_le (by omega) (by omega)]; omega) ⟨n_in (by omega) (by omega), fun hz => ⟨n_in (by omega) (by omega), ?_⟩, fun hz => ⟨n_in (by omega) (by omega), n_in (by omega) (by omega), fun V3 e3 => ?_⟩⟩
              · have hz' : ¬ vgt a v := by unfold vgt; rw [i_nlt]; exact hz
                have := fin (A' ++ [a]) B hAB (fun x hx => ?_) hB2 V k g1 (by rw [hl1]; exact g2) (by rw [hl1]; exact g3)
                · rw [hl1, n_nn (by omega)] at this; exact this
                · rcases List.mem_append.mp hx with h1 | h1
                  · rw [← hAB] at hWs
                    have h2 := (List.pairwise_append.mp hWs).1
                    exact vgt_tr _ _ _ ((List.pairwise_append.mp h2).2.2 x h1 a (by simp)) hz'
                  · rw [List.mem_singleton.mp h1]; exact hz'
              · have hz' : vgt a v := by unfold vgt; rw [← i_nle]; exact hz
                rw [n_m1]
                refine ihn A' (a :: B) (by omega) (by rw [← hAB]; simp) (fun x hx => ?_) V3 k (fun t k ht => ?_) (fun j hj => ?_) (fun j hj => ?_)
                · rcases List.mem_cons.mp hx with rfl | hx
                  · exact hz'
                  · exact hB2 x hx
                · rw [e3, zup_ne (fun z => ht z.1)]; exact g1 t k ht
                · rw [e3, zup_ne (by omega), g2 j (by omega), latI_app, if_pos hj]
                · rw [List.length_cons] at hj
                  cases j with
                  | zero => rw [e3, latI_c0, Nat.add_zero, zup_s]
                  | succ j =>
                    rw [e3, zup_ne (by omega), latI_cs, ← g3 j (by omega)]
                    congr 1; omega
          have := inner W.length W [] rfl (by simp) (fun x hx => nomatch hx) U k hU1 (fun j hj => hU2 j (by omega)) (fun j hj => nomatch hj)
          rw [hWl] at this
          exact this
      exact key 0 (by omega) T (fun _ _ _ => rfl) (fun j hj => by omega) k
    -- the first sorting
    have first : ∀ i, i ≤ nA S → ∀ T, (∀ t k, t ≠ 1182 → T t k = S1 t k) → (∀ j, j < (zgot S kind i).length → T 1182 j = Int32.ofNat (zat (zgot S kind i) j)) → ∀ k, zW E l mX12_waits 2 0 (zput G S) (rQ G (rR F)) k 34 [some (.ref (zp 416 0)), some (.int kind), some (.int most), some (.int (Int32.ofNat (zgot S kind i).length)), some (.int (Int32.ofNat i)), none, none, none, none] [] (zput G T) := by
      have e66 : ∀ T : ZS9, (∀ t k, t ≠ 1182 → T t k = S1 t k) → T 416 66 = Int32.ofNat (nA S) := fun T hT => by rw [hT _ _ (by decide), z1 _ _ (by omega), hA.1]
      refine zdown (fun T hT1 hT2 k => ?_) (fun i hi ih T hT1 hT2 k => ?_)
      · refine rwpt_X12_waits_34 hK ?_; unfold rwp_X12_waits_34
        refine it (by rw [e66 T hT1, n_le (by omega) (by omega)]; omega) (sI (fun _ => s_min _ _) (by decide) ?_)
        have em : (if Int32.ofNat (zgot S kind (nA S)).length < 20 then Int32.ofNat (zgot S kind (nA S)).length else 20) = Int32.ofNat (zmany (zgot S kind (nA S))) := by
          unfold zmany
          rw [show (20 : Int32) = Int32.ofNat 20 from rfl]
          by_cases c : (zgot S kind (nA S)).length < 20
          · rw [if_pos ((n_lt (by omega) (by omega)).mpr c)]; congr 1; omega
          · rw [if_neg (fun z => c ((n_lt (by omega) (by omega)).mp z))]; congr 1; omega
        rw [em, show (0 : Int32) = Int32.ofNat 0 from rfl, n_inj (by unfold zmany; omega) (by omega)]
        refine ⟨fun h2 => second (fun e => h2 (by rw [e]; rfl)) T hT1 hT2 _, fun h2 => ?_⟩
        have : zgot S kind (nA S) = [] := List.length_eq_zero_iff.mp (by have := Classical.not_not.mp h2; unfold zmany at this; omega)
        rw [← hF, f3t this]
        exact rR0 (okS T (fun t k h1 _ => hT1 t k h1)) (by rw [hT1 _ _ (by decide), t1]) rfl
      · have hlen := zgot_len (S := S) (kind := kind) (n := i)
        have hsort := zgot_sort (S := S) (kind := kind) (n := i)
        have hlt : ∀ x ∈ zgot S kind i, x < i := fun x hx => (zgot_mem.mp hx).1
        have hstep : zgot S kind (i + 1) = if S 1154 i = kind ∧ S 1165 (7 * i + 0) = 7 then pins (glt S) i (zgot S kind i) else zgot S kind i := rfl
        refine rwpt_X12_waits_34 hK ?_; unfold rwp_X12_waits_34
        rw [n_nn (by omega), hT1 1154 _ (by decide), z1 1154 _ (by omega)]
        refine ie (by rw [e66 T hT1, n_le (by omega) (by omega)]; omega) ⟨n_in (by omega) (by omega), fun h2 => ?_, fun h2 => gI (r_now (a := i) (w := 0) (by omega)) (by decide) ?_⟩
        · rw [hstep, if_neg (fun z => h2 z.1)] at ih
          rw [n_p1]; exact ih T hT1 hT2 k
        · rw [hT1 1165 _ (by decide), z1 1165 _ (by omega)]
          refine ⟨fun h3 => ?_, fun h3 => ?_⟩
          · rw [hstep, if_pos ⟨Classical.not_not.mp h2, h3⟩] at ih
            generalize zgot S kind i = L at *
            have inner : ∀ n (A B : List Nat), A.length = n → A ++ B = L → (∀ x ∈ B, glt S x i) → ∀ V k, (∀ t k, t ≠ 1182 → V t k = S1 t k) → (∀ j, j < A.length → V 1182 j = Int32.ofNat (zat A j)) → (∀ j, j < B.length → V 1182 (A.length + 1 + j) = Int32.ofNat (zat B j)) → zW E l mX12_waits 2 0 (zput G S) (rQ G (rR F)) k 72 [some (.ref (zp 416 0)), some (.int kind), some (.int most), some (.int (Int32.ofNat L.length)), some (.int (Int32.ofNat i)), some (.int (Int32.ofNat A.length)), none, none, none] [] (zput G V) := by
              have fin : ∀ (A B : List Nat), A ++ B = L → (∀ x ∈ A, ¬ glt S x i) → (∀ x ∈ B, glt S x i) → ∀ V k, (∀ t k, t ≠ 1182 → V t k = S1 t k) → (∀ j, j < A.length → V 1182 j = Int32.ofNat (zat A j)) → (∀ j, j < B.length → V 1182 (A.length + 1 + j) = Int32.ofNat (zat B j)) → ∀ V2, V2 = zup V 1182 (Int32.ofNat A.length).toNatClampNeg (Int32.ofNat i) → zW E l mX12_waits 2 0 (zput G S) (rQ G (rR F)) k 34 [some (.ref (zp 416 0)), some (.int kind), some (.int most), some (.int (Int32.ofNat L.length + 1)), some (.int (Int32.ofNat i + 1)), none, none, none, none] [] (zput G V2) := by
                intro A B hAB hA2 hB2 V k g1 g2 g3 V2 eV2
                have hl : A.length + B.length = L.length := by rw [← hAB, List.length_append]
                have hsp : pins (glt S) i L = A ++ i :: B := by rw [← hAB, pins_split hA2 hB2]
                rw [n_nn (by omega)] at eV2
                rw [pins_len] at ih
                rw [n_p1, n_p1]
                refine ih V2 (fun t k ht => ?_) (fun j hj => ?_) k
                · rw [eV2, zup_ne (fun z => ht z.1)]; exact g1 t k ht
                · rw [hsp, eV2, zat_app]
                  by_cases c : j < A.length
                  · rw [zup_ne (by omega), if_pos c]; exact g2 j c
                  · rw [if_neg c]
                    by_cases c2 : j = A.length
                    · subst c2; rw [zup_s, Nat.sub_self, zat_c0]
                    · obtain ⟨j', rfl⟩ : ∃ j', j = A.length + 1 + j' := ⟨j - A.length - 1, by omega⟩
                      rw [zup_ne (by omega), g3 j' (by omega), show A.length + 1 + j' - A.length = j' + 1 by omega, zat_cs]
              intro n
              induction n with
              | zero =>
                intro A B hn hAB hB2 V k g1 g2 g3
                have hA0 : A = [] := List.length_eq_zero_iff.mp hn
                refine rwpt_X12_waits_72 hK ?_; unfold rwp_X12_waits_72
                refine it (by rw [hn]; decide) ⟨n_in (by omega) (by omega), ?_⟩
                exact fin A B hAB (fun x hx => by rw [hA0] at hx; cases hx) hB2 V k g1 g2 g3
              | succ n ihn =>
                intro A B hn hAB hB2 V k g1 g2 g3
                have hl : A.length + B.length = L.length := by rw [← hAB, List.length_append]
                rcases lcat A with h0 | ⟨A', a, h0⟩
                · rw [h0] at hn; cases hn
                subst h0
                have hl1 := llen1 A' a
                simp only [hl1] at hn hl g2 g3 ⊢
                have hai : a < i := hlt a (by rw [← hAB]; simp)
                have ea : V 1182 A'.length = Int32.ofNat a := by rw [g2 _ (by omega), zat_app, if_neg (by omega), Nat.sub_self, zat_c0]
                refine rwpt_X12_waits_72 hK ?_; unfold rwp_X12_waits_72
                rw [n_s1, n_nn (by omega), n_nn (by omega), ea]
                refine ie (by rw [show (0 : Int32) = Int32.ofNat 0 from rfl, n_le (by omega) (by omega)]; omega) ⟨n_in (by omega) (by omega), gI (r_now (a := a) (w := 3) (by omega)) (by decide) (gI (r_now (a := i) (w := 3) (by omega)) (by decide) ?_)⟩
                rw [g1 1165 _ (by decide), g1 1165 _ (by decide), z1 1165 _ (by omega), z1 1165 _ (by omega)]
                refine ⟨fun hz => ⟨n_in (by omega) (by omega), ?_⟩, fun hz => ⟨n_in (by omega) (by omega), n_in (by omega) (by omega), fun V3 e3 => ?_⟩⟩
                · have hz' : ¬ glt S a i := by unfold glt; rw [i_nlt]; exact hz
                  have := fin (A' ++ [a]) B hAB (fun x hx => ?_) hB2 V k g1 (by rw [hl1]; exact g2) (by rw [hl1]; exact g3)
                  · rw [hl1, n_nn (by omega)] at this; exact this
                  · rcases List.mem_append.mp hx with h1 | h1
                    · rw [← hAB] at hsort
                      have h2 := (List.pairwise_append.mp hsort).1
                      exact glt_tr _ _ _ ((List.pairwise_append.mp h2).2.2 x h1 a (by simp)) hz'
                    · rw [List.mem_singleton.mp h1]; exact hz'
                · have hz' : glt S a i := by unfold glt; rw [← i_nle]; exact hz
                  rw [ea] at e3
                  rw [n_m1]
                  refine ihn A' (a :: B) (by omega) (by rw [← hAB]; simp) (fun x hx => ?_) V3 k (fun t k ht => ?_) (fun j hj => ?_) (fun j hj => ?_)
                  · rcases List.mem_cons.mp hx with rfl | hx
                    · exact hz'
                    · exact hB2 x hx
                  · rw [e3, zup_ne (fun z => ht z.1)]; exact g1 t k ht
                  · rw [e3, zup_ne (by omega), g2 j (by omega), zat_app, if_pos hj]
                  · rw [List.length_cons] at hj
                    cases j with
                    | zero => rw [e3, zat_c0, Nat.add_zero, zup_s]
                    | succ j =>
                      rw [e3, zup_ne (by omega), zat_cs, ← g3 j (by omega)]
                      congr 1; omega
            exact inner L.length L [] rfl (by simp) (fun x hx => nomatch hx) T k hT1 hT2 (fun j hj => nomatch hj)
          · rw [hstep, if_neg (fun z => h3 z.2)] at ih
            rw [n_p1]; exact ih T hT1 hT2 k
    exact first 0 (by omega) S1 (fun _ _ _ => rfl) (fun j hj => nomatch hj) _
  · unfold fWaits; rw [f3t (zb_0.mp (Classical.not_not.mp h))]; exact rR1 s1 (by decide)
end ZRm
