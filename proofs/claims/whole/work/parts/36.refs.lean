/-! the reference reads and keeps a law -/
theorem zflat_app (A B : List ZCLS) : zflat (A ++ B) = zflat A ++ zflat B := by unfold zflat; exact List.flatMap_append
theorem zflat_1 (c : ZCLS) : zflat [c] = c.2.2 := by unfold zflat; simp
theorem lcl_app (A B : List ZCLS) (k : Nat) : lcl (A ++ B) k = if k < A.length then lcl A k else lcl B (k - A.length) := by
  unfold lcl
  rw [List.getElem?_append]
  split <;> rfl
theorem zoff_app {A B : List ZCLS} {m : Nat} (h : m ≤ A.length) : zoff (A ++ B) m = zoff A m := by
  unfold zoff
  rw [List.take_append_of_le_length h]
theorem zoff_len (A : List ZCLS) : zoff A A.length = (zflat A).length := by unfold zoff; rw [List.take_length]
theorem zClif_ok {w : Nat → Int32} {n q p1 : Nat} {s v : Int32} {cl : ZCLS} (hq : q ≤ n) (h : zClif w n q s v = .inr (p1, cl)) : q ≤ p1 ∧ p1 ≤ n ∧ cl.2.2.length + q ≤ p1 ∧ cl.1 = s := by
  unfold zClif at h
  by_cases hw : wdat w n q 2
  · rw [if_pos hw] at h
    have hl := wdat_len hq (by omega) hw
    have a1 := skp_ge (w := w) hq
    have a3 := wen_le (w := w) hq
    have hok := zP_ok (w := w) (n := n) (4 * n + 3) 3 0 (wen w n q) a3 (by omega)
    cases hr : zP w n (4 * n + 3) 3 0 (wen w n q) with
    | inl e => rw [hr] at h; cases h
    | inr pc =>
      obtain ⟨p2, c⟩ := pc
      rw [hr] at h hok
      cases h
      obtain ⟨o1, o2, o3⟩ := hok
      exact ⟨by omega, o2, by show c.length + q ≤ _; omega, rfl⟩
  · rw [if_neg hw] at h
    cases h
    exact ⟨skp_ge hq, skp_le hq, by have := skp_ge (w := w) hq; show 0 + q ≤ _; omega, rfl⟩
theorem zCl_ok {w : Nat → Int32} {n p p1 : Nat} {cl : ZCLS} (hp : p ≤ n) (h : zCl w n p = .inr (p1, cl)) : p < p1 ∧ p1 ≤ n ∧ cl.2.2.length + p ≤ p1 ∧ ∃ s, s < 6 ∧ cl.1 = Int32.ofNat s := by
  have a1 := skp_ge (w := w) hp
  have a3 := wen_le (w := w) hp
  have hsle : zsrt w n p ≤ 6 := by have := (zfi_le (W := fun i => wdat w n p (9 + i)) (m := 6) (i := 0)).2; unfold zsrt; omega
  unfold zCl at h
  by_cases h6 : zsrt w n p = 6
  · rw [if_pos h6] at h; cases h
  rw [if_neg h6] at h
  have hw := zfi_W (W := fun i => wdat w n p (9 + i)) (m := 6) (i := 0) (by unfold zsrt at *; omega)
  have hl := wdat_len hp (by unfold zsrt at *; omega) hw
  have done : ∀ q s v, q ≤ n → wen w n p ≤ q → s < 6 → zClif w n q (Int32.ofNat s) v = .inr (p1, cl) → p < p1 ∧ p1 ≤ n ∧ cl.2.2.length + p ≤ p1 ∧ ∃ s, s < 6 ∧ cl.1 = Int32.ofNat s := by
    intro q s v hq hge hs he
    obtain ⟨o1, o2, o3, o4⟩ := zClif_ok hq he
    exact ⟨by omega, o2, by omega, s, hs, o4⟩
  by_cases h0 : zsrt w n p = 0
  · rw [if_pos h0] at h
    by_cases h8 : zitem w n (wen w n p) = 8
    · rw [if_pos h8] at h; cases h
    · rw [if_neg h8] at h
      have b1 := skp_ge (w := w) a3
      have b3 := wen_le (w := w) a3
      have b4 := wen_ge (w := w) a3
      exact done _ 0 _ b3 (by omega) (by omega) h
  · rw [if_neg h0] at h
    by_cases h4 : zsrt w n p = 4
    · rw [if_pos h4] at h; exact done _ 4 _ a3 (Nat.le_refl _) (by omega) h
    · rw [if_neg h4] at h
      by_cases hn : nmok w n (wen w n p)
      · rw [if_pos hn] at h
        have b1 := skp_ge (w := w) a3
        have b3 := den_le (w := w) a3
        have b4 := den_ge (w := w) a3
        exact done _ _ _ b3 (by omega) (by omega) h
      · rw [if_neg hn] at h; cases h
/-- what reading a law leaves -/
def QLW (S : ZS9) (r : Nat ⊕ List ZCLS) : Int32 → ZS9 → Prop := fun y S' => match r with
  | .inl e => y = -1 ∧ S' 416 6 = Int32.ofNat e ∧ ∀ t k, ¬ zlx t k → S' t k = S t k
  | .inr L => y = Int32.ofNat L.length ∧ L.length ≤ 16 ∧ (zflat L).length ≤ 400 ∧ ∃ T b p d, S' = zps T (zflat L) b p d ∧ (∀ m, m < L.length → zrow T L 192 m) ∧ ∀ t k, ¬ zlx t k → T t k = S t k
theorem zps_init {S : ZS9} (h : S 416 4 = 0) : zup S 416 20 0 = zps S [] (S 416 6) 0 (S 416 7) := by
  funext t k
  by_cases c1 : t = 416 ∧ k = 20
  · obtain ⟨rfl, rfl⟩ := c1; rw [zup_s, zps_20]; rfl
  rw [zup_ne c1]
  by_cases c2 : t = 416 ∧ k = 4
  · obtain ⟨rfl, rfl⟩ := c2; rw [zps_4, h]; rfl
  by_cases c3 : t = 416 ∧ k = 6
  · obtain ⟨rfl, rfl⟩ := c3; rw [zps_6]
  by_cases c4 : t = 416 ∧ k = 7
  · obtain ⟨rfl, rfl⟩ := c4; rw [zps_7]
  unfold zps
  rw [if_neg c2, if_neg c3, if_neg c4, if_neg c1, if_neg (fun z => absurd (Nat.lt_of_le_of_lt z.2.1 z.2.2) (Nat.lt_irrefl _)), if_neg (fun z => absurd (Nat.lt_of_le_of_lt z.2.1 z.2.2) (Nat.lt_irrefl _)), if_neg (fun z => absurd (Nat.lt_of_le_of_lt z.2.1 z.2.2) (Nat.lt_irrefl _))]
/-- the rest of a law behind the clauses A -/
def lbind (A : List ZCLS) (r : Nat ⊕ List ZCLS) : Nat ⊕ List ZCLS := match r with
  | .inl e => .inl e
  | .inr L => .inr (A ++ L)
section ZRs
variable {E : ZE} {l : Launch} {S : ZS9} {w : Nat → Int32} {n : Nat}
theorem r_readLaw (hX : TX S w n) (h4 : S 416 4 = 0) : rMet E l mX12_readLaw 51 0 [] S (rX (QLW S (zLaw w n))) := by
  have hn4 := hX.2.1
  have a1 := skp_ge (w := w) (Nat.zero_le n)
  have a2 := skp_le (w := w) (Nat.zero_le n)
  refine r_meth (by decide) (Nat.le_of_ble_eq_true rfl) (by simp [Value.category]) (fun G hK => rwpt_X12_readLaw_0 hK ?_); unfold rwp_X12_readLaw_0
  intro S1 e1
  rw [zps_init h4] at e1
  rw [e1]
  refine gV (r_blanks0 hX (Nat.zero_le n)) (by decide) ?_
  rw [zps_4, zps_o (t := 416) (k := 5) (by unfold zpx; omega), hX.1, n_inj (by omega) (by omega)]
  unfold zLaw
  refine ⟨fun h => ?_, fun h => ?_⟩
  · rw [if_neg h]
    generalize hRR : zLw w n 16 (skp w n 0) = RR
    have key : ∀ r M, M + r = 16 → ∀ (A : List ZCLS), A.length = M → ∀ p T b d k, p ≤ n → (zflat A).length ≤ p → (∀ m, m < A.length → zrow T A 192 m) → (∀ t k, ¬ zlx t k → T t k = S t k) → lbind A (zLw w n r p) = RR →
        zW E l mX12_readLaw 51 0 (zput G S) (rQ G (rX (QLW S RR))) k 24 [some (.ref (zp 416 0)), some (.int (Int32.ofNat M))] [] (zput G (zps T (zflat A) b p d)) := by
      intro r
      induction r with
      | zero =>
        intro M hM A hA p T b d k hp hC hrow hT he
        have hXT : TX T w n := ⟨by rw [hT _ _ (by unfold zlx zpx; omega)]; exact hX.1, hX.2.1, fun j hj => by rw [hT _ _ (by unfold zlx zpx; omega)]; exact hX.2.2 j hj⟩
        refine rwpt_X12_readLaw_24 hK ?_; unfold rwp_X12_readLaw_24
        refine gX (r_readClause hXT (m := M) hp (by omega) hC) (by decide) (fun y S2 hq => ?_)
        rw [if_pos (by omega)] at hq
        obtain ⟨rfl, q1, q2⟩ := hq
        rw [← he]
        refine ie (nn rfl) (rXq ⟨rfl, q1, fun t k h => ?_⟩)
        rw [q2 t k h, hT t k h]
      | succ r ih =>
        intro M hM A hA p T b d k hp hC hrow hT he
        have hXT : TX T w n := ⟨by rw [hT _ _ (by unfold zlx zpx; omega)]; exact hX.1, hX.2.1, fun j hj => by rw [hT _ _ (by unfold zlx zpx; omega)]; exact hX.2.2 j hj⟩
        refine rwpt_X12_readLaw_24 hK ?_; unfold rwp_X12_readLaw_24
        refine gX (r_readClause hXT (m := M) hp (by omega) hC) (by decide) (fun y S2 hq => ?_)
        rw [if_neg (by omega)] at hq
        unfold zLw at he
        cases hr : zCl w n p with
        | inl e =>
          rw [hr] at hq he
          obtain ⟨rfl, q1, q2⟩ := hq
          rw [← he]
          refine ie (nn rfl) (rXq ⟨rfl, q1, fun t k h => ?_⟩)
          rw [q2 t k h, hT t k h]
        | inr pc =>
          obtain ⟨p1, cl⟩ := pc
          rw [hr] at hq he
          obtain ⟨rfl, T2, b2, d2, rfl, t12, t13, t14, t15, tf⟩ := hq
          obtain ⟨o1, o2, o3, -⟩ := zCl_ok hp hr
          have c1 := skp_ge (w := w) o2
          have c2 := skp_le (w := w) o2
          have hfl : zflat (A ++ [cl]) = zflat A ++ cl.2.2 := by rw [zflat_app, zflat_1]
          have hla : (A ++ [cl]).length = M + 1 := by rw [List.length_append, hA]; rfl
          have hT2 : ∀ t k, ¬ zlx t k → T2 t k = S t k := fun t k h => by
            rw [tf t k (fun z => h (Or.inr ⟨z.1, by omega⟩))]; exact hT t k h
          have hX2 : TX T2 w n := ⟨by rw [hT2 _ _ (by unfold zlx zpx; omega)]; exact hX.1, hX.2.1, fun j hj => by rw [hT2 _ _ (by unfold zlx zpx; omega)]; exact hX.2.2 j hj⟩
          have hrow2 : ∀ m, m < (A ++ [cl]).length → zrow T2 (A ++ [cl]) 192 m := by
            intro m hm
            rw [hla] at hm
            unfold zrow
            by_cases em : m = M
            · have e3 : lcl (A ++ [cl]) m = cl := by rw [lcl_app, if_neg (by omega), show m - A.length = 0 by omega]; rfl
              rw [e3, em, zoff_app (by omega), ← hA, zoff_len]
              rw [← hA] at t12 t13 t14 t15
              exact ⟨t12, t13, t14, t15⟩
            · obtain ⟨r1, r2, r3, r4⟩ := hrow m (by omega)
              rw [lcl_app, if_pos (by omega), zoff_app (by omega), tf _ _ (by omega), tf _ _ (by omega), tf _ _ (by omega), tf _ _ (by omega)]
              exact ⟨r1, r2, r3, r4⟩
          refine it (by decide) ?_
          rw [← hfl]
          refine gV (r_blanks0 hX2 o2) (by decide) ?_
          rw [zps_4, zps_o (t := 416) (k := 5) (by unfold zpx; omega), hX2.1, n_inj (by omega) (by omega), n_p1]
          refine ⟨fun h5 => ?_, fun h5 => ?_⟩
          · have he : lbind A (if skp w n p1 = n then .inr [cl] else @ite _ (sgat w n p1 59) (Classical.propDecidable _) (match zLw w n r (skp w n p1 + 1) with
              | .inl e => .inl e
              | .inr L => .inr (cl :: L)) (.inl (skp w n p1))) = RR := he
            rw [if_neg h5] at he
            refine gI (r_isAt hX2 c2 (by decide) (by decide)) (by decide) ⟨fun h6 S9 e9 => ?_, fun h6 => ?_⟩
            · have h6 : sgat w n p1 59 := Classical.not_not.mp (fun z => h6 (zbz z))
              have hlt := h6.1
              rw [if_pos h6] at he
              rw [e9, zps_4, n_p1, zps_u4]
              refine ih (M + 1) (by omega) (A ++ [cl]) hla _ T2 _ _ _ (by omega) (by rw [hfl, List.length_append]; omega) hrow2 hT2 ?_
              rw [← he]
              cases zLw w n r (skp w n p1 + 1) with
              | inl e => rfl
              | inr L =>
                show Sum.inr _ = Sum.inr _
                rw [List.append_assoc]; rfl
            · have h6 : ¬ sgat w n p1 59 := zb_0.mp (Classical.not_not.mp h6)
              rw [if_neg h6] at he
              rw [← he]
              refine rXq ⟨rfl, zps_6, fun t k h => ?_⟩
              rw [zps_o (fun z => h (Or.inl z)), hT2 t k h]
          · have h5 := Classical.not_not.mp h5
            have he : lbind A (if skp w n p1 = n then .inr [cl] else @ite _ (sgat w n p1 59) (Classical.propDecidable _) (match zLw w n r (skp w n p1 + 1) with
              | .inl e => .inl e
              | .inr L => .inr (cl :: L)) (.inl (skp w n p1))) = RR := he
            rw [if_pos h5] at he
            rw [← he]
            refine rXq ⟨by rw [hla], by rw [hla]; omega, by rw [hfl, List.length_append]; omega, T2, _, _, _, rfl, hrow2, hT2⟩
    exact key 16 0 rfl [] rfl _ S _ _ _ a2 (Nat.zero_le _) (fun m hm => nomatch hm) (fun _ _ _ => rfl) (by rw [hRR]; cases RR <;> rfl)
  · rw [if_pos (Classical.not_not.mp h)]
    exact rXq ⟨rfl, by decide, by decide, S, _, _, _, rfl, fun m hm => absurd hm (Nat.not_lt_zero _), fun _ _ _ => rfl⟩
/-- slot j holds the law L -/
def zLS (S : ZS9) (j : Nat) (L : List ZCLS) : Prop := S 1111 j = Int32.ofNat L.length ∧ L.length ≤ 16 ∧ (zflat L).length ≤ 400 ∧ (∀ m, m < L.length → zrow S L (16 * j) m) ∧ ∀ i, i < (zflat L).length → S 1116 (400 * j + i) = (zcat (zflat L) i).1 ∧ S 1117 (400 * j + i) = (zcat (zflat L) i).2.1 ∧ S 1118 (400 * j + i) = (zcat (zflat L) i).2.2
/-- the cells of slot j -/
def zsl (j t k : Nat) : Prop := ((t = 1110 ∨ t = 1111) ∧ k = j) ∨ ((t = 1112 ∨ t = 1113 ∨ t = 1114 ∨ t = 1115) ∧ 16 * j ≤ k ∧ k < 16 * j + 16) ∨ ((t = 1116 ∨ t = 1117 ∨ t = 1118) ∧ 400 * j ≤ k ∧ k < 400 * j + 400)
def zsimL (j : Nat) (S S' : ZS9) : Prop := ∀ t k, ¬ zscr t k → ¬ zsl j t k → S' t k = S t k
def QL (S : ZS9) (from' : Int32) : Option Value → ZS9 → Prop := fun r S' => ∃ y, r = some (.int y) ∧
  ((¬ inn from' (S 416 1) 1000 → S' 416 0 = 1 ∧ zsim (zuse S) S') ∧ (inn from' (S 416 1) 1000 → match zLaw (wtape S) (nTp S) with
    | .inl e => S' 416 0 = 1 ∧ zsim (zup (zuse S) 416 8 (Int32.ofNat e)) S'
    | .inr L => (nL S = 12 → S' 416 0 = 2 ∧ zsim (zup (zuse S) 416 8 (-1)) S') ∧ (nL S ≠ 12 → S' 416 0 = 0 ∧ y = Int32.ofNat L.length ∧ S' 1110 (nL S) = from' ∧ zLS S' (nL S) L ∧ zsimL (nL S) (zup (zup (zuse S) 416 8 (-1)) 416 19 (S 416 19 + 1)) S')))
end ZRs
