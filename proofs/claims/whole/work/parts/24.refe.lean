/-! printing, serving, a desk's work, a day -/
theorem zend_s {S : ZS9} {p i : Nat} : zend S p (i + 1) = (fun t b => @ite _ (zendc S p (i + 1) t b) (Classical.propDecidable _) (S 416 1) (S t b)) := rfl
theorem zend_0 {S : ZS9} {p : Nat} : zend S p 0 = S := by
  funext t b
  unfold zend
  rw [if_neg (fun z => by have := z.2.1; omega)]
theorem zend_t {S : ZS9} {p i : Nat} (h : zendc S p (i + 1) 1169 i) : zend S p (i + 1) = zup (zend S p i) 1169 i (S 416 1) := by
  funext t b
  rw [zup_at]
  unfold zend
  by_cases e : t = 1169 ∧ b = i
  · obtain ⟨rfl, rfl⟩ := e
    rw [if_pos h, if_pos ⟨rfl, rfl⟩]
  · rw [if_neg e]
    by_cases h1 : zendc S p (i + 1) t b
    · rw [if_pos h1, if_pos ⟨h1.1, by have := h1.2.1; have := h1.1; omega, h1.2.2⟩]
    · rw [if_neg h1, if_neg (fun z => h1 ⟨z.1, by have := z.2.1; omega, z.2.2⟩)]
theorem zend_f {S : ZS9} {p i : Nat} (h : ¬ zendc S p (i + 1) 1169 i) : zend S p (i + 1) = zend S p i := by
  funext t b
  unfold zend
  by_cases h1 : zendc S p (i + 1) t b
  · have e : b ≠ i := fun e => h (by have := h1.1; subst e; subst this; exact h1)
    rw [if_pos h1, if_pos ⟨h1.1, by have := h1.2.1; omega, h1.2.2⟩]
  · rw [if_neg h1, if_neg (fun z => h1 ⟨z.1, by have := z.2.1; omega, z.2.2⟩)]
theorem zend_no {S : ZS9} {p i t b : Nat} (h : t ≠ 1169 ∨ i ≤ b) : zend S p i t b = S t b := by
  unfold zend
  rw [if_neg (fun z => by have := z.1; have := z.2.1; omega)]
theorem RI.end {S : ZS9} {p i : Nat} (hR : RI S) : RI (zend S p i) := hR.nb zdk.end (zend_no (by omega))
section ZRf
variable {E : ZE} {l : Launch} {S : ZS9}
theorem r_prints {a : Nat} (hR : RI S) (ha : a < nA S) (hb : nB S < 150) : rMet E l mX12_prints 2 0 [.int (Int32.ofNat a)] S (rV (zprints S a)) := by
  have hR0 := hR
  obtain ⟨⟨a1, a2⟩, ⟨p1, p2⟩, ⟨b1, b2⟩, -, hp, -⟩ := hR
  obtain ⟨hp1, hp2⟩ := hp a ha
  refine r_meth (by decide) (Nat.le_of_ble_eq_true rfl) (by simp [Value.category]) (fun G hK => rwpt_X12_prints_0 hK ?_); unfold rwp_X12_prints_0
  rw [n_nn (by omega), hp1]
  refine ⟨n_in (by omega) (by omega), ?_⟩
  -- the second half
  have back : ∀ k, zW E l mX12_prints 2 0 (zput G S) (rQ G (rV (zprints S a))) k 79 [some (.ref (zp 416 0)), some (.int (Int32.ofNat a)), some (.int (Int32.ofNat (pn S a))), none] [] (zput G (zprint1 S a)) := by
    intro k
    unfold zprints
    have hk1 : zdk S (zprint1 S a) := zdk.p1
    have hR1 : RI (zprint1 S a) := hR0.nb zdk.p1 nb_p1
    have ep : pn (zprint1 S a) a = pn S a := by unfold pn; rw [hk1 1153 a (by unfold zdc; omega)]
    have e53 : zprint1 S a 1153 a = Int32.ofNat (pn S a) := by rw [hk1 1153 a (by unfold zdc; omega), hp1]
    have eb : zprint1 S a 416 71 = Int32.ofNat (nB S) := by rw [nb_p1, b1]
    have enb : nB (zprint1 S a) = nB S := by unfold nB; rw [nb_p1]
    generalize zprint1 S a = T at *
    refine rwpt_X12_prints_79 hK ?_; unfold rwp_X12_prints_79
    rw [eb, n_nn (by omega), n_nn (by omega)]
    refine ⟨n_in (by omega) (by omega), fun S1 e1 => ?_⟩
    have f1 : S1 416 71 = Int32.ofNat (nB S) := by rw [e1, zup_at, if_neg (by omega), eb]
    rw [f1, n_nn (by omega)]
    refine ⟨n_in (by omega) (by omega), fun S2 e2 => ?_⟩
    have f2 : S2 416 71 = Int32.ofNat (nB S) := by rw [e2, zup_at, if_neg (by omega), f1]
    rw [f2, n_nn (by omega)]
    refine ⟨n_in (by omega) (by omega), n_in (by omega) (by omega), fun S3 e3 => ?_⟩
    have f3 : S3 416 71 = Int32.ofNat (nB S) := by rw [e3, zup_at, if_neg (by omega), f2]
    rw [f3, n_nn (by omega)]
    refine ⟨n_in (by omega) (by omega), fun S4 e4 => ?_⟩
    refine gV (r_sets (a := a) (w := 1) (by omega)) (by decide) (fun S7 e7 S8 e8 => ⟨n_in (by omega) (by omega), ?_⟩)
    have e9 : S8 = zprint2 T a := by
      have g1 : S1 416 1 = T 416 1 := by rw [e1, zup_at, if_neg (by omega)]
      have g2 : S2 416 1 = T 416 1 := by rw [e2, zup_at, if_neg (by omega), g1]
      have g3 : S2 1161 a = T 1161 a := by rw [e2, zup_at, if_neg (by omega), e1, zup_at, if_neg (by omega)]
      have f4 : S4 416 71 = T 416 71 := by rw [e4, zup_at, if_neg (by omega), f3, eb]
      have f5 : S4 416 43 = T 416 43 := by rw [e4, zup_at, if_neg (by omega), e3, zup_at, if_neg (by omega), e2, zup_at, if_neg (by omega), e1, zup_at, if_neg (by omega)]
      unfold zprint2
      rw [g1] at e2
      rw [g2, g3] at e3
      rw [e8, e7, zup_ne (a := 416) (j := 43) (by omega), zup_ne (a := 416) (j := 43) (by omega), zup_ne (a := 416) (j := 71) (by omega), f4, f5, e4, e3, e2, e1, enb, e53]
    have hk2 : zdk S (zprint2 T a) := hk1.tr zdk.p2
    rw [e9, n_nn (by omega)]
    generalize zprint2 T a = U at *
    have ew : zway U a = if U 2130 (pn S a) = 0 then U 416 40 else U 416 41 := by
      unfold zway
      rw [show pn U a = pn S a from by unfold pn; rw [hk2 1153 a (by unfold zdc; omega)]]
    have last : ∀ w, w = zway U a → ∀ k, zW E l mX12_prints 2 0 (zput G S) (rQ G (rV (zprint3 U a))) k 186 [some (.ref (zp 416 0)), some (.int (Int32.ofNat a)), none, none] [.int w] (zput G U) := by
      intro w hw k
      refine rwpt_X12_prints_186 hK ?_; unfold rwp_X12_prints_186
      refine gV (r_sets (a := a) (w := 4) (by omega)) (by decide) ?_
      rw [hw]
      unfold zprint3
      refine ⟨fun h => gV (r_sets (a := a) (w := 0) (by omega)) (by decide) ⟨rfl, ?_⟩, fun h => gV (r_gets (by omega)) (by decide) ⟨rfl, ?_⟩⟩
      · rw [if_neg h]
      · rw [if_pos (Classical.not_not.mp h)]
    refine ⟨fun h => last _ ?_ _, fun h => last _ ?_ _⟩
    · rw [ew, if_pos h]
    · rw [ew, if_neg h]
  by_cases h3 : S 1154 a = 3
  · have e1 : zprint1 S a = S := if_pos h3
    rw [e1] at back
    refine rwpt_X12_prints_9 hK ?_; unfold rwp_X12_prints_9
    rw [n_nn (by omega)]
    exact ⟨fun _ => back _, fun _ => ⟨n_in (by omega) (by omega), it h3 (back _)⟩⟩
  · have e1 : zprint1 S a = zend S (pn S a) (nB S) := if_neg h3
    rw [e1] at back
    have key : ∀ i, i ≤ nB S → ∀ k, zW E l mX12_prints 2 0 (zput G S) (rQ G (rV (zprints S a))) k 9 [some (.ref (zp 416 0)), some (.int (Int32.ofNat a)), some (.int (Int32.ofNat (pn S a))), some (.int (Int32.ofNat i))] [] (zput G (zend S (pn S a) i)) := by
      refine zdown (fun k => ?_) (fun i hi ih k => ?_)
      · refine rwpt_X12_prints_9 hK ?_; unfold rwp_X12_prints_9
        refine it (by rw [zend_no (by omega), b1, n_le (by omega) (by omega)]; omega) (back k)
      · have ih := ih k
        refine rwpt_X12_prints_9 hK ?_; unfold rwp_X12_prints_9
        rw [n_nn (by omega), n_nn (by omega), n_p1, zend_no (t := 416) (by omega), zend_no (t := 416) (by omega), zend_no (t := 1154) (by omega), zend_no (t := 1167) (by omega), zend_no (t := 1168) (by omega), zend_no (t := 1169) (b := i) (by omega)]
        refine ie (by rw [b1, n_le (by omega) (by omega)]; omega) ⟨n_in (by omega) (by omega), ie h3 ⟨n_in (by omega) (by omega), fun h => ?_, fun h => ⟨n_in (by omega) (by omega), fun h2 => ?_, fun h2 => ⟨n_in (by omega) (by omega), fun h4 => ?_, fun h4 => ⟨n_in (by omega) (by omega), fun S1 e1 => ?_⟩⟩⟩⟩⟩
        · rw [zend_f (fun z => h z.2.2.1)] at ih; exact ih
        · rw [zend_f (fun z => z.2.2.2.1 h2)] at ih; exact ih
        · rw [zend_f (fun z => z.2.2.2.2 h4)] at ih; exact ih
        · rw [e1, ← zend_t ⟨rfl, by omega, Classical.not_not.mp h, h2, h4⟩]; exact ih
    have := key 0 (by omega) 0
    rw [zend_0] at this
    exact this
theorem r_does {d a : Nat} (hR : RI S) (ha : a < nA S) (hd : d < 4) (hb : d = 3 → nB S < 150) : rMet E l mX12_does 3 0 [.int (Int32.ofNat d), .int (Int32.ofNat a)] S (rV (zdoes S d a)) := by
  have ha2 := hR.1.2
  refine r_meth (by decide) (Nat.le_of_ble_eq_true rfl) (by simp [Value.category]) (fun G hK => rwpt_X12_does_0 hK ?_); unfold rwp_X12_does_0
  match d, hd with
  | 0, _ =>
    refine ⟨fun _ => gV (r_sets (a := a) (w := 2) (by omega)) (by decide) (gI (r_lacksOf (by omega)) (by decide) ?_), fun h => absurd h (by decide), fun h => absurd h (by decide), fun h => absurd rfl h⟩
    have el : ∀ t k, t = 1159 ∨ t = 1157 → ∀ w x, zup S 1165 (7 * a + w) x t k = S t k := fun t k h w x => by rw [zup_at, if_neg (by omega)]
    have e1 : rLacks (zup S 1165 (7 * a + 2) (S 416 1)) a = rLacks S a := by unfold rLacks; rw [el _ _ (Or.inl rfl), el _ _ (Or.inr rfl)]
    have i54 : ∀ s0, s0 = (if rLacks S a = 0 then 2 else 1) → ∀ k, zW E l mX12_does 3 0 (zput G S) (rQ G (rV (zdoes S 0 a))) k 54 [some (.ref (zp 416 0)), none, some (.int (Int32.ofNat a))] [.int s0, .int 0, .int (Int32.ofNat a), .ref (zp 416 0)] (zput G (zup S 1165 (7 * a + 2) (S 416 1))) := by
      intro s0 hs k
      refine rwpt_X12_does_54 hK ?_; unfold rwp_X12_does_54
      refine gV (r_sets (a := a) (w := 0) (by omega)) (by decide) (gI (r_now (a := a) (w := 5) (by omega)) (by decide) (gI (r_lacksOf (by omega)) (by decide) ?_))
      have e2 : rLacks (zup (zup S 1165 (7 * a + 2) (S 416 1)) 1165 (7 * a + 0) s0) a = rLacks S a := by unfold rLacks; simp only [zup_at]; simp
      have e3 : zup (zup S 1165 (7 * a + 2) (S 416 1)) 1165 (7 * a + 0) s0 1165 (7 * a + 5) = S 1165 (7 * a + 5) := by rw [zup_at, if_neg (by omega), zup_at, if_neg (by omega)]
      rw [e2, e3]
      refine ⟨fun h => gV (r_sets (a := a) (w := 5) (by omega)) (by decide) ⟨rfl, ?_⟩, fun h => gV (r_sets (a := a) (w := 5) (by omega)) (by decide) ⟨rfl, ?_⟩⟩
      · show _ = zread S a
        unfold zread
        rw [hs, if_neg h, if_neg h]
      · show _ = zread S a
        unfold zread
        rw [hs, if_pos (Classical.not_not.mp h), if_pos (Classical.not_not.mp h)]
    rw [e1]
    refine ⟨fun h => i54 _ ?_ _, fun h => i54 _ ?_ _⟩
    · rw [if_neg h]
    · rw [if_pos (Classical.not_not.mp h)]
  | 1, _ => exact ⟨fun h => absurd h (by decide), fun _ => gV (r_checks hR ha) (by decide) ⟨rfl, rfl⟩, fun h => absurd h (by decide), fun _ h => absurd rfl h⟩
  | 2, _ => exact ⟨fun h => absurd h (by decide), fun h => absurd h (by decide), fun _ => gV (r_sets (a := a) (w := 0) (by omega)) (by decide) ⟨rfl, rfl⟩, fun _ _ h => absurd rfl h⟩
  | 3, _ => exact ⟨fun h => absurd h (by decide), fun h => absurd h (by decide), fun h => absurd h (by decide), fun _ _ _ => gV (r_prints hR ha (hb rfl)) (by decide) ⟨rfl, rfl⟩⟩
end ZRf
theorem nA_dk {S S' : ZS9} (h : zdk S S') : nA S' = nA S := by unfold nA; rw [h 416 66 (by unfold zdc; omega)]
theorem zdoes_row {S : ZS9} {d a k : Nat} : zdoes S d a 1177 k = S 1177 k := by
  have hz : ∀ S' : ZS9, zgets S' a 1177 k = S' 1177 k := fun S' => by unfold zgets zgets2; split <;> simp only [zup_at] <;> simp
  unfold zdoes
  split
  · unfold zread; simp only [zup_at]; simp
  · split
    · unfold zchk; rw [zup_at, if_neg (by omega)]
    · split
      · rw [zup_at, if_neg (by omega)]
      · unfold zprints zprint3
        have e2 : zprint2 (zprint1 S a) a 1177 k = S 1177 k := by
          unfold zprint2 zprint1
          simp only [zup_at]
          simp
          split
          · rfl
          · exact zend_no (by omega)
        split
        · rw [hz, zup_at, if_neg (by omega), e2]
        · rw [zup_at, if_neg (by omega), zup_at, if_neg (by omega), e2]
theorem zdoes_416 {S : ZS9} {d a k : Nat} (hk : k ≠ 71 ∧ k ≠ 43 ∧ k ≠ 73) : zdoes S d a 416 k = S 416 k := by
  have hz : ∀ S' : ZS9, zgets S' a 416 k = S' 416 k := fun S' => by unfold zgets zgets2; split <;> simp only [zup_at] <;> simp [hk]
  unfold zdoes
  split
  · unfold zread; simp only [zup_at]; simp
  · split
    · unfold zchk; rw [zup_at, if_neg (by omega)]
    · split
      · rw [zup_at, if_neg (by omega)]
      · unfold zprints zprint3
        have e2 : zprint2 (zprint1 S a) a 416 k = S 416 k := by
          unfold zprint2 zprint1
          simp only [zup_at]
          simp [hk]
          split
          · rfl
          · exact zend_no (by omega)
        split
        · rw [hz, zup_at, if_neg (by omega), e2]
        · rw [zup_at, if_neg (by omega), zup_at, if_neg (by omega), e2]
theorem zsrv_dk {d : Nat} : ∀ {L : List Nat} {u : Int32} {S : ZS9}, zdk S (zsrv d L u S).2
  | [], _, _ => zdk.rf
  | a :: L, u, S => by
    unfold zsrv
    by_cases h : u < ztakes S d a ∨ (d = 3 ∧ ¬ zcan S)
    · rw [if_pos h]; exact zdk.rf
    · rw [if_neg h]; exact zdk.does.tr zsrv_dk
theorem zsrv_RI {d : Nat} (hd : d < 4) : ∀ {L : List Nat} {u : Int32} {S : ZS9}, RI S → RI (zsrv d L u S).2
  | [], _, _, h => h
  | a :: L, u, S, hR => by
    unfold zsrv
    by_cases h : u < ztakes S d a ∨ (d = 3 ∧ ¬ zcan S)
    · rw [if_pos h]; exact hR
    · rw [if_neg h]
      exact zsrv_RI hd (hR.does (fun e => Classical.byContradiction fun z => h (Or.inr ⟨e, z⟩)) hd)
theorem zworks_dk {S : ZS9} {d : Nat} {r : Int32} : zdk S (zworks S d r) := by
  unfold zworks zwork1 zwork0
  exact (zdk.rw.tr zsrv_dk).tr (zdk.up (by unfold zdc; omega))
theorem zworks_RI {S : ZS9} {d : Nat} {r : Int32} (hd : d < 4) (hR : RI S) : RI (zworks S d r) := by
  unfold zworks zwork1 zwork0
  exact (zsrv_RI hd (hR.rw _)).up (by omega)
section ZRg
variable {E : ZE} {l : Launch} {S : ZS9}
theorem r_works {d : Nat} {r : Int32} (hR : RI S) (hd : d < 4) (hr : r = 0 ∨ r = 1 ∨ r = 2) : rMet E l mX12_works 4 0 [.int (Int32.ofNat d), .int r] S (rV (zworks S d r)) := by
  have hR0 := hR
  obtain ⟨⟨a1, a2⟩, -, -, ⟨t1, t2⟩, -, hu⟩ := hR
  refine r_meth (by decide) (Nat.le_of_ble_eq_true rfl) (by simp [Value.category]) (fun G hK => rwpt_X12_works_0 hK ?_); unfold rwp_X12_works_0
  have loop : ∀ (B A : List Nat), A ++ B = zline S r (rSt d) (nA S) → ∀ u T k, RI T → zdk S T → (∀ j, T 1177 j = zwork0 S d r 1177 j) → T 416 78 = Int32.ofNat (zline S r (rSt d) (nA S)).length → zsrv d B u T = zwork1 S d r →
      zW E l mX12_works 4 0 (zput G S) (rQ G (rV (zworks S d r))) k 34 [some (.ref (zp 416 0)), some (.int (Int32.ofNat d)), none, some (.int u), some (.int (Int32.ofNat A.length)), none] [] (zput G T) := by
    intro B
    have hlen := zline_len (S := S) (r := r) (st := rSt d) (n := nA S)
    induction B with
    | nil =>
      intro A hA u T k hT hkT hrow hw hs
      rw [List.append_nil] at hA
      refine rwpt_X12_works_34 hK ?_; unfold rwp_X12_works_34
      refine it (by rw [hw, hA, n_le (by omega) (by omega)]; omega) (fun S1 e1 => ⟨rfl, ?_⟩)
      rw [e1]
      unfold zworks
      rw [← hs]; rfl
    | cons a B ihB =>
      intro A hA u T k hT hkT hrow hw hs
      have hl2 : A.length + (B.length + 1) = (zline S r (rSt d) (nA S)).length := by rw [← hA, List.length_append, List.length_cons]
      have haL : a ∈ zline S r (rSt d) (nA S) := by rw [← hA]; simp
      have han := (zline_mem.mp haL).1
      have ea : T 1177 A.length = Int32.ofNat a := by
        rw [hrow]
        unfold zwork0 zrw
        rw [if_pos ⟨rfl, by omega⟩, ← hA, zat_app, if_neg (by omega), Nat.sub_self, zat_c0]
      refine rwpt_X12_works_34 hK ?_; unfold rwp_X12_works_34
      rw [n_nn (by omega), ea, n_p1]
      refine ie (by rw [hw, n_le (by omega) (by omega)]; omega) ⟨n_in (by omega) (by omega), gI (r_takes hd (by omega)) (by decide) ⟨fun h => ?_, fun h => ?_⟩⟩
      · intro S5 e5
        refine ⟨rfl, ?_⟩
        unfold zsrv at hs
        rw [if_pos (Or.inl h)] at hs
        rw [e5]; unfold zworks; rw [← hs]
      · have go : (d = 3 → zcan T) → zW E l mX12_works 4 0 (zput G S) (rQ G (rV (zworks S d r))) k 34 [some (.ref (zp 416 0)), some (.int (Int32.ofNat d)), none, some (.int (u - ztakes T d a)), some (.int (Int32.ofNat (A.length + 1))), none] [] (zput G (zdoes T d a)) := by
          intro hc
          unfold zsrv at hs
          rw [if_neg (by rintro (z | ⟨z1, z2⟩); exact h z; exact z2 (hc z1))] at hs
          have := ihB (A ++ [a]) (by rw [← hA]; simp) (u - ztakes T d a) (zdoes T d a) k (hT.does hc hd) (hkT.tr zdk.does) (fun j => by rw [zdoes_row, hrow]) (by rw [zdoes_416 (by decide), hw]) hs
          rw [List.length_append] at this
          exact this
        have hna : nA T = nA S := nA_dk hkT
        refine ⟨fun h3 => ⟨n_in (by omega) (by omega), by
          rw [ea]
          exact gV (r_does hT (by omega) hd (fun e => absurd (by rw [e]; rfl) h3)) (by decide) (go (fun e => absurd (by rw [e]; rfl) h3))⟩, fun h3 => gI r_canPrint (by decide) ⟨fun h4 => ⟨n_in (by omega) (by omega), ?_⟩, fun h4 S13 e13 => ⟨rfl, ?_⟩⟩⟩
        · have hc : zcan T := Classical.not_not.mp (fun z => h4 (zbz z))
          rw [ea]
          exact gV (r_does hT (by omega) hd (fun e => zcan_nb hT hc)) (by decide) (go (fun _ => hc))
        · have hc : ¬ zcan T := zb_0.mp (Classical.not_not.mp h4)
          have hd3 : d = 3 := by
            have := Classical.not_not.mp h3
            rw [show (3 : Int32) = Int32.ofNat 3 from rfl, n_inj (by omega) (by omega)] at this
            exact this
          unfold zsrv at hs
          rw [if_pos (Or.inr ⟨hd3, hc⟩)] at hs
          rw [e13]; unfold zworks; rw [← hs]
  have start : ∀ u k, u = zunits0 S d → zW E l mX12_works 4 0 (zput G S) (rQ G (rV (zworks S d r))) k 34 [some (.ref (zp 416 0)), some (.int (Int32.ofNat d)), none, some (.int u), some (.int 0), none] [] (zput G (zrw S (zline S r (rSt d) (nA S)))) := by
    intro u k hu
    refine loop (zline S r (rSt d) (nA S)) [] rfl u _ k (hR0.rw _) zdk.rw (fun j => rfl) ?_ (by rw [hu]; rfl)
    unfold zrw
    rw [if_neg (by omega), if_pos ⟨rfl, rfl⟩]
  refine gI (r_unitsOf hd t1 t2) (by decide) ⟨fun h => gV (r_lines a1 a2 hr hu) (by decide) (start _ _ ?_), fun h => sI (fun _ => s_max _ _) (by decide) (gV (r_lines a1 a2 hr hu) (by decide) (start _ _ ?_))⟩
  · unfold zunits0
    rw [if_neg (fun e => h (by rw [e]; rfl))]
  · have hd0 : d = 0 := by
      have := Classical.not_not.mp h
      rw [show (0 : Int32) = Int32.ofNat 0 from rfl, n_inj (by omega) (by omega)] at this
      exact this
    unfold zunits0
    rw [if_pos hd0]
theorem zpost_dk : ∀ {n : Nat}, zdk S (zpost S n)
  | 0 => zdk.rf
  | n + 1 => by
    unfold zpost
    split
    · exact zpost_dk.tr zdk.gets
    · exact zpost_dk
theorem zpost_416 {k : Nat} (hk : k ≠ 73) : ∀ {n : Nat}, zpost S n 416 k = S 416 k
  | 0 => rfl
  | n + 1 => by
    unfold zpost
    split
    · unfold zgets zgets2
      split
      · simp only [zup_at]; simp; exact zpost_416 hk
      · simp only [zup_at]; simp [hk]; exact zpost_416 hk
    · exact zpost_416 hk
theorem zday0_RI (hR : RI S) : RI (zday0 S) := by
  unfold zday0 zcalls
  have h1 : RI (zup S 416 1 (S 416 1 + 1)) := hR.up (by omega)
  have h2 := h1.nb (zpost_dk (n := nA S)) (zpost_416 (by decide))
  exact ((h2.up (by omega)).up (by omega)).up (by omega)
theorem zday0_dk : zdk S (zday0 S) := by
  unfold zday0 zcalls
  exact ((((zdk.up (by unfold zdc; omega)).tr zpost_dk).tr (zdk.up (by unfold zdc; omega))).tr (zdk.up (by unfold zdc; omega))).tr (zdk.up (by unfold zdc; omega))
theorem zday_RI {r : Int32} (hR : RI S) : RI (zday S r) := zworks_RI (by decide) (zworks_RI (by decide) (zworks_RI (by decide) (zworks_RI (by decide) (zday0_RI hR))))
theorem zday_dk {r : Int32} : zdk S (zday S r) := (((zday0_dk.tr zworks_dk).tr zworks_dk).tr zworks_dk).tr zworks_dk
theorem r_day {r : Int32} (hR : RI S) (hr : r = 0 ∨ r = 1 ∨ r = 2) : rMet E l mX12_day 5 0 [.int r] S (rV (zday S r)) := by
  refine r_meth (by decide) (Nat.le_of_ble_eq_true rfl) (by simp [Value.category]) (fun G hK => rwpt_X12_day_0 hK ?_); unfold rwp_X12_day_0
  intro S1 e1
  have hR1 : RI S1 := by rw [e1]; exact hR.up (by omega)
  have en : nA S1 = nA S := by rw [e1]; unfold nA; rw [zup_at, if_neg (by omega)]
  have hd0 : zday0 S = zcalls (zpost S1 (nA S)) := by unfold zday0; rw [e1]
  have a1 := hR1.1
  rw [en] at a1
  have desks : ∀ k, zW E l mX12_day 5 0 (zput G S) (rQ G (rV (zday S r))) k 136 [some (.ref (zp 416 0)), some (.int r), none, some (.int 0)] [] (zput G (zday0 S)) := by
    intro k
    have g0 := zday0_RI hR
    have g1 := zworks_RI (d := 0) (r := r) (by decide) g0
    have g2 := zworks_RI (d := 1) (r := r) (by decide) g1
    have g3 := zworks_RI (d := 2) (r := r) (by decide) g2
    refine rwpt_X12_day_136 hK ?_; unfold rwp_X12_day_136
    refine ie (by decide) (gV (r_works (d := 0) g0 (by decide) hr) (by decide) ?_)
    refine rwpt_X12_day_136 hK ?_; unfold rwp_X12_day_136
    refine ie (by decide) (gV (r_works (d := 1) g1 (by decide) hr) (by decide) ?_)
    refine rwpt_X12_day_136 hK ?_; unfold rwp_X12_day_136
    refine ie (by decide) (gV (r_works (d := 2) g2 (by decide) hr) (by decide) ?_)
    refine rwpt_X12_day_136 hK ?_; unfold rwp_X12_day_136
    refine ie (by decide) (gV (r_works (d := 3) g3 (by decide) hr) (by decide) ?_)
    refine rwpt_X12_day_136 hK ?_; unfold rwp_X12_day_136
    exact it (by decide) ⟨rfl, rfl⟩
  have calls : ∀ k, zW E l mX12_day 5 0 (zput G S) (rQ G (rV (zday S r))) k 59 [some (.ref (zp 416 0)), some (.int r), some (.int 0), some (.int 0)] [] (zput G (zpost S1 (nA S))) := by
    intro k
    have hR2 := hR1.nb (zpost_dk (S := S1) (n := nA S)) (zpost_416 (by decide))
    have en2 : nA (zpost S1 (nA S)) = nA S := (nA_dk zpost_dk).trans en
    generalize zpost S1 (nA S) = T at *
    have a2 := hR2.1
    rw [en2] at a2
    have key : ∀ i, i ≤ nA S → ∀ k, zW E l mX12_day 5 0 (zput G S) (rQ G (rV (zday S r))) k 59 [some (.ref (zp 416 0)), some (.int r), some (.int (zcnt (zimp T) i)), some (.int (Int32.ofNat i))] [] (zput G T) := by
      refine zdown (fun k => ?_) (fun i hi ih k => ?_)
      · refine rwpt_X12_day_59 hK ?_; unfold rwp_X12_day_59
        refine it (by rw [a2.1, n_le (by omega) (by omega)]; omega) (fun T1 e1 T2 e2 T3 e3 => ?_)
        have : T3 = zday0 S := by
          rw [hd0]
          unfold zcalls
          rw [en2, e3, e2, e1, zup_at _ _ _ _ 416 74, if_pos ⟨rfl, rfl⟩, zup_at _ _ _ _ 416 75, if_neg (by omega)]
        rw [this]
        exact desks k
      · have ih := ih k
        refine rwpt_X12_day_59 hK ?_; unfold rwp_X12_day_59
        rw [n_p1, Int32.add_zero]
        refine ie (by rw [a2.1, n_le (by omega) (by omega)]; omega) (gI (r_now (a := i) (w := 0) (by omega)) (by decide) ⟨fun h => ?_, fun h => ⟨n_in (by omega) (by omega), ?_⟩⟩)
        · rw [zcnt_f (fun z => z.1 h)] at ih; exact ih
        · rw [n_nn (by omega)]
          refine ⟨fun h2 => ?_, fun h2 => ?_⟩
          · rw [zcnt_f (fun z => z.2 h2)] at ih; exact ih
          · rw [zcnt_t ⟨h, h2⟩] at ih; exact ih
    exact key 0 (by omega) k
  have key : ∀ i, i ≤ nA S → ∀ k, zW E l mX12_day 5 0 (zput G S) (rQ G (rV (zday S r))) k 12 [some (.ref (zp 416 0)), some (.int r), some (.int (Int32.ofNat i)), none] [] (zput G (zpost S1 i)) := by
    refine zdown (fun k => ?_) (fun i hi ih k => ?_)
    · refine rwpt_X12_day_12 hK ?_; unfold rwp_X12_day_12
      exact it (by rw [zpost_416 (by decide), a1.1, n_le (by omega) (by omega)]; omega) (calls k)
    · have ih := ih k
      refine rwpt_X12_day_12 hK ?_; unfold rwp_X12_day_12
      rw [n_p1]
      refine ie (by rw [zpost_416 (by decide), a1.1, n_le (by omega) (by omega)]; omega) (gI (r_now (a := i) (w := 0) (by omega)) (by decide) ⟨fun h => ?_, fun h => gI (r_now (a := i) (w := 4) (by omega)) (by decide) ⟨fun h2 => ?_, fun h2 => gV (r_gets (by omega)) (by decide) ?_⟩⟩)
      · unfold zpost at ih; rw [if_neg (fun z => h z.1)] at ih; exact ih
      · unfold zpost at ih; rw [if_neg (fun z => z.2 h2)] at ih; exact ih
      · unfold zpost at ih; rw [if_pos ⟨Classical.not_not.mp h, h2⟩] at ih; exact ih
  exact key 0 (by omega) _
end ZRg
