/-! further public methods of the reference -/
/-- cells outside 416.0 are as before: what is counted is as before -/
theorem zval_cg {S S' : ZS9} (h : ∀ t k, t = 1167 ∨ t = 1168 ∨ t = 1169 → S' t k = S t k) (x day : Int32) (n : Nat) : zcnt (zval S' x day) n = zcnt (zval S x day) n :=
  zcnt_if (fun i _ => by unfold zval; rw [h _ _ (by omega), h _ _ (by omega), h _ _ (by omega)])
theorem zlaw_cg {S S' : ZS9} {day : Int32} {n : Nat} (h : ∀ j, j < n → S' 1110 j = S 1110 j) : zlaw S' day n = zlaw S day n := by
  induction n with
  | zero => rfl
  | succ n ih =>
    have ih := ih (fun j hj => h j (by omega))
    have e : (¬ day < S' 1110 n ∧ ∀ b, zlaw S' day n = some b → ¬ S' 1110 n < S' 1110 b) ↔ (¬ day < S 1110 n ∧ ∀ b, zlaw S day n = some b → ¬ S 1110 n < S 1110 b) := by
      rw [ih, h n (by omega)]
      refine and_congr_right fun _ => ⟨fun z b hb => ?_, fun z b hb => ?_⟩
      · rw [← h b (by have := zlaw_lt hb; omega)]; exact z b hb
      · rw [h b (by have := zlaw_lt hb; omega)]; exact z b hb
    by_cases hc : (¬ day < S 1110 n ∧ ∀ b, zlaw S day n = some b → ¬ S 1110 n < S 1110 b)
    · rw [zlaw_t hc, zlaw_t (e.mpr hc)]
    · rw [zlaw_f hc, zlaw_f (fun z => hc (e.mp z)), ih]
theorem zline_cg {S S' : ZS9} {r st : Int32} (h : ∀ t k, t = 1165 ∨ t = 2158 ∨ t = 1155 ∨ t = 1156 ∨ t = 1157 → S' t k = S t k) (n : Nat) : zline S' r st n = zline S r st n := by
  have hz : ∀ a L, zins S' r a L = zins S r a L := by
    intro a L
    induction L with
    | nil => rfl
    | cons b L ih =>
      have e : zlt S' r a b ↔ zlt S r a b := zlt_cg (fun t k h2 => h t k (by omega))
      unfold zins
      by_cases hc : zlt S r a b
      · rw [if_pos hc, if_pos (e.mpr hc)]
      · rw [if_neg hc, if_neg (fun z => hc (e.mp z)), ih]
  induction n with
  | zero => rfl
  | succ n ih => unfold zline; rw [h _ _ (by omega), ih, hz]
section ZRj
variable {E : ZE} {l : Launch} {S : ZS9}
theorem r_lose (hR : RI S) (hB : ∀ a, a < nA S → S 1165 (7 * a + 0) = 6 → zin (S 1165 (7 * a + 1)) (nB S)) (x : Int32) : rMet E l mX12_lose 2 0 [.int x] S (rN (fLose S x)) := by
  have hA := hR.1
  have hb := hR.2.2.1
  refine r_meth (by decide) (Nat.le_of_ble_eq_true rfl) (by simp [Value.category]) (fun G hK => rwpt_X12_lose_0 hK ?_); unfold rwp_X12_lose_0
  intro S1 e1; have z1 : ∀ t k, ¬ (t = 416 ∧ k = 0) → S1 t k = S t k := fun t k h => by rw [e1, zup_at, if_neg h]
  have s1 : zsim S S1 := by rw [e1]; exact zs0 zsim.rf
  have t1 : S1 416 0 = 0 := by rw [e1]; exact zup_s _ _ _ _
  refine gI (r_noAsking (n := nA S) x (by rw [z1 _ _ (by omega), hA.1]) (by omega)) (by decide) (gT (by decide) (fun h => it (by decide) ?_) (fun h => ie (by decide) ?_))
  · unfold fLose; rw [f3t h]; exact rN1 s1
  · obtain ⟨a, ha, rfl⟩ := zin_of (Classical.not_not.mp h) (by omega)
    have ef : fLose S (Int32.ofNat a) = fCalls3 (¬ S 1165 (7 * a + 0) = 6) (2, 0, S) (0, 0, zlose S a) := by unfold fLose; rw [f3f h, n_nn (by omega)]
    rw [ef]
    generalize hF : fCalls3 (¬ S 1165 (7 * a + 0) = 6) (2, 0, S) (0, 0, zlose S a) = F
    have cut : ∀ s0, s0 = zb (¬ S 1165 (7 * a + 0) = 6) → ∀ k, zW E l mX12_lose 2 0 (zput G S) (rQ G (rN F)) k 35 [some (.ref (zp 416 0)), some (.int (Int32.ofNat a)), none] [.int s0, .ref (zp 416 0)] (zput G S1) := by
      intro s0 hs k
      refine rwpt_X12_lose_35 hK ?_; unfold rwp_X12_lose_35
      rw [hs, ← hF]
      refine gT (by decide) (fun h2 => ie (by decide) ?_) (fun h2 => it rfl (gV (r_sets (a := a) (w := 0) (by omega)) (by decide) (gI (r_now (a := a) (w := 1) (by omega)) (by decide) ?_)))
      · rw [f3t h2]; exact rN1 s1
      · rw [f3f h2]
        obtain ⟨i, hi, ei⟩ := zin_of (hB a ha (Classical.not_not.mp h2)) (by omega)
        have e8 : zup S1 1165 (7 * a + 0) 8 1165 (7 * a + 1) = Int32.ofNat i := by rw [zup_ne (by omega), z1 _ _ (by omega), ei]
        rw [e8, n_nn (by omega)]
        refine ⟨n_in (by omega) (by omega), sI (fun _ => s_min _ _) (by decide) ⟨n_in (by omega) (by omega), fun S10 e10 => ?_⟩⟩
        rw [e10, zup_ne (by omega), zup_ne (by omega), z1 _ _ (by omega), z1 _ _ (by omega)]
        unfold zlose
        rw [ei, n_nn (by omega)]
        exact rN0 s1.cg.cg (by rw [zup_ne (by omega), zup_ne (by omega), t1])
    refine gI (r_now (a := a) (w := 0) (by omega)) (by decide) ?_
    rw [z1 1165 _ (by omega)]
    exact ⟨fun h2 => cut 0 (zbz (nn h2)).symm _, fun h2 => cut 1 (zb_t h2).symm _⟩
theorem r_led (hR : RI S) (x w : Int32) : rMet E l mX12_led 2 0 [.int x, .int w] S (rR (fLed S x w)) := by
  have hA := hR.1
  refine r_meth (by decide) (Nat.le_of_ble_eq_true rfl) (by simp [Value.category]) (fun G hK => rwpt_X12_led_0 hK ?_); unfold rwp_X12_led_0
  intro S1 e1; have z1 : ∀ t k, ¬ (t = 416 ∧ k = 0) → S1 t k = S t k := fun t k h => by rw [e1, zup_at, if_neg h]
  have s1 : zsim S S1 := by rw [e1]; exact zs0 zsim.rf
  have t1 : S1 416 0 = 0 := by rw [e1]; exact zup_s _ _ _ _
  refine gI (r_noAsking (n := nA S) x (by rw [z1 _ _ (by omega), hA.1]) (by omega)) (by decide) (gT (by decide) (fun h => ie (by decide) ?_) (fun h => it rfl ?_))
  · unfold fLed; rw [f3t h]; exact rR1 s1 (by decide)
  · obtain ⟨a, ha, rfl⟩ := zin_of (Classical.not_not.mp h) (by omega)
    have ef : fLed S (Int32.ofNat a) w = ((zled S a w).1, (zled S a w).2, S) := by unfold fLed; rw [f3f h, n_nn (by omega)]
    rw [ef, n_nn (by omega)]
    have ok : ∀ y v, v = y → zled S a w = (0, v) → rR ((zled S a w).1, (zled S a w).2, S) (some (.int y)) S1 := fun y v hy he => by rw [he]; exact rR0 s1 t1 hy.symm
    have vv : vp_in (Int32.ofNat a) 120 := n_in (by omega) (by omega)
    refine ⟨fun h => gI (r_now (a := a) (w := 0) (by omega)) (by decide) (ok _ _ (z1 _ _ (by omega)).symm (by subst h; rfl)), fun h => ⟨vv, ok _ _ (z1 _ _ (by omega)).symm (by subst h; rfl)⟩, fun h => ⟨vv, ok _ _ (z1 _ _ (by omega)).symm (by subst h; rfl)⟩, fun h => ⟨vv, ok _ _ (z1 _ _ (by omega)).symm (by subst h; rfl)⟩, fun h => ⟨vv, ok _ _ (z1 _ _ (by omega)).symm (by subst h; rfl)⟩, fun h => ⟨vv, ok _ _ (z1 _ _ (by omega)).symm (by subst h; rfl)⟩, fun h => gI (r_lacksOf (by omega)) (by decide) (ok _ (rLacks S a) ?_ (by subst h; rfl)), fun h => ⟨vv, ok _ _ (z1 _ _ (by omega)).symm (by subst h; rfl)⟩, fun h => gI (r_now (a := a) (w := 6) (by omega)) (by decide) (ok _ _ (z1 _ _ (by omega)).symm (by subst h; rfl)), fun h => ⟨vv, ok _ _ (z1 _ _ (by omega)).symm (by subst h; rfl)⟩, fun h => ⟨vv, ok _ _ (z1 _ _ (by omega)).symm (by subst h; rfl)⟩, fun h => gI (r_now (a := a) (w := 1) (by omega)) (by decide) (ok _ _ (z1 _ _ (by omega)).symm (by subst h; rfl)), fun h => gI (r_now (a := a) (w := 2) (by omega)) (by decide) (ok _ _ (z1 _ _ (by omega)).symm (by subst h; rfl)), fun h => gI (r_now (a := a) (w := 3) (by omega)) (by decide) (ok _ _ (z1 _ _ (by omega)).symm (by subst h; rfl)), fun h => gI (r_now (a := a) (w := 4) (by omega)) (by decide) (ok _ _ (z1 _ _ (by omega)).symm (by subst h; rfl)), fun h => gI (r_now (a := a) (w := 5) (by omega)) (by decide) (ok _ _ (z1 _ _ (by omega)).symm (by subst h; rfl)), ?_⟩
    · unfold rLacks; rw [z1 _ _ (by omega), z1 _ _ (by omega)]
    · intro n0 n1 n2 n3 n4 n5 n6 n7 n8 n9 n10 n11 n12 n13 n14 n15 S32 e32
      have : zled S a w = (2, 0) := by
        unfold zled
        rw [if_neg n0, if_neg n1, if_neg n2, if_neg n3, if_neg n4, if_neg n5, if_neg n6, if_neg n7, if_neg n8, if_neg n9, if_neg n10, if_neg n11, if_neg n12, if_neg n13, if_neg n14, if_neg n15]
      rw [this, e32]
      exact rR1 s1 (by decide)
theorem r_queue (hR : RI S) (hr : S 416 42 = 0 ∨ S 416 42 = 1 ∨ S 416 42 = 2) (d : Int32) : rMet E l mX12_queue 3 0 [.int d] S (rR (fQueue S d)) := by
  have hA := hR.1
  refine r_meth (by decide) (Nat.le_of_ble_eq_true rfl) (by simp [Value.category]) (fun G hK => rwpt_X12_queue_0 hK ?_); unfold rwp_X12_queue_0
  intro S1 e1; have z1 : ∀ t k, ¬ (t = 416 ∧ k = 0) → S1 t k = S t k := fun t k h => by rw [e1, zup_at, if_neg h]
  have s1 : zsim S S1 := by rw [e1]; exact zs0 zsim.rf
  have t1 : S1 416 0 = 0 := by rw [e1]; exact zup_s _ _ _ _
  refine sI (fun _ => s_noDesk _) (by decide) (gT (by decide) (fun h => ie (by decide) ?_) (fun h => it rfl ?_))
  · unfold fQueue; rw [f3t h]; exact rR1 s1 (by decide)
  · have ef : fQueue S d = (0, Int32.ofNat (zline S (S 416 42) (rStateAt d) (nA S)).length, S) := by unfold fQueue; rw [f3f h]
    obtain ⟨i, hi, rfl⟩ := inn_nat (n := 3) (by omega) (Classical.not_not.mp h)
    rw [ef, z1 416 42 (by decide)]
    refine gV (r_lines (n := nA S) (by rw [z1 _ _ (by omega), hA.1]) hA.2 hr (fun a => by rw [z1 _ _ (by omega)]; exact hR.2.2.2.2.2 a)) (by decide) ?_
    have e9 : zline S1 (S 416 42) (rSt i) (nA S) = zline S (S 416 42) (rStateAt (Int32.ofNat i)) (nA S) := zline_cg (fun t k h => z1 _ _ (by omega)) _
    rw [e9]
    refine ⟨⟨_, rfl, fun _ => ?_⟩, ?_, fun t k hc => ?_⟩
    · unfold zrw; rw [if_neg (by omega), if_pos ⟨rfl, rfl⟩]
    · rw [zrw_st _ _ (by omega) (by omega), t1]
    · rw [zrw_st _ _ (fun e => hc (by unfold zscr; omega)) (fun e => hc (by unfold zscr; omega))]; exact s1 t k hc
theorem r_ahead (hR : RI S) (hr : S 416 42 = 0 ∨ S 416 42 = 1 ∨ S 416 42 = 2) (x : Int32) : rMet E l mX12_ahead 2 0 [.int x] S (rR (fAhead S x)) := by
  have hA := hR.1
  refine r_meth (by decide) (Nat.le_of_ble_eq_true rfl) (by simp [Value.category]) (fun G hK => rwpt_X12_ahead_0 hK ?_); unfold rwp_X12_ahead_0
  intro S1 e1; have z1 : ∀ t k, ¬ (t = 416 ∧ k = 0) → S1 t k = S t k := fun t k h => by rw [e1, zup_at, if_neg h]
  have s1 : zsim S S1 := by rw [e1]; exact zs0 zsim.rf
  have t1 : S1 416 0 = 0 := by rw [e1]; exact zup_s _ _ _ _
  refine gI (r_noAsking (n := nA S) x (by rw [z1 _ _ (by omega), hA.1]) (by omega)) (by decide) (gT (by decide) (fun h => ie (by decide) ?_) (fun h => it rfl ?_))
  · unfold fAhead; rw [f3t h]; exact rR1 s1 (by decide)
  · obtain ⟨a, ha, rfl⟩ := zin_of (Classical.not_not.mp h) (by omega)
    have ef : fAhead S (Int32.ofNat a) = fCalls3 (zatdesk (S 1165 (7 * a + 0))) (0, zahead S a (nA S), S) (0, -1, S) := by unfold fAhead; rw [f3f h, n_nn (by omega)]
    rw [ef]
    have count : ∀ i, i < 4 → S 1165 (7 * a + 0) = rSt i → ∀ k, zW E l mX12_ahead 2 0 (zput G S) (rQ G (rR (fCalls3 (zatdesk (S 1165 (7 * a + 0))) (0, zahead S a (nA S), S) (0, -1, S)))) k 48 [some (.ref (zp 416 0)), some (.int (Int32.ofNat a)), some (.int (Int32.ofNat i)), some (.int 0), some (.int 0)] [] (zput G S1) := by
      intro i hi hst k
      have hz : zatdesk (S 1165 (7 * a + 0)) := by
        rw [hst]
        match i, hi with
        | 0, _ => exact Or.inl rfl
        | 1, _ => exact Or.inr (Or.inl rfl)
        | 2, _ => exact Or.inr (Or.inr (Or.inl rfl))
        | 3, _ => exact Or.inr (Or.inr (Or.inr rfl))
      rw [f3t hz]
      generalize hP : (fun b => b ≠ a ∧ S 1165 (7 * b + 0) = S 1165 (7 * a + 0) ∧ zlt S (S 416 42) b a) = P
      have hP2 : ∀ b, P b ↔ (b ≠ a ∧ S 1165 (7 * b + 0) = S 1165 (7 * a + 0) ∧ zlt S (S 416 42) b a) := fun b => by rw [← hP]
      have e0 : zahead S a (nA S) = zcnt P (nA S) := by unfold zahead; rw [hP]
      rw [e0]
      have key : ∀ j, j ≤ nA S → ∀ k, zW E l mX12_ahead 2 0 (zput G S) (rQ G (rR (0, zcnt P (nA S), S))) k 48 [some (.ref (zp 416 0)), some (.int (Int32.ofNat a)), some (.int (Int32.ofNat i)), some (.int (zcnt P j)), some (.int (Int32.ofNat j))] [] (zput G S1) := by
        refine zdown (fun k => ?_) (fun j hj ih k => ?_)
        · refine rwpt_X12_ahead_48 hK ?_; unfold rwp_X12_ahead_48
          exact it (by rw [z1 _ _ (by omega), hA.1, n_le (by omega) (by omega)]; omega) (rR0 s1 t1 rfl)
        · have ih := ih k
          refine rwpt_X12_ahead_48 hK ?_; unfold rwp_X12_ahead_48
          rw [n_p1, Int32.add_zero, n_inj (by omega) (by omega)]
          refine ie (by rw [z1 _ _ (by omega), hA.1, n_le (by omega) (by omega)]; omega) ⟨fun h2 => ?_, fun h2 => gI (r_now (a := j) (w := 0) (by omega)) (by decide) (sI (fun _ => s_stateAt _) (by decide) ?_)⟩
          · rw [zcnt_f (fun z => ((hP2 j).mp z).1 h2)] at ih; exact ih
          · rw [z1 1165 _ (by omega)]
            show (¬ S 1165 (7 * j + 0) = rSt i → _) ∧ (¬ ¬ S 1165 (7 * j + 0) = rSt i → _)
            rw [← hst]
            refine ⟨fun h3 => ?_, fun h3 => ?_⟩
            · rw [zcnt_f (fun z => h3 ((hP2 j).mp z).2.1)] at ih; exact ih
            · rw [z1 416 42 (by decide)]
              refine gI (r_isAhead (by omega) (by omega) hr (fun b => by rw [z1 _ _ (by omega)]; exact hR.2.2.2.2.2 b)) (by decide) ?_
              rw [zb_0, zlt_cg (S := S) (fun t k h => z1 t k (by omega))]
              refine ⟨fun h4 => ?_, fun h4 => ?_⟩
              · rw [zcnt_f (fun z => h4 ((hP2 j).mp z).2.2)] at ih; exact ih
              · rw [zcnt_t ((hP2 j).mpr ⟨h2, Classical.not_not.mp h3, Classical.not_not.mp h4⟩)] at ih; exact ih
      exact key 0 (by omega) k
    have look : ∀ i, i ≤ 4 → (∀ j, j < i → S 1165 (7 * a + 0) ≠ rSt j) → ∀ k, zW E l mX12_ahead 2 0 (zput G S) (rQ G (rR (fCalls3 (zatdesk (S 1165 (7 * a + 0))) (0, zahead S a (nA S), S) (0, -1, S)))) k 22 [some (.ref (zp 416 0)), some (.int (Int32.ofNat a)), some (.int (Int32.ofNat i)), none, none] [] (zput G S1) := by
      refine zdown (fun hno k => ?_) (fun i hi ih hno k => ?_)
      · refine rwpt_X12_ahead_22 hK ?_; unfold rwp_X12_ahead_22
        refine it (by decide) ?_
        rw [f3f (fun z => ?_)]
        · exact rR0 s1 t1 rfl
        · rcases z with z | z | z | z
          · exact hno 0 (by omega) z
          · exact hno 1 (by omega) z
          · exact hno 2 (by omega) z
          · exact hno 3 (by omega) z
      · refine rwpt_X12_ahead_22 hK ?_; unfold rwp_X12_ahead_22
        rw [n_p1]
        refine ie (by rw [show (4 : Int32) = Int32.ofNat 4 from rfl, n_le (by omega) (by omega)]; omega) (gI (r_now (a := a) (w := 0) (by omega)) (by decide) (sI (fun _ => s_stateAt _) (by decide) ?_))
        rw [z1 1165 _ (by omega)]
        refine ⟨fun h2 => count i hi h2 k, fun h2 => ih (fun j hj => ?_) k⟩
        by_cases e : j = i
        · rw [e]; exact h2
        · exact hno j (by omega)
    exact look 0 (by omega) (fun j hj => by omega) _
theorem r_booklet (hR : RI S) (b w : Int32) : rMet E l mX12_booklet 2 0 [.int b, .int w] S (rR (fBooklet S b w)) := by
  have hB := hR.2.2.1
  refine r_meth (by decide) (Nat.le_of_ble_eq_true rfl) (by simp [Value.category]) (fun G hK => rwpt_X12_booklet_0 hK ?_); unfold rwp_X12_booklet_0
  intro S1 e1; have z1 : ∀ t k, ¬ (t = 416 ∧ k = 0) → S1 t k = S t k := fun t k h => by rw [e1, zup_at, if_neg h]
  have s1 : zsim S S1 := by rw [e1]; exact zs0 zsim.rf
  have t1 : S1 416 0 = 0 := by rw [e1]; exact zup_s _ _ _ _
  have cut : ∀ s0, s0 = zb (¬ zin b (nB S)) → ∀ k, zW E l mX12_booklet 2 0 (zput G S) (rQ G (rR (fBooklet S b w))) k 25 [some (.ref (zp 416 0)), some (.int b), some (.int w)] [.int s0, .ref (zp 416 0)] (zput G S1) := by
    intro s0 hs k
    refine rwpt_X12_booklet_25 hK ?_; unfold rwp_X12_booklet_25
    rw [hs]
    refine gT (by decide) (fun h => ie (by decide) ?_) (fun h => it rfl ?_)
    · unfold fBooklet; rw [f3t h]; exact rR1 s1 (by decide)
    · have ef : fBooklet S b w = fCalls3 (inn w 0 3) (0, S (1167 + w.toNatClampNeg) b.toNatClampNeg, S) (2, 0, S) := by unfold fBooklet; rw [f3f h]
      rw [ef]
      obtain ⟨i, hi, rfl⟩ := zin_of (Classical.not_not.mp h) (by omega)
      rw [n_nn (by omega)]
      have vv : vp_in (Int32.ofNat i) 150 := n_in (by omega) (by omega)
      refine ⟨fun h => ⟨vv, ?_⟩, fun h => ⟨vv, ?_⟩, fun h => ⟨vv, ?_⟩, fun h => ⟨vv, ?_⟩, fun n0 n1 n2 n3 S4 e4 => ?_⟩
      · subst h; rw [f3t (by unfold inn; decide)]; exact rR0 s1 t1 (z1 _ _ (by omega))
      · subst h; rw [f3t (by unfold inn; decide)]; exact rR0 s1 t1 (z1 _ _ (by omega))
      · subst h; rw [f3t (by unfold inn; decide)]; exact rR0 s1 t1 (z1 _ _ (by omega))
      · subst h; rw [f3t (by unfold inn; decide)]; exact rR0 s1 t1 (z1 _ _ (by omega))
      · rw [f3f (fun z => ?_), e4]
        · exact rR1 s1 (by decide)
        · obtain ⟨j, hj, rfl⟩ := inn_nat (n := 3) (by omega) z
          match j, hj with
          | 0, _ => exact n0 rfl
          | 1, _ => exact n1 rfl
          | 2, _ => exact n2 rfl
          | 3, _ => exact n3 rfl
  rw [z1 416 71 (by decide), hB.1]
  exact sI (fun _ => s_in _ _ _) (by decide) ⟨fun h => cut 0 (zbz (nn ((n_pred (by omega)).mp (Classical.not_not.mp (fun z => h (zbz z)))))).symm _, fun h => cut 1 (zb_t (fun z => (zb_0.mp (Classical.not_not.mp h)) ((n_pred (by omega)).mpr z))).symm _⟩
theorem r_valid (hR : RI S) (x day : Int32) : rMet E l mX12_valid 2 0 [.int x, .int day] S (rR (fValid S x day)) := by
  have hP := hR.2.1
  have hB := hR.2.2.1
  refine r_meth (by decide) (Nat.le_of_ble_eq_true rfl) (by simp [Value.category]) (fun G hK => rwpt_X12_valid_0 hK ?_); unfold rwp_X12_valid_0
  intro S1 e1; have z1 : ∀ t k, ¬ (t = 416 ∧ k = 0) → S1 t k = S t k := fun t k h => by rw [e1, zup_at, if_neg h]
  have s1 : zsim S S1 := by rw [e1]; exact zs0 zsim.rf
  have t1 : S1 416 0 = 0 := by rw [e1]; exact zup_s _ _ _ _
  refine gI (r_nobody (n := nP S) x (by rw [z1 _ _ (by omega), hP.1]) (by omega)) (by decide) (gT (by decide) (fun h => ie (by decide) ?_) (fun h => it rfl (gI (r_validOf (n := nB S) (by rw [z1 _ _ (by omega), hB.1]) hB.2) (by decide) ?_)))
  · unfold fValid; rw [f3t h]; exact rR1 s1 (by decide)
  · unfold fValid; rw [f3f h]; exact rR0 s1 t1 (zval_cg (fun t k h => z1 _ _ (by omega)) _ _ _)
theorem zinst_cg {S S' : ZS9} (h : ∀ k, S' 1165 k = S 1165 k) (lo hi : Int32) (n : Nat) : zcnt (fun a => inn (S' 1165 (7 * a + 0)) lo hi) n = zcnt (fun a => inn (S 1165 (7 * a + 0)) lo hi) n :=
  zcnt_if (fun i _ => by rw [h])
theorem r_count (hR : RI S) (hL : S 416 19 = Int32.ofNat (nL S) ∧ nL S ≤ 12) (w : Int32) : rMet E l mX12_count 2 0 [.int w] S (rR (fCount S w)) := by
  have hA := hR.1
  refine r_meth (by decide) (Nat.le_of_ble_eq_true rfl) (by simp [Value.category]) (fun G hK => rwpt_X12_count_0 hK ?_); unfold rwp_X12_count_0
  intro S1 e1; have z1 : ∀ t k, ¬ (t = 416 ∧ k = 0) → S1 t k = S t k := fun t k h => by rw [e1, zup_at, if_neg h]
  have s1 : zsim S S1 := by rw [e1]; exact zs0 zsim.rf
  have t1 : S1 416 0 = 0 := by rw [e1]; exact zup_s _ _ _ _
  have ok : ∀ y, y = zcount S w → rR (fCount S w) (some (.int y)) S1 := fun y hy => rR0 s1 t1 hy
  have st : ∀ lo hi k (K : Int32 → ZS9 → Nat → Prop), K (zinst S lo hi) S1 k → rcI E l mX12_inState 2 [.int lo, .int hi] S1 k K := fun lo hi k K hk => gI (r_inState (n := nA S) (by rw [z1 _ _ (by omega), hA.1]) hA.2) (by decide) (by rw [zinst_cg (fun k => z1 _ _ (by omega))]; exact hk)
  refine ⟨fun h => ok _ (by rw [h, z1 _ _ (by omega)]; rfl), fun h => ok _ (by rw [h, z1 _ _ (by omega)]; rfl), fun h => ok _ (by rw [h, z1 _ _ (by omega)]; rfl), fun h => ok _ (by rw [h, z1 _ _ (by omega)]; rfl), fun h => st _ _ _ _ (ok _ (by rw [h]; rfl)), fun h => st _ _ _ _ (ok _ (by rw [h]; rfl)), fun h => st _ _ _ _ (ok _ (by rw [h]; rfl)), fun h => ok _ (by rw [h, z1 _ _ (by omega)]; rfl), fun h => ok _ (by rw [h, z1 _ _ (by omega)]; rfl), fun h => ok _ (by rw [h, z1 _ _ (by omega)]; rfl), fun h => ok _ (by rw [h, z1 _ _ (by omega)]; rfl), fun h => ok _ (by rw [h, z1 _ _ (by omega)]; rfl), fun h => ok _ (by rw [h, z1 _ _ (by omega)]; rfl), fun h => ok _ (by rw [h, z1 _ _ (by omega)]; rfl), fun h => ok _ (by rw [h, z1 _ _ (by omega)]; rfl), fun h => ?_, fun h => st _ _ _ _ (ok _ (by rw [h]; rfl)), fun h => st _ _ _ _ (ok _ (by rw [h]; rfl)), ?_⟩
  · rw [z1 416 1 (by decide)]
    have el : ∀ k K, K (zopt (zlaw S (S 416 1) (nL S))) S1 k → rcI E l mX12_lawOf 2 [.int (S 416 1)] S1 k K := fun k K hk => gI (r_lawOf (n := nL S) (by rw [z1 _ _ (by omega), hL.1]) hL.2) (by decide) (by rw [zlaw_cg (fun j _ => z1 _ _ (by omega))]; exact hk)
    refine el _ _ ?_
    cases hz : zlaw S (S 416 1) (nL S) with
    | none => exact ie (by decide) (ok _ (by rw [h]; unfold zcount; simp [hz]))
    | some j =>
      have hj := zlaw_lt hz
      rw [hz] at el
      refine it (by show (0 : Int32) ≤ Int32.ofNat j; rw [show (0 : Int32) = Int32.ofNat 0 from rfl, n_le (by omega) (by omega)]; omega) ?_
      rw [z1 416 1 (by decide)]
      refine el _ _ ⟨n_in (by omega) (by omega), ok _ ?_⟩
      show S1 1111 (Int32.ofNat j).toNatClampNeg = _
      rw [h, n_nn (by omega), z1 _ _ (by omega)]; unfold zcount; simp [hz]
  · intro n0 n1 n2 n3 n4 n5 n6 n7 n8 n9 n10 n11 n12 n13 n14 n15 n16 n17
    refine ok _ ?_
    unfold zcount
    rw [if_neg n0, if_neg n1, if_neg n2, if_neg n3, if_neg n4, if_neg n5, if_neg n6, if_neg n7, if_neg n8, if_neg n9, if_neg n10, if_neg n11, if_neg n12, if_neg n13, if_neg n14, if_neg n15, if_neg n16, if_neg n17]
end ZRj
