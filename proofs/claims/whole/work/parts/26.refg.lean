/-! the reference's public methods, one after the other -/
section ZRi
variable {E : ZE} {l : Launch} {S : ZS9}
theorem nS1 {S1 : ZS9} (z1 : ∀ t k, ¬ (t = 416 ∧ k = 0) → S1 t k = S t k) (hR : RI S) : RI S1 := by
  refine hR.k0 ⟨z1 _ _ (by omega), z1 _ _ (by omega), z1 _ _ (by omega), fun a => z1 _ _ (by omega), fun a => z1 _ _ (by omega)⟩ ?_
  unfold nB
  rw [z1 _ _ (by omega)]
  exact hR.2.2.1
theorem r_ends2 {lo hi : Int32} (hn : S 416 71 = Int32.ofNat (nB S)) (hl : nB S ≤ 150) : rMet E l mX12_ends 1 0 [.int lo, .int hi] S (rR (fEnds S lo hi)) := by
  refine r_meth (by decide) (Nat.le_of_ble_eq_true rfl) (by simp [Value.category]) (fun G hK => rwpt_X12_ends_0 hK ?_); unfold rwp_X12_ends_0
  intro S1 e1; have z1 : ∀ t k, ¬ (t = 416 ∧ k = 0) → S1 t k = S t k := fun t k h => by rw [e1, zup_at, if_neg h]
  have s1 : zsim S S1 := by rw [e1]; exact zs0 zsim.rf
  have t1 : S1 416 0 = 0 := by rw [e1]; exact zup_s _ _ _ _
  have e3 : ∀ b, S1 1169 b = S 1169 b := fun b => z1 _ _ (by omega)
  have key : ∀ i, i ≤ nB S → ∀ k, zW E l mX12_ends 1 0 (zput G S) (rQ G (rR (fEnds S lo hi))) k 10 [some (.ref (zp 416 0)), some (.int lo), some (.int hi), some (.int (zcnt (fun b => inn (S 1169 b) lo hi) i)), some (.int (Int32.ofNat i))] [] (zput G S1) := by
    refine zdown (fun k => ?_) (fun i hi ih k => ?_)
    · refine rwpt_X12_ends_10 hK ?_; unfold rwp_X12_ends_10
      exact it (by rw [z1 416 71 (by decide), hn, n_le (by omega) (by omega)]; omega) (rR0 s1 t1 rfl)
    · refine rwpt_X12_ends_10 hK ?_; unfold rwp_X12_ends_10
      refine ie (by rw [z1 416 71 (by decide), hn, n_le (by omega) (by omega)]; omega) ⟨n_in (by omega) (by omega), ?_⟩
      rw [n_nn (by omega), e3]
      refine sI (fun _ => s_in _ _ _) (by decide) ?_
      have ih := ih k
      rw [n_p1, Int32.add_zero]
      refine ⟨fun h => ?_, fun h => ?_⟩
      · rw [zb_0] at h; rw [zcnt_f h] at ih; exact ih
      · rw [zb_0, Classical.not_not] at h; rw [zcnt_t h] at ih; exact ih
  exact key 0 (by omega) _
theorem inn_nat {x : Int32} {n : Nat} (hn : n < 2147483647) (h : inn x 0 (Int32.ofNat n)) : ∃ i, i < n + 1 ∧ x = Int32.ofNat i := by
  obtain ⟨i, hi, rfl⟩ := n_of h.1
  have := h.2
  rw [n_lt (by omega) hi] at this
  exact ⟨i, by omega, rfl⟩
theorem r_sign (hR : RI S) (x i : Int32) : rMet E l mX12_sign 2 0 [.int x, .int i] S (rR (fSign S x i)) := by
  refine r_meth (by decide) (Nat.le_of_ble_eq_true rfl) (by simp [Value.category]) (fun G hK => rwpt_X12_sign_0 hK ?_); unfold rwp_X12_sign_0
  intro S1 e1; have z1 : ∀ t k, ¬ (t = 416 ∧ k = 0) → S1 t k = S t k := fun t k h => by rw [e1, zup_at, if_neg h]
  have hp := hR.2.1
  have s1 : zsim S S1 := by rw [e1]; exact zs0 zsim.rf
  have t1 : S1 416 0 = 0 := by rw [e1]; exact zup_s _ _ _ _
  refine gI (r_nobody (n := nP S) x (by rw [z1 _ _ (by omega), hp.1]) (by omega)) (by decide) (gT (by decide) (fun h => ie (by decide) ?_) (fun h => it rfl ?_))
  · unfold fSign; rw [f3t h]; exact rR1 s1 (by decide)
  · obtain ⟨p, hp2, rfl⟩ := zin_of (Classical.not_not.mp h) (by omega)
    rw [n_nn (by omega)]
    refine ⟨n_in (by omega) (by omega), ?_⟩
    rw [z1 _ _ (by omega)]
    have ef : fSign S (Int32.ofNat p) i = fCalls3 (¬ S 2133 p = 0 ∧ inn i 0 23) (0, S 1132 (24 * p + i.toNatClampNeg), S) (0, -1, S) := by unfold fSign; rw [f3f h, n_nn (by omega)]
    rw [ef]
    refine ⟨fun h2 => ?_, fun h2 => sI (fun _ => s_in _ _ _) (by decide) ⟨fun h3 => ?_, fun h3 => ?_⟩⟩
    · rw [f3f (fun z => z.1 h2)]; exact rR0 s1 t1 rfl
    · rw [f3f (fun z => (zb_0.mp h3) z.2)]; exact rR0 s1 t1 rfl
    · rw [zb_0, Classical.not_not] at h3
      rw [f3t ⟨h2, h3⟩]
      obtain ⟨j, hj, rfl⟩ := inn_nat (n := 23) (by omega) h3
      rw [show (24 : Int32) = Int32.ofNat 24 from rfl, n_mul, n_add, n_nn (by omega), n_nn (by omega)]
      exact ⟨n_in (by omega) (by omega), rR0 s1 t1 (z1 _ _ (by omega))⟩
theorem zfar_cg {S S' : ZS9} (h : ∀ k, S' 1131 k = S 1131 k) (p q : Nat) : zfar S' p q = zfar S p q := by
  have : ∀ n, zfarN S' p q n = zfarN S p q n := by
    intro n
    induction n with
    | zero => rfl
    | succ n ih => unfold zfarN; rw [ih, h, h]
  exact this 5
theorem r_far (hR : RI S) (x y : Int32) : rMet E l mX12_far 2 0 [.int x, .int y] S (rR (fFar S x y)) := by
  refine r_meth (by decide) (Nat.le_of_ble_eq_true rfl) (by simp [Value.category]) (fun G hK => rwpt_X12_far_0 hK ?_); unfold rwp_X12_far_0
  intro S1 e1; have z1 : ∀ t k, ¬ (t = 416 ∧ k = 0) → S1 t k = S t k := fun t k h => by rw [e1, zup_at, if_neg h]
  have hp := hR.2.1
  have s1 : zsim S S1 := by rw [e1]; exact zs0 zsim.rf
  have t1 : S1 416 0 = 0 := by rw [e1]; exact zup_s _ _ _ _
  have hn : S1 416 34 = Int32.ofNat (nP S) := by rw [z1 _ _ (by omega), hp.1]
  refine gI (r_nobody (n := nP S) x hn (by omega)) (by decide) ⟨fun h => ?_, fun h => ?_⟩
  · rw [zb_0, Classical.not_not] at h
    refine gI (r_thr1 _) (by decide) (ie (by decide) ?_)
    unfold fFar; rw [f3t (fun z => h z.1)]; exact rR1 s1 (by decide)
  · have h := Classical.not_not.mp (zb_0.mp (Classical.not_not.mp h))
    refine gI (r_nobody (n := nP S) y hn (by omega)) (by decide) ⟨fun h2 => ?_, fun h2 => ?_⟩
    · have h2 := Classical.not_not.mp (zb_0.mp h2)
      refine gI (r_thr0 _) (by decide) (it rfl ?_)
      have ef : fFar S x y = (0, zfar S x.toNatClampNeg y.toNatClampNeg, S) := by unfold fFar; rw [f3f (nn ⟨h, h2⟩)]
      obtain ⟨p, hp2, rfl⟩ := zin_of h (by omega)
      obtain ⟨q, hq2, rfl⟩ := zin_of h2 (by omega)
      rw [n_nn (by omega), n_nn (by omega)] at ef
      rw [ef]
      exact gI (r_farOf (by omega) (by omega)) (by decide) (rR0 s1 t1 (zfar_cg (fun k => z1 _ _ (by omega)) p q))
    · have h2 : ¬ zin y (nP S) := Classical.not_not.mp (fun z => h2 (zbz z))
      refine gI (r_thr1 _) (by decide) (ie (by decide) ?_)
      unfold fFar; rw [f3t (fun z => h2 z.2)]; exact rR1 s1 (by decide)
theorem r_hands (d n : Int32) : rMet E l mX12_hands 2 0 [.int d, .int n] S (rN (fHands S d n)) := by
  refine r_meth (by decide) (Nat.le_of_ble_eq_true rfl) (by simp [Value.category]) (fun G hK => rwpt_X12_hands_0 hK ?_); unfold rwp_X12_hands_0
  intro S1 e1; have z1 : ∀ t k, ¬ (t = 416 ∧ k = 0) → S1 t k = S t k := fun t k h => by rw [e1, zup_at, if_neg h]
  have s1 : zsim S S1 := by rw [e1]; exact zs0 zsim.rf
  have t1 : S1 416 0 = 0 := by rw [e1]; exact zup_s _ _ _ _
  refine sI (fun _ => s_noDesk _) (by decide) (gT (by decide) (fun h => it (by decide) ?_) (fun h => ie (by decide) ?_))
  · unfold fHands; rw [f3t h]; exact rN1 s1
  · obtain ⟨i, hi, rfl⟩ := inn_nat (n := 3) (by omega) (Classical.not_not.mp h)
    refine sI (fun _ => s_in _ _ _) (by decide) ⟨fun h2 => gI (r_thr0 _) (by decide) (it rfl ⟨n_in (by omega) (by omega), fun S10 e10 => ?_⟩), fun h2 => gI (r_thr1 _) (by decide) (ie (by decide) ?_)⟩
    · have h2 : inn n 0 30 := Classical.not_not.mp (fun z => h2 (zbz z))
      unfold fHands; rw [f3f h, f3f (nn h2), e10]; exact rN0 s1.cg (by rw [zup_ne (by omega), t1])
    · have h2 := zb_0.mp (Classical.not_not.mp h2)
      unfold fHands; rw [f3f h, f3t h2]; exact rN1 s1
theorem r_lend (hR : RI S) (d n f t tr : Int32) : rMet E l mX12_lend 2 0 [.int d, .int n, .int f, .int t, .int tr] S (rR (fLend S d n f t tr)) := by
  have hT := hR.2.2.2.1
  refine r_meth (by decide) (Nat.le_of_ble_eq_true rfl) (by simp [Value.category]) (fun G hK => rwpt_X12_lend_0 hK ?_); unfold rwp_X12_lend_0
  intro S1 e1; have z1 : ∀ t k, ¬ (t = 416 ∧ k = 0) → S1 t k = S t k := fun t k h => by rw [e1, zup_at, if_neg h]
  have s1 : zsim S S1 := by rw [e1]; exact zs0 zsim.rf
  have t1 : S1 416 0 = 0 := by rw [e1]; exact zup_s _ _ _ _
  refine sI (fun _ => s_noDesk _) (by decide) (gT (by decide) (fun h => it (by decide) ?_) (fun h => ie (by decide) ?_))
  · unfold fLend; rw [f3t h]; exact rR1 s1 (by decide)
  · have cut : ∀ s0, s0 = zb (¬ (inn n 1 30 ∧ ¬ f < S 416 1 ∧ ¬ t < f ∧ ¬ 1000 < t ∧ inn tr 0 30)) → ∀ k, zW E l mX12_lend 2 0 (zput G S) (rQ G (rR (fLend S d n f t tr))) k 66 [some (.ref (zp 416 0)), some (.int d), some (.int n), some (.int f), some (.int t), some (.int tr)] [.int s0, .ref (zp 416 0)] (zput G S1) := by
      intro s0 hs k
      refine rwpt_X12_lend_66 hK ?_; unfold rwp_X12_lend_66
      rw [hs]
      refine gT (by decide) (fun h2 => ie (by decide) ?_) (fun h2 => it rfl ?_)
      · unfold fLend; rw [f3f h, f3t h2]; exact rR1 s1 (by decide)
      · rw [z1 416 52 (by decide), hT.1, n_nn (by omega), show (20 : Int32) = Int32.ofNat 20 from rfl, n_inj (by omega) (by omega)]
        refine ⟨fun h3 => ⟨n_in (by omega) (by omega), fun S4 e4 => ?_⟩, fun h3 => ?_⟩
        · have f4 : S4 416 52 = Int32.ofNat (nT S) := by rw [e4, zup_ne (by omega), z1 _ _ (by omega), hT.1]
          rw [f4, n_nn (by omega)]
          refine ⟨n_in (by omega) (by omega), fun S5 e5 => ?_⟩
          have f5 : S5 416 52 = Int32.ofNat (nT S) := by rw [e5, zup_ne (by omega), f4]
          rw [f5, n_nn (by omega)]
          refine ⟨n_in (by omega) (by omega), fun S6 e6 => ?_⟩
          have f6 : S6 416 52 = Int32.ofNat (nT S) := by rw [e6, zup_ne (by omega), f5]
          rw [f6, n_nn (by omega)]
          refine ⟨n_in (by omega) (by omega), fun S7 e7 => ?_⟩
          have f7 : S7 416 52 = Int32.ofNat (nT S) := by rw [e7, zup_ne (by omega), f6]
          rw [f7, n_nn (by omega)]
          refine ⟨n_in (by omega) (by omega), fun S8 e8 S9 e9 => ?_⟩
          have f8 : S8 416 52 = Int32.ofNat (nT S) := by rw [e8, zup_ne (by omega), f7]
          unfold fLend zlend; rw [f3f h, f3f h2, f3f h3, hT.1, e9, f8, e8, e7, e6, e5, e4]
          refine rR0 s1.cg.cg.cg.cg.cg.cg ?_ (zup_s _ _ _ _)
          rw [zup_ne (by omega), zup_ne (by omega), zup_ne (by omega), zup_ne (by omega), zup_ne (by omega), zup_ne (by omega), t1]
        · unfold fLend; rw [f3f h, f3f h2, f3t (Classical.not_not.mp h3)]; exact rR0 s1 t1 rfl
    refine sI (fun _ => s_in _ _ _) (by decide) ⟨fun h2 => cut 1 (zb_t ?_).symm _, fun h2 => ?_⟩
    · exact fun z => (zb_0.mp h2) z.1
    · have h2 : inn n 1 30 := Classical.not_not.mp (fun z => h2 (zbz z))
      rw [z1 416 1 (by decide)]
      refine ⟨fun h3 => cut 1 (zb_t (fun z => z.2.1 h3)).symm _, fun h3 => ⟨fun h4 => cut 1 (zb_t (fun z => z.2.2.1 h4)).symm _, fun h4 => ⟨fun h5 => cut 1 (zb_t (fun z => z.2.2.2.1 h5)).symm _, fun h5 => sI (fun _ => s_in _ _ _) (by decide) ⟨fun h6 => cut 0 (zbz (nn ⟨h2, h3, h4, h5, Classical.not_not.mp (fun z => h6 (zbz z))⟩)).symm _, fun h6 => cut 1 (zb_t (fun z => (zb_0.mp (Classical.not_not.mp h6)) z.2.2.2.2)).symm _⟩⟩⟩⟩
theorem zunits_cg {S S' : ZS9} (h : ∀ t k, (t = 1146 ∨ t = 1147 ∨ t = 1148 ∨ t = 1149 ∨ t = 1150 ∨ t = 1151) → S' t k = S t k) (d : Nat) (day : Int32) (n : Nat) : zunits S' d day n = zunits S d day n := by
  have : ∀ n u, zunN S' (Int32.ofNat d) day u n = zunN S (Int32.ofNat d) day u n := by
    intro n u
    induction n with
    | zero => rfl
    | succ n ih =>
      have : zlends S' (Int32.ofNat d) day n = zlends S (Int32.ofNat d) day n := by unfold zlends; rw [h _ _ (by omega), h _ _ (by omega), h _ _ (by omega)]
      unfold zunN; rw [ih, this, h 1151 _ (by omega), h 1149 _ (by omega), h 1148 _ (by omega)]
  unfold zunits
  rw [h _ _ (by omega), this]
theorem r_units (hR : RI S) (d day : Int32) : rMet E l mX12_units 2 0 [.int d, .int day] S (rR (fUnits S d day)) := by
  have hT := hR.2.2.2.1
  refine r_meth (by decide) (Nat.le_of_ble_eq_true rfl) (by simp [Value.category]) (fun G hK => rwpt_X12_units_0 hK ?_); unfold rwp_X12_units_0
  intro S1 e1; have z1 : ∀ t k, ¬ (t = 416 ∧ k = 0) → S1 t k = S t k := fun t k h => by rw [e1, zup_at, if_neg h]
  have s1 : zsim S S1 := by rw [e1]; exact zs0 zsim.rf
  have t1 : S1 416 0 = 0 := by rw [e1]; exact zup_s _ _ _ _
  refine sI (fun _ => s_noDesk _) (by decide) (gT (by decide) (fun h => ie (by decide) ?_) (fun h => it rfl ?_))
  · unfold fUnits; rw [f3t h]; exact rR1 s1 (by decide)
  · have ef : fUnits S d day = (0, zunits S d.toNatClampNeg day (nT S), S) := by unfold fUnits; rw [f3f h]
    obtain ⟨i, hi, rfl⟩ := inn_nat (n := 3) (by omega) (Classical.not_not.mp h)
    rw [n_nn (by omega)] at ef
    rw [ef]
    exact gI (r_unitsOf (n := nT S) (by omega) (by rw [z1 _ _ (by omega), hT.1]) hT.2) (by decide) (rR0 s1 t1 (zunits_cg (fun t k h => z1 _ _ (by omega)) _ _ _))
theorem r_rules (a b c d e : Int32) : rMet E l mX12_rules 2 0 [.int a, .int b, .int c, .int d, .int e] S (rN (fRules S a b c d e)) := by
  refine r_meth (by decide) (Nat.le_of_ble_eq_true rfl) (by simp [Value.category]) (fun G hK => rwpt_X12_rules_0 hK ?_); unfold rwp_X12_rules_0
  intro S1 e1; have z1 : ∀ t k, ¬ (t = 416 ∧ k = 0) → S1 t k = S t k := fun t k h => by rw [e1, zup_at, if_neg h]
  have s1 : zsim S S1 := by rw [e1]; exact zs0 zsim.rf
  have t1 : S1 416 0 = 0 := by rw [e1]; exact zup_s _ _ _ _
  have cut : ∀ s0, s0 = zb (¬ (inn a 1 200 ∧ inn b 0 10000 ∧ inn c 0 1000 ∧ inn d 0 60 ∧ inn e 0 60)) → ∀ k, zW E l mX12_rules 2 0 (zput G S) (rQ G (rN (fRules S a b c d e))) k 66 [some (.ref (zp 416 0)), some (.int a), some (.int b), some (.int c), some (.int d), some (.int e)] [.int s0, .ref (zp 416 0)] (zput G S1) := by
    intro s0 hs k
    refine rwpt_X12_rules_66 hK ?_; unfold rwp_X12_rules_66
    rw [hs]
    refine gT (by decide) (fun h2 => ie (by decide) ?_) (fun h2 => it rfl (fun S4 e4 S5 e5 S6 e6 S7 e7 S8 e8 => ?_))
    · unfold fRules; rw [f3t h2]; exact rN1 s1
    · unfold fRules zrules; rw [f3f h2, e8, e7, e6, e5, e4]
      refine rN0 s1.cg.cg.cg.cg.cg ?_
      rw [zup_ne (by omega), zup_ne (by omega), zup_ne (by omega), zup_ne (by omega), zup_ne (by omega), t1]
  refine sI (fun _ => s_in _ _ _) (by decide) ⟨fun h => cut 1 (zb_t (fun z => (zb_0.mp h) z.1)).symm _, fun h => ?_⟩
  refine sI (fun _ => s_in _ _ _) (by decide) ⟨fun h => cut 1 (zb_t (fun z => (zb_0.mp h) z.2.1)).symm _, fun h2 => ?_⟩
  refine sI (fun _ => s_in _ _ _) (by decide) ⟨fun h => cut 1 (zb_t (fun z => (zb_0.mp h) z.2.2.1)).symm _, fun h3 => ?_⟩
  refine sI (fun _ => s_in _ _ _) (by decide) ⟨fun h => cut 1 (zb_t (fun z => (zb_0.mp h) z.2.2.2.1)).symm _, fun h4 => ?_⟩
  rw [zb_0, Classical.not_not] at h h2 h3 h4
  exact sI (fun _ => s_in _ _ _) (by decide) ⟨fun h5 => cut 0 (zbz (nn ⟨h, h2, h3, h4, Classical.not_not.mp (fun z => h5 (zbz z))⟩)).symm _, fun h5 => cut 1 (zb_t (fun z => (zb_0.mp (Classical.not_not.mp h5)) z.2.2.2.2)).symm _⟩
theorem r_order (r : Int32) : rMet E l mX12_order 2 0 [.int r] S (rN (fOrder S r)) := by
  refine r_meth (by decide) (Nat.le_of_ble_eq_true rfl) (by simp [Value.category]) (fun G hK => rwpt_X12_order_0 hK ?_); unfold rwp_X12_order_0
  intro S1 e1; have z1 : ∀ t k, ¬ (t = 416 ∧ k = 0) → S1 t k = S t k := fun t k h => by rw [e1, zup_at, if_neg h]
  have s1 : zsim S S1 := by rw [e1]; exact zs0 zsim.rf
  have t1 : S1 416 0 = 0 := by rw [e1]; exact zup_s _ _ _ _
  refine sI (fun _ => s_in _ _ _) (by decide) ⟨fun h => gI (r_thr0 _) (by decide) (it rfl (fun S6 e6 => ?_)), fun h => gI (r_thr1 _) (by decide) (ie (by decide) ?_)⟩
  · unfold fOrder; rw [f3f (nn (Classical.not_not.mp (fun z => h (zbz z)))), e6]; exact rN0 s1.cg (by rw [zup_ne (by omega), t1])
  · unfold fOrder; rw [f3t (zb_0.mp (Classical.not_not.mp h))]; exact rN1 s1
theorem r_blanks (x : Int32) : rMet E l mX12_blanks 2 0 [.int x] S (rR (fBlanks S x)) := by
  refine r_meth (by decide) (Nat.le_of_ble_eq_true rfl) (by simp [Value.category]) (fun G hK => rwpt_X12_blanks_0 hK ?_); unfold rwp_X12_blanks_0
  intro S1 e1; have z1 : ∀ t k, ¬ (t = 416 ∧ k = 0) → S1 t k = S t k := fun t k h => by rw [e1, zup_at, if_neg h]
  have s1 : zsim S S1 := by rw [e1]; exact zs0 zsim.rf
  have t1 : S1 416 0 = 0 := by rw [e1]; exact zup_s _ _ _ _
  have cut : ¬ (inn x 0 1000 ∧ S 416 43 + x ≤ 10000) → ∀ k, zW E l mX12_blanks 2 0 (zput G S) (rQ G (rR (fBlanks S x))) k 29 [some (.ref (zp 416 0)), some (.int x)] [.ref (zp 416 0)] (zput G S1) := by
    intro h k
    refine rwpt_X12_blanks_29 hK ?_; unfold rwp_X12_blanks_29
    refine gI (r_thr1 _) (by decide) (ie (by decide) ?_)
    unfold fBlanks; rw [f3t h]; exact rR1 s1 (by decide)
  rw [z1 416 43 (by decide)]
  refine sI (fun _ => s_in _ _ _) (by decide) ⟨fun h => cut (fun z => (zb_0.mp h) z.1) _, fun h => ⟨fun h2 => gI (r_thr0 _) (by decide) (it rfl (fun S6 e6 => ?_)), fun h2 => cut (fun z => h2 z.2) _⟩⟩
  rw [zb_0, Classical.not_not] at h
  rw [z1 416 43 (by decide)] at e6
  unfold fBlanks; rw [f3f (nn ⟨h, h2⟩), e6]
  exact rR0 s1.cg (by rw [zup_ne (by omega), t1]) (zup_s _ _ _ _)
theorem r_broken (f t : Int32) : rMet E l mX12_broken 2 0 [.int f, .int t] S (rN (fBroken S f t)) := by
  refine r_meth (by decide) (Nat.le_of_ble_eq_true rfl) (by simp [Value.category]) (fun G hK => rwpt_X12_broken_0 hK ?_); unfold rwp_X12_broken_0
  intro S1 e1; have z1 : ∀ t k, ¬ (t = 416 ∧ k = 0) → S1 t k = S t k := fun t k h => by rw [e1, zup_at, if_neg h]
  have s1 : zsim S S1 := by rw [e1]; exact zs0 zsim.rf
  have t1 : S1 416 0 = 0 := by rw [e1]; exact zup_s _ _ _ _
  refine ⟨fun h => gI (r_thr0 _) (by decide) (it rfl (fun S5 e5 S6 e6 => ?_)), fun h => gI (r_thr1 _) (by decide) (ie (by decide) ?_)⟩
  · unfold fBroken; rw [f3f (nn h), e6, e5]; exact rN0 s1.cg.cg (by rw [zup_ne (by omega), zup_ne (by omega), t1])
  · unfold fBroken; rw [f3t h]; exact rN1 s1
theorem r_refuse (hR : RI S) (x : Int32) : rMet E l mX12_refuse 2 0 [.int x] S (rN (fRefuse S x)) := by
  have hA := hR.1
  refine r_meth (by decide) (Nat.le_of_ble_eq_true rfl) (by simp [Value.category]) (fun G hK => rwpt_X12_refuse_0 hK ?_); unfold rwp_X12_refuse_0
  intro S1 e1; have z1 : ∀ t k, ¬ (t = 416 ∧ k = 0) → S1 t k = S t k := fun t k h => by rw [e1, zup_at, if_neg h]
  have s1 : zsim S S1 := by rw [e1]; exact zs0 zsim.rf
  have t1 : S1 416 0 = 0 := by rw [e1]; exact zup_s _ _ _ _
  refine gI (r_noAsking (n := nA S) x (by rw [z1 _ _ (by omega), hA.1]) (by omega)) (by decide) (gT (by decide) (fun h => it (by decide) ?_) (fun h => ie (by decide) ?_))
  · unfold fRefuse; rw [f3t h]; exact rN1 s1
  · obtain ⟨a, ha, rfl⟩ := zin_of (Classical.not_not.mp h) (by omega)
    have ef : fRefuse S (Int32.ofNat a) = fCalls3 (¬ S 1165 (7 * a + 0) ≤ 5) (2, 0, S) (0, 0, zup S 1165 (7 * a + 0) 9) := by unfold fRefuse; rw [f3f h, n_nn (by omega)]
    rw [ef]
    refine gI (r_now (a := a) (w := 0) (by omega)) (by decide) ?_
    rw [z1 1165 _ (by omega)]
    refine ⟨fun h2 => gI (r_thr0 _) (by decide) (it rfl (gV (r_sets (a := a) (w := 0) (by omega)) (by decide) ?_)), fun h2 => gI (r_thr1 _) (by decide) (ie (by decide) ?_)⟩
    · rw [f3f (nn h2)]; exact rN0 s1.cg (by rw [zup_ne (by omega), t1])
    · rw [f3t h2]; exact rN1 s1
theorem r_again (hR : RI S) (x : Int32) : rMet E l mX12_again 2 0 [.int x] S (rN (fAgain S x)) := by
  have hA := hR.1
  refine r_meth (by decide) (Nat.le_of_ble_eq_true rfl) (by simp [Value.category]) (fun G hK => rwpt_X12_again_0 hK ?_); unfold rwp_X12_again_0
  intro S1 e1; have z1 : ∀ t k, ¬ (t = 416 ∧ k = 0) → S1 t k = S t k := fun t k h => by rw [e1, zup_at, if_neg h]
  have s1 : zsim S S1 := by rw [e1]; exact zs0 zsim.rf
  have t1 : S1 416 0 = 0 := by rw [e1]; exact zup_s _ _ _ _
  refine gI (r_noAsking (n := nA S) x (by rw [z1 _ _ (by omega), hA.1]) (by omega)) (by decide) (gT (by decide) (fun h => it (by decide) ?_) (fun h => ie (by decide) ?_))
  · unfold fAgain; rw [f3t h]; exact rN1 s1
  · obtain ⟨a, ha, rfl⟩ := zin_of (Classical.not_not.mp h) (by omega)
    have ef : fAgain S (Int32.ofNat a) = fCalls3 (¬ S 1165 (7 * a + 0) = 8) (2, 0, S) (0, 0, zup (zup S 1165 (7 * a + 0) 5) 1165 (7 * a + 4) (-1)) := by unfold fAgain; rw [f3f h, n_nn (by omega)]
    rw [ef]
    have cut : ∀ s0, s0 = zb (¬ S 1165 (7 * a + 0) = 8) → ∀ k, zW E l mX12_again 2 0 (zput G S) (rQ G (rN (fCalls3 (¬ S 1165 (7 * a + 0) = 8) (2, 0, S) (0, 0, zup (zup S 1165 (7 * a + 0) 5) 1165 (7 * a + 4) (-1))))) k 35 [some (.ref (zp 416 0)), some (.int (Int32.ofNat a))] [.int s0, .ref (zp 416 0)] (zput G S1) := by
      intro s0 hs k
      refine rwpt_X12_again_35 hK ?_; unfold rwp_X12_again_35
      rw [hs]
      refine gT (by decide) (fun h2 => ie (by decide) ?_) (fun h2 => it rfl (gV (r_sets (a := a) (w := 0) (by omega)) (by decide) (gV (r_sets (a := a) (w := 4) (by omega)) (by decide) ?_)))
      · rw [f3t h2]; exact rN1 s1
      · rw [f3f h2]; exact rN0 s1.cg.cg (by rw [zup_ne (by omega), zup_ne (by omega), t1])
    refine gI (r_now (a := a) (w := 0) (by omega)) (by decide) ?_
    rw [z1 1165 _ (by omega)]
    exact ⟨fun h2 => cut 0 (zbz (nn h2)).symm _, fun h2 => cut 1 (zb_t h2).symm _⟩
theorem r_give (hR : RI S) (x i : Int32) : rMet E l mX12_give 2 0 [.int x, .int i] S (rR (fGive S x i)) := by
  have hA := hR.1
  refine r_meth (by decide) (Nat.le_of_ble_eq_true rfl) (by simp [Value.category]) (fun G hK => rwpt_X12_give_0 hK ?_); unfold rwp_X12_give_0
  intro S1 e1; have z1 : ∀ t k, ¬ (t = 416 ∧ k = 0) → S1 t k = S t k := fun t k h => by rw [e1, zup_at, if_neg h]
  have s1 : zsim S S1 := by rw [e1]; exact zs0 zsim.rf
  have t1 : S1 416 0 = 0 := by rw [e1]; exact zup_s _ _ _ _
  refine gI (r_noAsking (n := nA S) x (by rw [z1 _ _ (by omega), hA.1]) (by omega)) (by decide) (gT (by decide) (fun h => it (by decide) ?_) (fun h => ie (by decide) ?_))
  · unfold fGive; rw [f3t h]; exact rR1 s1 (by decide)
  · obtain ⟨a, ha, rfl⟩ := zin_of (Classical.not_not.mp h) (by omega)
    have ef : fGive S (Int32.ofNat a) i = fCalls3 (¬ inn i 0 255) (2, 0, S) (fCalls3 (¬ S 1165 (7 * a + 0) = 1) (3, 0, S) (0, rLacks (zgive S a i) a, zgive2 (zgive S a i) a)) := by unfold fGive; rw [f3f h, n_nn (by omega)]
    rw [ef]
    generalize hF : fCalls3 (¬ inn i 0 255) (2, 0, S) (fCalls3 (¬ S 1165 (7 * a + 0) = 1) (3, 0, S) (0, rLacks (zgive S a i) a, zgive2 (zgive S a i) a)) = F
    have cut2 : inn i 0 255 → ∀ s0, s0 = zb (¬ S 1165 (7 * a + 0) = 1) → ∀ k, zW E l mX12_give 2 0 (zput G S) (rQ G (rR F)) k 58 [some (.ref (zp 416 0)), some (.int (Int32.ofNat a)), some (.int i)] [.int s0, .ref (zp 416 0)] (zput G S1) := by
      intro hi s0 hs k
      refine rwpt_X12_give_58 hK ?_; unfold rwp_X12_give_58
      rw [hs, ← hF, f3f (nn hi)]
      refine gT (by decide) (fun h2 => ie (by decide) ?_) (fun h2 => it rfl ⟨n_in (by omega) (by omega), n_in (by omega) (by omega), fun S4 e4 => gI (r_lacksOf (by omega)) (by decide) ?_⟩)
      · rw [f3t h2]; exact rR1 s1 (by decide)
      · rw [f3f h2]
        rw [n_nn (by omega), z1 _ _ (by omega)] at e4
        have s4 : zsim (zgive S a i) S4 := by rw [e4]; exact s1.cg
        have t4 : S4 416 0 = 0 := by rw [e4, zup_ne (by omega), t1]
        have hl : ∀ T, zsim (zgive S a i) T → rLacks T a = rLacks (zgive S a i) a := fun T hT => by unfold rLacks; rw [hT _ _ (by unfold zscr; omega), hT _ _ (by unfold zscr; omega)]
        rw [hl _ s4]
        refine ⟨fun h3 => gI (r_lacksOf (by omega)) (by decide) ?_, fun h3 => gV (r_sets (a := a) (w := 0) (by omega)) (by decide) (gI (r_lacksOf (by omega)) (by decide) ?_)⟩
        · unfold zgive2
          rw [hl _ s4, if_neg h3]; exact rR0 s4 t4 rfl
        · unfold zgive2
          rw [if_pos (Classical.not_not.mp h3)]
          refine rR0 s4.cg (by rw [zup_ne (by omega), t4]) ?_
          rw [← hl _ s4]
          unfold rLacks
          rw [zup_ne (by omega), zup_ne (by omega)]
    have cut : ∀ s0, s0 = zb (¬ inn i 0 255) → ∀ k, zW E l mX12_give 2 0 (zput G S) (rQ G (rR F)) k 35 [some (.ref (zp 416 0)), some (.int (Int32.ofNat a)), some (.int i)] [.int s0, .ref (zp 416 0)] (zput G S1) := by
      intro s0 hs k
      refine rwpt_X12_give_35 hK ?_; unfold rwp_X12_give_35
      rw [hs]
      refine gT (by decide) (fun h2 => it (by decide) ?_) (fun h2 => ie (by decide) (gI (r_now (a := a) (w := 0) (by omega)) (by decide) ?_))
      · rw [← hF, f3t h2]; exact rR1 s1 (by decide)
      · rw [z1 1165 _ (by omega)]
        exact ⟨fun h3 => cut2 (Classical.not_not.mp h2) 0 (zbz (nn h3)).symm _, fun h3 => cut2 (Classical.not_not.mp h2) 1 (zb_t h3).symm _⟩
    exact sI (fun _ => s_in _ _ _) (by decide) ⟨fun h2 => cut 0 (zbz (nn (Classical.not_not.mp (fun z => h2 (zbz z))))).symm _, fun h2 => cut 1 (zb_t (zb_0.mp (Classical.not_not.mp h2))).symm _⟩
end ZRi
