/-! days, person, tell, figure, feed -/
theorem zdaysT_dk {r : Int32} : ∀ {n : Nat} {S : ZS9}, zdk S (zdaysT r n S)
  | 0, _ => zdk.rf
  | n + 1, S => by
    unfold zdaysT
    split
    · exact zdk.rf
    · exact zday_dk.tr zdaysT_dk
theorem zdaysT_RI {r : Int32} : ∀ {n : Nat} {S : ZS9}, RI S → RI (zdaysT r n S)
  | 0, _, h => h
  | n + 1, S, h => by
    unfold zdaysT
    split
    · exact h
    · exact zdaysT_RI (zday_RI h)
theorem ztold_RI {S : ZS9} {p q : Nat} {v : Int32} (hR : RI S) : RI (ztold S p q v) := (hR.up (by omega)).up (by omega)
section ZRk
variable {E : ZE} {l : Launch} {S : ZS9}
theorem r_days (hR : RI S) (hr : S 416 42 = 0 ∨ S 416 42 = 1 ∨ S 416 42 = 2) (n : Int32) : rMet E l mX12_days 6 0 [.int n] S (rR (fDays S n)) := by
  refine r_meth (by decide) (Nat.le_of_ble_eq_true rfl) (by simp [Value.category]) (fun G hK => rwpt_X12_days_0 hK ?_); unfold rwp_X12_days_0
  intro S1 e1; have z1 : ∀ t k, ¬ (t = 416 ∧ k = 0) → S1 t k = S t k := fun t k h => by rw [e1, zup_at, if_neg h]
  have s1 : zsim S S1 := by rw [e1]; exact zs0 zsim.rf
  have t1 : S1 416 0 = 0 := by rw [e1]; exact zup_s _ _ _ _
  have hR1 : RI S1 := nS1 z1 hR
  refine sI (fun _ => s_in _ _ _) (by decide) ⟨fun h => gI (r_thr0 _) (by decide) (it rfl ?_), fun h => gI (r_thr1 _) (by decide) (ie (by decide) ?_)⟩
  · have h : inn n 0 60 := Classical.not_not.mp (fun z => h (zbz z))
    have ef : fDays S n = (0, zdaysT (S 416 42) n.toNatClampNeg S1 416 1, zdaysT (S 416 42) n.toNatClampNeg S1) := by unfold fDays zs; rw [f3f (nn h), e1]
    obtain ⟨m, hm, rfl⟩ := inn_nat (n := 60) (by omega) h
    rw [n_nn (by omega)] at ef
    rw [ef]
    have key : ∀ i, i ≤ m → ∀ T, RI T → zdk S1 T → zdaysT (S 416 42) (m - i) T = zdaysT (S 416 42) m S1 → ∀ k, zW E l mX12_days 6 0 (zput G S) (rQ G (rR (0, zdaysT (S 416 42) m S1 416 1, zdaysT (S 416 42) m S1))) k 32 [some (.ref (zp 416 0)), some (.int (Int32.ofNat m)), some (.int (Int32.ofNat i))] [] (zput G T) := by
      refine zdown (fun T hT hk e k => ?_) (fun i hi ih T hT hk e k => ?_)
      · refine rwpt_X12_days_32 hK ?_; unfold rwp_X12_days_32
        rw [Nat.sub_self] at e
        have e : T = zdaysT (S 416 42) m S1 := e
        refine it (by rw [n_le (by omega) (by omega)]; omega) ?_
        rw [← e]
        exact rR0 zsim.rf (by rw [hk _ _ (by unfold zdc; omega), t1]) rfl
      · refine rwpt_X12_days_32 hK ?_; unfold rwp_X12_days_32
        rw [show m - i = (m - (i + 1)) + 1 by omega] at e
        have e' : (if 1000 ≤ T 416 1 then T else zdaysT (S 416 42) (m - (i + 1)) (zday T (S 416 42))) = zdaysT (S 416 42) m S1 := e
        rw [n_p1]
        refine ie (by rw [n_le (by omega) (by omega)]; omega) ⟨fun h2 => ?_, fun h2 => ?_⟩
        · rw [if_pos h2] at e'
          rw [← e']
          exact rR0 zsim.rf (by rw [hk _ _ (by unfold zdc; omega), t1]) rfl
        · rw [if_neg h2] at e'
          have e42 : T 416 42 = S 416 42 := by rw [hk _ _ (by unfold zdc; omega), z1 _ _ (by omega)]
          rw [e42]
          exact gV (r_day hT hr) (by decide) (ih _ (zday_RI hT) (hk.tr zday_dk) e' k)
    exact key 0 (by omega) S1 hR1 zdk.rf rfl _
  · unfold fDays; rw [f3t (zb_0.mp (Classical.not_not.mp h))]; exact rR1 s1 (by decide)
theorem r_person (hR : RI S) (born ab a b c d e : Int32) (hab : ab = 0 ∨ ab = 1) : rMet E l mX12_person 2 0 [.int born, .int ab, .int a, .int b, .int c, .int d, .int e] S (rR (fPerson S born ab a b c d e)) := by
  have hP := hR.2.1
  refine r_meth (by decide) (Nat.le_of_ble_eq_true rfl) (by simp [Value.category]) (fun G hK => rwpt_X12_person_0 hK ?_); unfold rwp_X12_person_0
  intro S1 e1; have z1 : ∀ t k, ¬ (t = 416 ∧ k = 0) → S1 t k = S t k := fun t k h => by rw [e1, zup_at, if_neg h]
  have s1 : zsim S S1 := by rw [e1]; exact zs0 zsim.rf
  have t1 : S1 416 0 = 0 := by rw [e1]; exact zup_s _ _ _ _
  have cut2 : (inn born (-40000) (S 416 1) ∧ inn a 0 99 ∧ inn b 0 99 ∧ inn c 0 99 ∧ inn d 0 99 ∧ inn e 0 99) → ∀ s0, s0 = zb (nP S = 80) → ∀ k, zW E l mX12_person 2 0 (zput G S) (rQ G (rR (fPerson S born ab a b c d e))) k 86 [some (.ref (zp 416 0)), some (.int born), some (.int ab), some (.int a), some (.int b), some (.int c), some (.int d), some (.int e)] [.int s0, .ref (zp 416 0)] (zput G S1) := by
    intro h s0 hs k
    refine rwpt_X12_person_86 hK ?_; unfold rwp_X12_person_86
    rw [hs]
    refine gT (by decide) (fun h2 => ie (by decide) ?_) (fun h2 => it rfl ?_)
    · unfold fPerson; rw [f3f (nn h), f3t h2]; exact rR1 s1 (by decide)
    · have f1 : S1 416 34 = Int32.ofNat (nP S) := by rw [z1 _ _ (by omega), hP.1]
      rw [f1, n_nn (by omega)]
      refine ⟨n_in (by omega) (by omega), fun S4 e4 => ?_⟩
      have f4 : S4 416 34 = Int32.ofNat (nP S) := by rw [e4, zup_ne (by omega), f1]
      rw [f4, n_nn (by omega)]
      refine ⟨n_in (by omega) (by omega), by rcases hab with h | h <;> rw [h] <;> first | exact zok_0 | exact zok_1, fun S5 e5 => ?_⟩
      have f5 : S5 416 34 = Int32.ofNat (nP S) := by rw [e5, zup_ne (by omega), f4]
      rw [f5, show (5 : Int32) = Int32.ofNat 5 from rfl, n_mul, n_nn (by omega)]
      refine ⟨n_in (by omega) (by omega), fun S6 e6 => ?_⟩
      have f6 : S6 416 34 = Int32.ofNat (nP S) := by rw [e6, zup_ne (by omega), f5]
      rw [f6, n_mul, show (1 : Int32) = Int32.ofNat 1 from rfl, n_add, n_nn (by omega)]
      refine ⟨n_in (by omega) (by omega), fun S7 e7 => ?_⟩
      have f7 : S7 416 34 = Int32.ofNat (nP S) := by rw [e7, zup_ne (by omega), f6]
      rw [f7, n_mul, show (2 : Int32) = Int32.ofNat 2 from rfl, n_add, n_nn (by omega)]
      refine ⟨n_in (by omega) (by omega), fun S8 e8 => ?_⟩
      have f8 : S8 416 34 = Int32.ofNat (nP S) := by rw [e8, zup_ne (by omega), f7]
      rw [f8, n_mul, show (3 : Int32) = Int32.ofNat 3 from rfl, n_add, n_nn (by omega)]
      refine ⟨n_in (by omega) (by omega), fun S9 e9 => ?_⟩
      have f9 : S9 416 34 = Int32.ofNat (nP S) := by rw [e9, zup_ne (by omega), f8]
      rw [f9, n_mul, show (4 : Int32) = Int32.ofNat 4 from rfl, n_add, n_nn (by omega)]
      refine ⟨n_in (by omega) (by omega), fun S10 e10 S11 e11 => ?_⟩
      have f10 : S10 416 34 = Int32.ofNat (nP S) := by rw [e10, zup_ne (by omega), f9]
      unfold fPerson zperson
      rw [f3f (nn h), f3f h2, hP.1, e11, f10, e10, e9, e8, e7, e6, e5, e4]
      refine rR0 s1.cg.cg.cg.cg.cg.cg.cg.cg ?_ ?_
      · rw [zup_ne (by omega), zup_ne (by omega), zup_ne (by omega), zup_ne (by omega), zup_ne (by omega), zup_ne (by omega), zup_ne (by omega), zup_ne (by omega), t1]
      · rw [zup_s, ← show (1 : Int32) = Int32.ofNat 1 from rfl, n_p1, n_s1]
  have cut : ∀ s0, s0 = zb (¬ (inn born (-40000) (S 416 1) ∧ inn a 0 99 ∧ inn b 0 99 ∧ inn c 0 99 ∧ inn d 0 99 ∧ inn e 0 99)) → ∀ k, zW E l mX12_person 2 0 (zput G S) (rQ G (rR (fPerson S born ab a b c d e))) k 64 [some (.ref (zp 416 0)), some (.int born), some (.int ab), some (.int a), some (.int b), some (.int c), some (.int d), some (.int e)] [.int s0, .ref (zp 416 0)] (zput G S1) := by
    intro s0 hs k
    refine rwpt_X12_person_64 hK ?_; unfold rwp_X12_person_64
    rw [hs]
    refine gT (by decide) (fun h => it (by decide) ?_) (fun h => ie (by decide) ?_)
    · unfold fPerson; rw [f3t h]; exact rR1 s1 (by decide)
    · rw [z1 416 34 (by decide), hP.1, show (80 : Int32) = Int32.ofNat 80 from rfl, n_inj (by omega) (by omega)]
      exact ⟨fun h2 => cut2 (Classical.not_not.mp h) 0 (zbz h2).symm _, fun h2 => cut2 (Classical.not_not.mp h) 1 (zb_t (Classical.not_not.mp h2)).symm _⟩
  rw [z1 416 1 (by decide)]
  refine sI (fun _ => s_in _ _ _) (by decide) ⟨fun h => cut 1 (zb_t (fun z => (zb_0.mp h) z.1)).symm _, fun h => ?_⟩
  rw [zb_0, Classical.not_not] at h
  refine sI (fun _ => s_noFace _) (by decide) ⟨fun h2 => cut 1 (zb_t (fun z => h2 (zbz (nn z.2.1)))).symm _, fun h2 => ?_⟩
  refine sI (fun _ => s_noFace _) (by decide) ⟨fun h3 => cut 1 (zb_t (fun z => h3 (zbz (nn z.2.2.1)))).symm _, fun h3 => ?_⟩
  refine sI (fun _ => s_noFace _) (by decide) ⟨fun h4 => cut 1 (zb_t (fun z => h4 (zbz (nn z.2.2.2.1)))).symm _, fun h4 => ?_⟩
  refine sI (fun _ => s_noFace _) (by decide) ⟨fun h5 => cut 1 (zb_t (fun z => h5 (zbz (nn z.2.2.2.2.1)))).symm _, fun h5 => ?_⟩
  rw [Classical.not_not, zb_0, Classical.not_not] at h2 h3 h4 h5
  refine sI (fun _ => s_noFace _) (by decide) ⟨fun h6 => cut 0 (zbz (nn ⟨h, h2, h3, h4, h5, ?_⟩)).symm _, fun h6 => cut 1 (zb_t (fun z => h6 (zbz (nn z.2.2.2.2.2)))).symm _⟩
  rw [zb_0, Classical.not_not] at h6
  exact h6
theorem zheld_dk {n : Nat} : zdk S (zheld S n).2 := by
  induction n with
  | zero => exact zdk.rf
  | succ n ih =>
    unfold zheld
    split
    · exact ih.tr zdk.chk
    · exact ih
theorem zheld_nb {n : Nat} : (zheld S n).2 416 71 = S 416 71 := by
  induction n with
  | zero => rfl
  | succ n ih =>
    unfold zheld
    split
    · show zchk (zheld S n).2 n 416 71 = _
      unfold zchk; rw [zup_ne (by omega), ih]
    · exact ih
theorem zheld_s {i : Nat} : zheld S (i + 1) = if (zheld S i).2 1165 (7 * i + 0) = 3 then (if zst (zheld S i).2 i = 3 then (zheld S i).1 else (zheld S i).1 + 1, zchk (zheld S i).2 i) else zheld S i := rfl
theorem r_tell (hR : RI S) (x y s : Int32) : rMet E l mX12_tell 2 0 [.int x, .int y, .int s] S (rR (fTell S x y s)) := by
  have hP := hR.2.1
  have hA := hR.1
  refine r_meth (by decide) (Nat.le_of_ble_eq_true rfl) (by simp [Value.category]) (fun G hK => rwpt_X12_tell_0 hK ?_); unfold rwp_X12_tell_0
  intro S1 e1; have z1 : ∀ t k, ¬ (t = 416 ∧ k = 0) → S1 t k = S t k := fun t k h => by rw [e1, zup_at, if_neg h]
  have s1 : zsim S S1 := by rw [e1]; exact zs0 zsim.rf
  have t1 : S1 416 0 = 0 := by rw [e1]; exact zup_s _ _ _ _
  have hR1 : RI S1 := nS1 z1 hR
  have hn : S1 416 34 = Int32.ofNat (nP S) := by rw [z1 _ _ (by omega), hP.1]
  -- the loop over the askings
  have held : ∀ p q, fTell S x y s = (0, (zheld (ztell S p q s) (nA S)).1, (zheld (ztell S p q s) (nA S)).2) → ∀ k, zW E l mX12_tell 2 0 (zput G S) (rQ G (rR (fTell S x y s))) k 100 [some (.ref (zp 416 0)), none, none, none, some (.int 0), some (.int 0)] [] (zput G (ztell S p q s)) := by
    intro p q ef k
    have hR2 : RI (ztell S p q s) := by unfold ztell zs; rw [← e1]; exact ztold_RI hR1
    have t2 : ztell S p q s 416 0 = 0 := by unfold ztell zs ztold; rw [← e1, zup_ne (by omega), zup_ne (by omega), t1]
    have n2 : nA (ztell S p q s) = nA S := by unfold nA ztell zs ztold; rw [← e1, zup_ne (by omega), zup_ne (by omega), z1 _ _ (by omega)]
    rw [ef]
    generalize ztell S p q s = T at *
    have a2 := hR2.1
    rw [n2] at a2
    have key : ∀ i, i ≤ nA S → ∀ k, zW E l mX12_tell 2 0 (zput G S) (rQ G (rR (0, (zheld T (nA S)).1, (zheld T (nA S)).2))) k 100 [some (.ref (zp 416 0)), none, none, none, some (.int (zheld T i).1), some (.int (Int32.ofNat i))] [] (zput G (zheld T i).2) := by
      refine zdown (fun k => ?_) (fun i hi ih k => ?_)
      · refine rwpt_X12_tell_100 hK ?_; unfold rwp_X12_tell_100
        exact it (by rw [zheld_dk _ _ (by unfold zdc; omega), a2.1, n_le (by omega) (by omega)]; omega) (rR0 zsim.rf (by rw [zheld_dk _ _ (by unfold zdc; omega), t2]) rfl)
      · have ih := ih k
        refine rwpt_X12_tell_100 hK ?_; unfold rwp_X12_tell_100
        rw [n_p1, Int32.add_zero]
        refine ie (by rw [zheld_dk _ _ (by unfold zdc; omega), a2.1, n_le (by omega) (by omega)]; omega) (gI (r_now (a := i) (w := 0) (by omega)) (by decide) ⟨fun h => ?_, fun h => ?_⟩)
        · rw [zheld_s, if_pos h] at ih
          have hRi : RI (zheld T i).2 := hR2.nb zheld_dk zheld_nb
          have hni : nA (zheld T i).2 = nA S := (nA_dk zheld_dk).trans n2
          refine gV (r_checks hRi (by omega)) (by decide) (gI (r_now (a := i) (w := 0) (by omega)) (by decide) ?_)
          have e9 : zchk (zheld T i).2 i 1165 (7 * i + 0) = zst (zheld T i).2 i := zup_s _ _ _ _
          rw [e9]
          refine ⟨fun h2 => ?_, fun h2 => ?_⟩
          · rw [if_pos h2] at ih; exact ih
          · rw [if_neg h2] at ih; exact ih
        · rw [zheld_s, if_neg h] at ih; exact ih
    exact key 0 (by omega) k
  have cut3 : ∀ p q, x = Int32.ofNat p → y = Int32.ofNat q → p < nP S → q < nP S → x ≠ y → ∀ s0, s0 = (if s = 0 then 1 else 2) → ∀ k, zW E l mX12_tell 2 0 (zput G S) (rQ G (rR (fTell S x y s))) k 73 [some (.ref (zp 416 0)), some (.int x), some (.int y), some (.int s), none, none] [.int s0, .int ((80 * x) + y), .ref (zp 1135 0)] (zput G S1) := by
    intro p q hp hq hpl hql hne s0 hs k
    have ef : fTell S x y s = (0, (zheld (ztell S p q s) (nA S)).1, (zheld (ztell S p q s) (nA S)).2) := by
      unfold fTell
      rw [f3f (nn ⟨by rw [hp]; exact zin_at hpl (by omega), by rw [hq]; exact zin_at hql (by omega)⟩), f3f hne, hp, hq, n_nn (by omega), n_nn (by omega)]
    have hld := held p q ef
    subst hp
    subst hq
    refine rwpt_X12_tell_73 hK ?_; unfold rwp_X12_tell_73
    rw [show (80 : Int32) = Int32.ofNat 80 from rfl, n_mul, n_add, n_mul, n_add, n_nn (by omega), n_nn (by omega)]
    refine ⟨n_in (by omega) (by omega), fun S2 e2 => ⟨fun h => ⟨n_in (by omega) (by omega), fun S3 e3 => ?_⟩, fun h => ⟨n_in (by omega) (by omega), fun S3 e3 => ?_⟩⟩⟩
    · have : S3 = ztell S p q s := by unfold ztell ztold zs; rw [e3, e2, hs, if_pos h, e1]
      rw [this]; exact hld _
    · have : S3 = ztell S p q s := by unfold ztell ztold zs; rw [e3, e2, hs, if_neg h, e1]
      rw [this]; exact hld _
  have cut2 : zin x (nP S) → zin y (nP S) → ∀ s0, s0 = zb (x = y) → ∀ k, zW E l mX12_tell 2 0 (zput G S) (rQ G (rR (fTell S x y s))) k 45 [some (.ref (zp 416 0)), some (.int x), some (.int y), some (.int s), none, none] [.int s0, .ref (zp 416 0)] (zput G S1) := by
    intro hx hy s0 hs k
    obtain ⟨p, hpl, hp⟩ := zin_of hx (by omega)
    obtain ⟨q, hql, hq⟩ := zin_of hy (by omega)
    refine rwpt_X12_tell_45 hK ?_; unfold rwp_X12_tell_45
    rw [hs]
    refine gT (by decide) (fun h => ie (by decide) ?_) (fun h => it rfl ⟨fun h2 => cut3 p q hp hq hpl hql h _ (by rw [if_pos h2]) _, fun h2 => cut3 p q hp hq hpl hql h _ (by rw [if_neg h2]) _⟩)
    unfold fTell; rw [f3f (nn ⟨hx, hy⟩), f3t h]; exact rR1 s1 (by decide)
  have cut : ¬ (zin x (nP S) ∧ zin y (nP S)) → ∀ k, zW E l mX12_tell 2 0 (zput G S) (rQ G (rR (fTell S x y s))) k 22 [some (.ref (zp 416 0)), some (.int x), some (.int y), some (.int s), none, none] [.ref (zp 416 0)] (zput G S1) := by
    intro h k
    refine rwpt_X12_tell_22 hK ?_; unfold rwp_X12_tell_22
    refine gI (r_thr1 _) (by decide) (it (by decide) ?_)
    unfold fTell; rw [f3t h]; exact rR1 s1 (by decide)
  refine gI (r_nobody (n := nP S) x hn (by omega)) (by decide) ⟨fun h => cut (fun z => h (zbz (nn z.1))) _, fun h => ?_⟩
  have h := Classical.not_not.mp (zb_0.mp (Classical.not_not.mp h))
  refine gI (r_nobody (n := nP S) y hn (by omega)) (by decide) ⟨fun h2 => ?_, fun h2 => cut (fun z => h2 (zbz (nn z.2))) _⟩
  have h2 := Classical.not_not.mp (zb_0.mp h2)
  exact gI (r_thr0 _) (by decide) (ie (by decide) ⟨fun h3 => cut2 h h2 0 (zbz h3).symm _, fun h3 => cut2 h h2 1 (zb_t (Classical.not_not.mp h3)).symm _⟩)
theorem n_div {a b : Nat} (ha : a < 2147483648) (hb : b < 2147483648) : Int32.ofNat a / Int32.ofNat b = Int32.ofNat (a / b) := by
  have hc := Nat.div_le_self a b
  rw [← Int32.toInt_inj, Int32.toInt_div, n_toInt ha, n_toInt hb, n_toInt (by omega), show Int.tdiv (a : Int) (b : Int) = ((a / b : Nat) : Int) from rfl]
  generalize a / b = c at *
  rw [Int.bmod_eq_of_le] <;> omega
theorem n_rem {a b : Nat} (ha : a < 2147483648) (hb : b < 2147483648) : Int32.ofNat a - Int32.ofNat a / Int32.ofNat b * Int32.ofNat b = Int32.ofNat (a % b) := by
  have h1 : a / b * b ≤ a := Nat.div_mul_le_self a b
  rw [n_div ha hb, n_mul, n_sub h1]
  congr 1
  have := Nat.div_add_mod a b
  rw [Nat.mul_comm] at this
  omega
theorem r_figure (hR : RI S) (x : Int32) : rMet E l mX12_figure 2 0 [.int x] S (rR (fFigure S x)) := by
  have hP := hR.2.1
  refine r_meth (by decide) (Nat.le_of_ble_eq_true rfl) (by simp [Value.category]) (fun G hK => rwpt_X12_figure_0 hK ?_); unfold rwp_X12_figure_0
  intro S1 e1; have z1 : ∀ t k, ¬ (t = 416 ∧ k = 0) → S1 t k = S t k := fun t k h => by rw [e1, zup_at, if_neg h]
  have s1 : zsim S S1 := by rw [e1]; exact zs0 zsim.rf
  have t1 : S1 416 0 = 0 := by rw [e1]; exact zup_s _ _ _ _
  refine gI (r_nobody (n := nP S) x (by rw [z1 _ _ (by omega), hP.1]) (by omega)) (by decide) (gT (by decide) (fun h => ie (by decide) ?_) (fun h => it rfl ?_))
  · unfold fFigure; rw [f3t h]; exact rR1 s1 (by decide)
  · obtain ⟨p, hp, rfl⟩ := zin_of (Classical.not_not.mp h) (by omega)
    have ef : fFigure S (Int32.ofNat p) = fCalls3 (S 2133 p = 0) (0, -1, S) (0, figN S p 24 - figN S p 24 / 10 * 10, S) := by unfold fFigure; rw [f3f h, n_nn (by omega)]
    rw [ef, n_nn (by omega), z1 2133 _ (by omega)]
    refine ⟨n_in (by omega) (by omega), fun h2 => ?_, fun h2 => ?_⟩
    · rw [f3f h2]
      have key : ∀ i, i ≤ 24 → ∀ k, zW E l mX12_figure 2 0 (zput G S) (rQ G (rR (0, figN S p 24 - figN S p 24 / 10 * 10, S))) k 35 [some (.ref (zp 416 0)), some (.int (Int32.ofNat p)), some (.int (figN S p i)), some (.int (Int32.ofNat i)), none] [] (zput G S1) := by
        refine zdown (fun k => ?_) (fun i hi ih k => ?_)
        · refine rwpt_X12_figure_35 hK ?_; unfold rwp_X12_figure_35
          exact it (by decide) (rR0 s1 t1 rfl)
        · have ih := ih k
          refine rwpt_X12_figure_35 hK ?_; unfold rwp_X12_figure_35
          rw [show (24 : Int32) = Int32.ofNat 24 from rfl, n_mul, n_add, n_nn (by omega), z1 1132 _ (by omega)]
          refine ie (by rw [n_le (by omega) (by omega)]; omega) ⟨n_in (by omega) (by omega), ?_⟩
          have last : ∀ s0, s0 = (if S 1132 (24 * p + i) = 60 then 0 else S 1132 (24 * p + i) - 65 + 10) → zW E l mX12_figure 2 0 (zput G S) (rQ G (rR (0, figN S p 24 - figN S p 24 / 10 * 10, S))) k 74 [some (.ref (zp 416 0)), some (.int (Int32.ofNat p)), none, some (.int (Int32.ofNat i)), none] [.int s0, .int (figN S p i)] (zput G S1) := by
            intro s0 hs
            have e9 : figN S p (i + 1) = figN S p i + s0 * figW i := by rw [hs]; rfl
            rw [e9] at ih
            refine rwpt_X12_figure_74 hK ?_; unfold rwp_X12_figure_74
            rw [show (3 : Int32) = Int32.ofNat 3 from rfl, n_rem (by omega) (by omega), show (0 : Int32) = Int32.ofNat 0 from rfl, show (1 : Int32) = Int32.ofNat 1 from rfl, n_inj (by omega) (by omega), n_inj (by omega) (by omega), ← show (1 : Int32) = Int32.ofNat 1 from rfl, n_p1]
            unfold figW at ih
            refine ⟨fun h3 => ⟨fun h4 => ?_, fun h4 => ?_⟩, fun h3 => ?_⟩
            · rw [if_neg h3, if_neg h4] at ih; exact ih
            · rw [if_neg h3, if_pos (Classical.not_not.mp h4)] at ih; exact ih
            · rw [if_pos (Classical.not_not.mp h3)] at ih; exact ih
          refine ⟨fun h3 => last _ (by rw [if_neg h3]), fun h3 => last _ (by rw [if_pos (Classical.not_not.mp h3)])⟩
      exact key 0 (by omega) _
    · rw [f3t (Classical.not_not.mp h2)]; exact rR0 s1 t1 rfl
end ZRk
