/-! public methods: orders, rules, days -/
theorem zdaysT_mono {r : Int32} : ∀ {n : Nat} {S : ZS9}, RI S → nB S ≤ nB (zdaysT r n S)
  | 0, _, _ => Nat.le_refl _
  | n + 1, S, h => by
    unfold zdaysT
    split
    · exact Nat.le_refl _
    · exact Nat.le_trans (zday_mn h).2.2.1 (zdaysT_mono (zday_RI h))
section ZCq
variable {E : ZE} {l : Launch} {K : ZG} {m n1 m1 : Nat} {S : ZS9} {X : ZG}
theorem c_isOrder (x : Int32) : zMet E l mX11_isOrder 0 0 [.int x] X (zI (zb (inn x 0 2)) X) := by
  have e2 : (2 : Int32).toInt = 2 := by decide
  have e3 : (3 : Int32).toInt = 3 := by decide
  refine z_meth (by decide) (Nat.le_of_ble_eq_true rfl) (by simp [Value.category]) (wpt_X11_isOrder_0 ?_); unfold wp_X11_isOrder_0
  refine ⟨fun c => ⟨by rw [zbz (fun z => z.1 c)], rfl⟩, fun c => ⟨fun c2 => ⟨?_, rfl⟩, fun c2 => ⟨?_, rfl⟩⟩⟩
  · rw [zbz (fun z => by
      have h := z.2
      rw [i_tl, e2] at h
      rw [i_ti, e3] at c2
      omega)]
  · rw [zb_t ⟨c, by
      rw [i_tl, e2]
      rw [i_ti, e3] at c2
      omega⟩]
theorem inn_012 {x : Int32} (h : inn x 0 2) : x = 0 ∨ x = 1 ∨ x = 2 := by
  obtain ⟨k, hk, rfl⟩ := inn_nat (n := 2) (by omega) h
  match k, (show k < 3 by omega) with
  | 0, _ => exact Or.inl rfl
  | 1, _ => exact Or.inr (Or.inl rfl)
  | 2, _ => exact Or.inr (Or.inr rfl)
theorem p_order (htr : l.stackTraces = false) (h : PO K S m n1 m1 X) (x : Int32) : zMet E l mX11_order 7 7 [.ref (zp 384 0), .int x] X (cO cn (fun _ => xIA) (fOrder S x) (fun S' G' => PO K S' m n1 m1 G')) := by
  refine z_meth (by decide) (Nat.le_of_ble_eq_true rfl) (by simp [Value.category]) (wpt_X11_order_0 ?_); unfold wp_X11_order_0
  refine cI (c_isOrder x) (by decide) ?_
  by_cases hx : inn x 0 2
  · rw [zb_t hx]
    refine cV (c_demand1 htr) (by decide) ?_
    rw [h.o.2.2.2.2.2.2.1]
    refine ⟨h.o.1, h.of.oo, fun G6 e6 => ?_⟩
    rw [e6]
    unfold fOrder
    rw [f3f (nn hx)]
    exact cO_ok rfl (h.putO7 (inn_012 hx))
  · rw [zbz hx]
    unfold fOrder
    rw [f3t hx]
    exact xcV_th (c_demand0 htr) (by decide) (by decide) (cO_ex (by decide) rfl h)
theorem p_broken (htr : l.stackTraces = false) (h : PO K S m n1 m1 X) (x y : Int32) : zMet E l mX11_broken 7 7 [.ref (zp 384 0), .int x, .int y] X (cO cn (fun _ => xIA) (fBroken S x y) (fun S' G' => PO K S' m n1 m1 G')) := by
  refine z_meth (by decide) (Nat.le_of_ble_eq_true rfl) (by simp [Value.category]) (wpt_X11_broken_0 ?_); unfold wp_X11_broken_0
  refine ⟨fun c => ?_, fun c => cV (c_demand1 htr) (by decide) ?_⟩
  · unfold fBroken
    rw [f3t (i_nle.mpr c)]
    exact xcV_th (c_demand0 htr) (by decide) (by decide) (cO_ex (by decide) rfl h)
  · rw [h.o.2.2.2.2.2.1]
    refine ⟨h.o.1, h.of.cr.1, fun G7 e7 => ?_⟩
    have h7 : PO K (zup S 416 44 x) m n1 m1 G7 := by rw [e7]; exact h.putR (by unfold rk; omega)
    rw [h7.o.2.2.2.2.2.1]
    refine ⟨h7.o.1, h7.of.cr.1, fun G8 e8 => ?_⟩
    rw [e8]
    unfold fBroken
    rw [f3f (nn (i_nlt.mp c))]
    exact cO_ok rfl (h7.putR (by unfold rk; omega))
/-- a row of an asking, or the office's numbers, by one step -/
theorem PO.zd {S' : ZS9} {X' : ZG} {m' : Nat} (h : PO K S m n1 m1 X) (hf : zfr (TW 0) X X') (hd : zdk S S') (hO : OF 0 S' (S 416 42) m' X') (h1 : S' 416 1 = S 416 1) (hD : SD S') (hN : SN S') : PO K S' m' n1 m1 X' := by
  refine h.ofc hf ?_ (fun t k hp => dk_pk hd hp) (h.si.dk hd h1 hD hN)
  rw [hd 416 42 (by unfold zdc; omega)]; exact hO
theorem p_refuse (htr : l.stackTraces = false) (h : PO K S m n1 m1 X) (x : Int32) : zMet E l mX11_refuse 7 7 [.ref (zp 384 0), .int x] X (cO cn (xs xIO xIS xIS) (fRefuse S x) (fun S' G' => PO K S' m n1 m1 G')) := by
  have hA := h.of.nA2
  refine z_meth (by decide) (Nat.le_of_ble_eq_true rfl) (by simp [Value.category]) (wpt_X11_refuse_0 ?_); unfold wp_X11_refuse_0
  by_cases hx : zin x (nA S)
  · obtain ⟨a, ha, rfl⟩ := zin_of hx (by omega)
    have ef : fRefuse S (Int32.ofNat a) = fCalls3 (¬ S 1165 (7 * a + 0) ≤ 5) (2, 0, S) (0, 0, zup S 1165 (7 * a + 0) 9) := by unfold fRefuse; rw [f3f (nn hx), n_nn (by omega)]
    rw [ef]
    refine ⟨h.o.1, cR (c_askingAt htr h ha) (by decide) ⟨h.of.ob ha, cI (c_isOpen h.of.so (by decide) ha) (by decide) ?_⟩⟩
    by_cases hs : 5 < S 1165 (7 * a + 0)
    · rw [zbz (nn hs), f3t (i_nle.mpr hs)]
      exact xcV_th (c_allow0 htr) (by decide) (by decide) (cO_ex (by decide) rfl h)
    · rw [zb_t hs, f3f (nn (i_nlt.mp hs))]
      refine cV (c_allow1 htr) (by decide) ⟨h.of.ob ha, fun G9 e9 => ?_⟩
      rw [e9]
      exact cO_ok rfl (h.zd (frA (w := 0) (by decide) zfr.rf) (zdk.up (by unfold zdc; omega)) (h.of.putA (by unfold gk; omega) (by omega)) (zup_ne (by omega)) (h.si.2.2.1.nv (by decide) (by decide) (by decide)) (h.si.2.2.2.2.up ha (by omega)))
  · have ef : fRefuse S x = (1, 0, S) := by unfold fRefuse; rw [f3t hx]
    rw [ef]
    exact ⟨h.o.1, xcR_th (c_askingNo htr h hx) (by decide) (by decide) (cO_ex (by decide) rfl h)⟩
theorem p_again (htr : l.stackTraces = false) (h : PO K S m n1 m1 X) (x : Int32) : zMet E l mX11_again 7 7 [.ref (zp 384 0), .int x] X (cO cn (xs xIO xIS xIS) (fAgain S x) (fun S' G' => PO K S' m n1 m1 G')) := by
  have hA := h.of.nA2
  refine z_meth (by decide) (Nat.le_of_ble_eq_true rfl) (by simp [Value.category]) (wpt_X11_again_0 ?_); unfold wp_X11_again_0
  by_cases hx : zin x (nA S)
  · obtain ⟨a, ha, rfl⟩ := zin_of hx (by omega)
    have ef : fAgain S (Int32.ofNat a) = fCalls3 (¬ S 1165 (7 * a + 0) = 8) (2, 0, S) (0, 0, zup (zup S 1165 (7 * a + 0) 5) 1165 (7 * a + 4) (-1)) := by unfold fAgain; rw [f3f (nn hx), n_nn (by omega)]
    rw [ef]
    have e7 : ziv X (zp 32 a) 7 = S 1165 (7 * a + 0) := h.of.a7 ha
    refine ⟨h.o.1, cR (c_askingAt htr h ha) (by decide) ⟨h.of.ob ha, ?_⟩⟩
    rw [e7]
    refine ⟨fun c => ?_, fun c => cV (c_allow1 htr) (by decide) ⟨h.of.ob ha, fun G9 e9 => ?_⟩⟩
    · rw [f3t c]
      exact xcV_th (c_allow0 htr) (by decide) (by decide) (cO_ex (by decide) rfl h)
    · rw [f3f c]
      have h9 : PO K (zup S 1165 (7 * a + 0) 5) m n1 m1 G9 := by
        rw [e9]
        exact h.zd (frA (w := 0) (by decide) zfr.rf) (zdk.up (by unfold zdc; omega)) (h.of.putA (by unfold gk; omega) (by omega)) (zup_ne (by omega)) (h.si.2.2.1.nv (by decide) (by decide) (by decide)) (h.si.2.2.2.2.up ha (by omega))
      have ha9 : a < nA (zup S 1165 (7 * a + 0) 5) := by rw [nA_up (by omega)]; exact ha
      refine ⟨h9.of.ob ha9, fun G11 e11 => ?_⟩
      rw [e11]
      exact cO_ok rfl (h9.zd (frA (w := 0) (by decide) zfr.rf) (zdk.up (by unfold zdc; omega)) (h9.of.putA (by unfold gk; omega) (by omega)) (zup_ne (by omega)) (h9.si.2.2.1.up (by omega)) (h9.si.2.2.2.2.up ha9 (by omega)))
  · have ef : fAgain S x = (1, 0, S) := by unfold fAgain; rw [f3t hx]
    rw [ef]
    exact ⟨h.o.1, xcR_th (c_askingNo htr h hx) (by decide) (by decide) (cO_ex (by decide) rfl h)⟩
theorem p_lose (htr : l.stackTraces = false) (h : PO K S m n1 m1 X) (x : Int32) : zMet E l mX11_lose 7 7 [.ref (zp 384 0), .int x] X (cO cn (xs xIO xIS xIS) (fLose S x) (fun S' G' => PO K S' m n1 m1 G')) := by
  have hA := h.of.nA2
  have hB := h.of.ri.2.2.1
  refine z_meth (by decide) (Nat.le_of_ble_eq_true rfl) (by simp [Value.category]) (wpt_X11_lose_0 ?_); unfold wp_X11_lose_0
  by_cases hx : zin x (nA S)
  · obtain ⟨a, ha, rfl⟩ := zin_of hx (by omega)
    have ef : fLose S (Int32.ofNat a) = fCalls3 (¬ S 1165 (7 * a + 0) = 6) (2, 0, S) (0, 0, zlose S a) := by unfold fLose; rw [f3f (nn hx), n_nn (by omega)]
    rw [ef]
    have e7 : ziv X (zp 32 a) 7 = S 1165 (7 * a + 0) := h.of.a7 ha
    refine ⟨h.o.1, cR (c_askingAt htr h ha) (by decide) ⟨h.of.ob ha, ?_⟩⟩
    rw [e7]
    refine ⟨fun c => ?_, fun c => cV (c_allow1 htr) (by decide) ⟨h.of.ob ha, fun G9 e9 => ?_⟩⟩
    · rw [f3t c]
      exact xcV_th (c_allow0 htr) (by decide) (by decide) (cO_ex (by decide) rfl h)
    · rw [f3f c]
      have c := Classical.not_not.mp c
      obtain ⟨b, hb, hb2⟩ := zin_of (h.si.2.2.1.2.1 a c) (by omega)
      have h9 : PO K (zup S 1165 (7 * a + 0) 8) m n1 m1 G9 := by
        rw [e9]
        exact h.zd (frA (w := 0) (by decide) zfr.rf) (zdk.up (by unfold zdc; omega)) (h.of.putA (by unfold gk; omega) (by omega)) (zup_ne (by omega)) (h.si.2.2.1.nv (by decide) (by decide) (by decide)) (h.si.2.2.2.2.up ha (by omega))
      have ha9 : a < nA (zup S 1165 (7 * a + 0) 8) := by rw [nA_up (by omega)]; exact ha
      have nb9 : nB (zup S 1165 (7 * a + 0) 8) = nB S := nB_up (by omega)
      have e10 : ziv G9 (zp 32 a) 10 = Int32.ofNat b := by
        rw [show ziv G9 (zp 32 a) 10 = zup S 1165 (7 * a + 0) 8 1165 (7 * a + 1) from h9.of.a10 ha9, zup_ne (by omega), hb2]
      rw [h9.o.2.2.2.2.2.2.1, e10]
      have ce := c_endBooklet (E := E) (l := l) h9.of (b := b) (by omega)
      rw [zup_ne (a := 416) (by omega), zup_ne (a := 1169) (by omega), zup_ne (a := 416) (by omega)] at ce
      refine ⟨h9.o.1, h9.of.ob ha9, h9.of.oo, cVx ce (by decide) (Nat.zero_le _) (fun G12 h12 => ?_)⟩
      refine cO_ok rfl ?_
      have ez : zlose S a = zup (zup S 1165 (7 * a + 0) 8) 1169 b (if S 416 1 < S 1169 b then S 416 1 else S 1169 b) := by unfold zlose; rw [hb2, n_nn (by omega)]
      rw [ez]
      refine h9.zd h12.2 (zdk.up (by unfold zdc; omega)) h12.1 (zup_ne (by omega)) (h9.si.2.2.1.ot (by omega) (by omega) (by omega)) (h9.si.2.2.2.2.mn (zmn.up (by omega)))
  · have ef : fLose S x = (1, 0, S) := by unfold fLose; rw [f3t hx]
    rw [ef]
    exact ⟨h.o.1, xcR_th (c_askingNo htr h hx) (by decide) (by decide) (cO_ex (by decide) rfl h)⟩
theorem PO.day {S' : ZS9} {X' : ZG} {m' : Nat} (h : PO K S m n1 m1 X) (hl : ¬ 1000 ≤ S 416 1) (hO : OF 0 (zday S (S 416 42)) (S 416 42) m' X') (hf : zfr (TW 0) X X') (e : S' = zday S (S 416 42)) : PO K S' m' n1 m1 X' := by
  subst e
  refine h.ofc hf ?_ (fun t k hp => dk_pk zday_dk hp) (h.si.day h.of.ri hl)
  rw [zday_dk 416 42 (by unfold zdc; omega)]; exact hO
theorem p_days (htr : l.stackTraces = false) (h : PO K S m n1 m1 X) (x : Int32) : zMet E l mX11_days 13 (7 + 320 * (max m (nB (fDays S x).2.2) - m)) [.ref (zp 384 0), .int x] X (cO cy (fun _ => xIA) (fDays S x) (fun S' G' => PO K S' (max m (nB (fDays S x).2.2)) n1 m1 G')) := by
  have h0 : PO K (zs S) m n1 m1 X := h.sim (zs0 zsim.rf)
  have hm0 := h0.of.mB
  have e42 : zs S 416 42 = S 416 42 := zup_ne (by omega)
  by_cases hx : inn x 0 60
  · obtain ⟨n, hn, rfl⟩ := inn_nat (n := 60) (by omega) hx
    have ef : fDays S (Int32.ofNat n) = (0, zdaysT (S 416 42) n (zs S) 416 1, zdaysT (S 416 42) n (zs S)) := by unfold fDays; rw [f3f (nn hx), n_nn (by omega)]
    rw [ef]
    show zMet E l mX11_days 13 (7 + 320 * (max m (nB (zdaysT (S 416 42) n (zs S))) - m)) _ X (cO cy (fun _ => xIA) _ (fun S' G' => PO K S' (max m (nB (zdaysT (S 416 42) n (zs S)))) n1 m1 G'))
    rw [← e42]
    generalize hr : zs S 416 42 = r at *
    generalize zs S = T at *
    generalize hR : zdaysT r n T = R
    generalize hB : 7 + 320 * (max m (nB R) - m) = B
    generalize hQ : cO cy (fun _ => xIA) (0, R 416 1, R) (fun S' G' => PO K S' (max m (nB R)) n1 m1 G') = Q
    have loop : ∀ j T1 mm X1 i k, PO K T1 mm n1 m1 X1 → T1 416 42 = r → i + j = n → zdaysT r j T1 = R → mm = max m (nB T1) → 320 * (max mm (nB R) - mm) ≤ k →
        zW E l mX11_days 13 B X Q k 20 [some (.ref (zp 384 0)), some (.int (Int32.ofNat n)), some (.int (Int32.ofNat i))] [] X1 := by
      intro j
      induction j with
      | zero =>
        intro T1 mm X1 i k h1 h42 hij hz hm hk
        have hz : T1 = R := hz
        refine wpt_X11_days_20 ?_; unfold wp_X11_days_20
        rw [h1.o.2.2.2.2.2.2.1, show ziv X1 (zp 224 0) 6 = T1 416 1 from h1.of.f6]
        refine it (by rw [n_le (by omega) (by omega)]; omega) ⟨h1.o.1, h1.of.oo, ?_⟩
        rw [← hQ, ← hz, ← hm]
        exact cO_ok rfl h1
      | succ j ih =>
        intro T1 mm X1 i k h1 h42 hij hz hm hk
        have e1 : zdaysT r (j + 1) T1 = if 1000 ≤ T1 416 1 then T1 else zdaysT r j (zday T1 r) := rfl
        rw [e1] at hz
        refine wpt_X11_days_20 ?_; unfold wp_X11_days_20
        rw [h1.o.2.2.2.2.2.2.1, show ziv X1 (zp 224 0) 6 = T1 416 1 from h1.of.f6, n_p1]
        refine ie (by rw [n_le (by omega) (by omega)]; omega) ⟨h1.o.1, h1.of.oo, fun c => ⟨h1.o.1, h1.of.oo, ?_⟩, fun c => ⟨h1.o.1, h1.of.oo, ?_⟩⟩
        · rw [if_pos c] at hz
          rw [← hQ, ← hz, ← hm]
          exact cO_ok rfl h1
        · rw [if_neg c] at hz
          have td := h1.si.2.2.2.1
          have hj := (i_le1 (y := 0) td.1 c td.1).2.1
          have cp := c_passDay (E := E) (l := l) h1.of h1.or hj
          have mo1 : nB (zday T1 r) ≤ nB R := by rw [← hz]; exact zdaysT_mono (zday_RI h1.of.ri)
          have mo0 : nB T1 ≤ nB (zday T1 r) := (zday_mn h1.of.ri).2.2.1
          rw [h42] at cp
          refine cVx cp (by decide) (by omega) (fun G2 h2 => ?_)
          refine ih (zday T1 r) (max mm (nB (zday T1 r))) G2 (i + 1) _ (h1.day c (by rw [h42]; exact h2.1) h2.2 (by rw [h42])) (by rw [zday_dk 416 42 (by unfold zdc; omega)]; exact h42) (by omega) hz (by omega) (by omega)
    refine z_meth (by decide) (Nat.le_of_ble_eq_true rfl) (by simp [Value.category]) (wpt_X11_days_0 ?_); unfold wp_X11_days_0
    refine ie hx.1 (ie hx.2 (cV (c_demand1 htr) (by decide) ?_))
    exact loop n T m X 0 _ h0 hr (by omega) hR (by omega) (by omega)
  · have ef : fDays S x = (1, 0, S) := by unfold fDays; rw [f3t hx]
    rw [ef]
    have em : max m (nB S) = m := by have := h.of.mB; omega
    show zMet E l mX11_days 13 (7 + 320 * (max m (nB S) - m)) _ X (cO cy (fun _ => xIA) _ (fun S' G' => PO K S' (max m (nB S)) n1 m1 G'))
    rw [em]
    refine z_meth (by decide) (Nat.le_of_ble_eq_true rfl) (by simp [Value.category]) (wpt_X11_days_0 ?_); unfold wp_X11_days_0
    refine ⟨fun c => xcV_th (c_demand0 htr) (by decide) (by omega) (cO_ex (by decide) rfl h), fun c => ⟨fun c2 => xcV_th (c_demand0 htr) (by decide) (by omega) (cO_ex (by decide) rfl h), fun c2 => absurd ⟨c, c2⟩ hx⟩⟩
end ZCq
