/-! public methods that only look -/
theorem zline_cnt {S : ZS9} {r st : Int32} : ∀ {n : Nat}, Int32.ofNat (zline S r st n).length = zcnt (fun a => S 1165 (7 * a + 0) = st) n
  | 0 => rfl
  | n + 1 => by
    have ih := zline_cnt (S := S) (r := r) (st := st) (n := n)
    unfold zline
    by_cases h : S 1165 (7 * n + 0) = st
    · rw [if_pos h, zins_len, zcnt_t h, ← ih, n_p1]
    · rw [if_neg h, zcnt_f h, ih]
section ZCo9
variable {E : ZE} {l : Launch} {K : ZG} {m n1 m1 : Nat} {S : ZS9} {X : ZG}
theorem p_fault (htr : l.stackTraces = false) (h : PO K S m n1 m1 X) : zMet E l mX11_fault 0 0 [.ref (zp 384 0)] X (cO cy (fun _ => xIO) (fFault S) (fun S' G' => PO K S' m n1 m1 G')) := by
  refine z_meth (by decide) (Nat.le_of_ble_eq_true rfl) (by simp [Value.category]) (wpt_X11_fault_0 ?_); unfold wp_X11_fault_0
  rw [h.2.1.2.2.2.2]
  exact ⟨h.o.1, cO_ok rfl h⟩
theorem p_far (htr : l.stackTraces = false) (h : PO K S m n1 m1 X) (x y : Int32) : zMet E l mX11_far 7 7 [.ref (zp 384 0), .int x, .int y] X (cO cy (fun _ => xIO) (fFar S x y) (fun S' G' => PO K S' m n1 m1 G')) := by
  have hN := h.of.ri.2.1.2
  refine z_meth (by decide) (Nat.le_of_ble_eq_true rfl) (by simp [Value.category]) (wpt_X11_far_0 ?_); unfold wp_X11_far_0
  by_cases hx : zin x (nP S)
  · obtain ⟨p, hp, rfl⟩ := zin_of hx (by omega)
    refine ⟨h.o.1, cR (c_personAt htr h hp) (by decide) ⟨h.o.1, ?_⟩⟩
    by_cases hy : zin y (nP S)
    · obtain ⟨q, hq, rfl⟩ := zin_of hy (by omega)
      refine cR (c_personAt htr h hq) (by decide) ⟨h.of.cp.ob hp, cI (c_farFrom h.of.cp hp hq) (by decide) ?_⟩
      have ef : fFar S (Int32.ofNat p) (Int32.ofNat q) = (0, zfar S p q, S) := by unfold fFar; rw [f3f (nn ⟨hx, hy⟩), n_nn (by omega), n_nn (by omega)]
      rw [ef]; exact cO_ok rfl h
    · have ef : fFar S (Int32.ofNat p) y = (1, 0, S) := by unfold fFar; rw [f3t (fun z => hy z.2)]
      rw [ef]
      exact xcR_th (c_personNo htr h hy) (by decide) (by decide) (cO_ex (by decide) rfl h)
  · have ef : fFar S x y = (1, 0, S) := by unfold fFar; rw [f3t (fun z => hx z.1)]
    rw [ef]
    exact ⟨h.o.1, xcR_th (c_personNo htr h hx) (by decide) (by decide) (cO_ex (by decide) rfl h)⟩
theorem p_sign (htr : l.stackTraces = false) (h : PO K S m n1 m1 X) (x i : Int32) : zMet E l mX11_sign 7 7 [.ref (zp 384 0), .int x, .int i] X (cO cy (fun _ => xIO) (fSign S x i) (fun S' G' => PO K S' m n1 m1 G')) := by
  have hN := h.of.ri.2.1.2
  refine z_meth (by decide) (Nat.le_of_ble_eq_true rfl) (by simp [Value.category]) (wpt_X11_sign_0 ?_); unfold wp_X11_sign_0
  by_cases hx : zin x (nP S)
  · obtain ⟨p, hp, rfl⟩ := zin_of hx (by omega)
    have ef : fSign S (Int32.ofNat p) i = fCalls3 (¬ S 2133 p = 0 ∧ inn i 0 23) (0, S 1132 (24 * p + i.toNatClampNeg), S) (0, -1, S) := by unfold fSign; rw [f3f (nn hx), n_nn (by omega)]
    rw [ef]
    refine ⟨h.o.1, cR (c_personAt htr h hp) (by decide) ⟨h.of.cp.ob hp, ?_⟩⟩
    rcases h.2.2.2.1 p hp with ⟨h0, h1⟩ | ⟨h0, k, k1, k2, j, j1, j2, j3, j4⟩
    · rw [f3f (fun z => z.1 h0)]
      exact it h1 (cO_ok rfl h)
    · rw [k2]
      refine ie (zpn (by omega)) ⟨fun c => ?_, fun c => ⟨fun c2 => ?_, fun c2 => ?_⟩⟩
      · rw [f3f (fun z => z.2.1 c)]; exact cO_ok rfl h
      · have hi : inn i 0 23 := by
          refine ⟨c, ?_⟩
          have e23 : (23 : Int32).toInt = 23 := by decide
          have e24 : (24 : Int32).toInt = 24 := by decide
          rw [i_tl] at c2 ⊢
          rw [e24] at c2; rw [e23]; omega
        rw [f3t ⟨h0, hi⟩]
        obtain ⟨b, hb, rfl⟩ := inn_nat (n := 23) (by omega) hi
        rw [j2, j3, n_nn (by omega), j4 b (by omega)]
        exact ⟨zob_zp (by omega) (by omega) k1, Or.inl (zar_zp (by omega) (by omega) (by omega) j1), n_in (by omega) (by omega), cO_ok rfl h⟩
      · rw [f3f (fun z => c2 (by
          have := z.2.2
          have e23 : (23 : Int32).toInt = 23 := by decide
          have e24 : (24 : Int32).toInt = 24 := by decide
          rw [i_tl] at this ⊢
          rw [e23] at this; rw [e24]; omega))]
        exact cO_ok rfl h
  · have ef : fSign S x i = (1, 0, S) := by unfold fSign; rw [f3t hx]
    rw [ef]
    exact ⟨h.o.1, xcR_th (c_personNo htr h hx) (by decide) (by decide) (cO_ex (by decide) rfl h)⟩
theorem p_units (htr : l.stackTraces = false) (h : PO K S m n1 m1 X) (x day : Int32) : zMet E l mX11_units 7 7 [.ref (zp 384 0), .int x, .int day] X (cO cy (fun _ => xIO) (fUnits S x day) (fun S' G' => PO K S' m n1 m1 G')) := by
  refine z_meth (by decide) (Nat.le_of_ble_eq_true rfl) (by simp [Value.category]) (wpt_X11_units_0 ?_); unfold wp_X11_units_0
  by_cases hx : inn x 0 3
  · obtain ⟨d, hd, rfl⟩ := inn_nat (n := 3) (by omega) hx
    have ef : fUnits S (Int32.ofNat d) day = (0, zunits S d day (nT S), S) := by unfold fUnits; rw [f3f (nn hx), n_nn (by omega)]
    refine cV (c_desk htr (by omega)) (by decide) ?_
    rw [h.o.2.2.2.2.1, ef]
    exact ⟨h.o.1, h.of.cd.1, cI (c_unitsOn h.of.cd h.of.ri.2.2.2.1.2 (by omega)) (by decide) (cO_ok rfl h)⟩
  · have ef : fUnits S x day = (1, 0, S) := by unfold fUnits; rw [f3t hx]
    rw [ef]
    exact xcV_th (c_deskNo htr hx) (by decide) (by decide) (cO_ex (by decide) rfl h)
theorem p_queue (htr : l.stackTraces = false) (h : PO K S m n1 m1 X) (x : Int32) : zMet E l mX11_queue 7 7 [.ref (zp 384 0), .int x] X (cO cy (fun _ => xIO) (fQueue S x) (fun S' G' => PO K S' m n1 m1 G')) := by
  have cs := h.of.cs
  refine z_meth (by decide) (Nat.le_of_ble_eq_true rfl) (by simp [Value.category]) (wpt_X11_queue_0 ?_); unfold wp_X11_queue_0
  by_cases hx : inn x 0 3
  · obtain ⟨d, hd, rfl⟩ := inn_nat (n := 3) (by omega) hx
    have ef : fQueue S (Int32.ofNat d) = (0, zcnt (fun a => S 1165 (7 * a + 0) = rSt d) (nA S), S) := by unfold fQueue; rw [f3f (nn hx), zline_cnt]; rfl
    refine cV (c_desk htr (by omega)) (by decide) ?_
    rw [h.o.2.2.2.2.2.2.1, ef, cs.2.1, n_nn (by omega), cs.2.2 d (by omega)]
    exact ⟨h.o.1, Or.inr cs.1, n_in (by omega) (by omega), h.of.oo, cI (c_countIn h.of.so (by decide) h.of.ri (rSt d)) (by decide) (cO_ok rfl h)⟩
  · have ef : fQueue S x = (1, 0, S) := by unfold fQueue; rw [f3t hx]
    rw [ef]
    exact xcV_th (c_deskNo htr hx) (by decide) (by decide) (cO_ex (by decide) rfl h)
theorem p_ahead (htr : l.stackTraces = false) (h : PO K S m n1 m1 X) (x : Int32) : zMet E l mX11_ahead 7 7 [.ref (zp 384 0), .int x] X (cO cy (fun _ => xIO) (fAhead S x) (fun S' G' => PO K S' m n1 m1 G')) := by
  have hA := h.of.nA2
  refine z_meth (by decide) (Nat.le_of_ble_eq_true rfl) (by simp [Value.category]) (wpt_X11_ahead_0 ?_); unfold wp_X11_ahead_0
  by_cases hx : zin x (nA S)
  · obtain ⟨a, ha, rfl⟩ := zin_of hx (by omega)
    have ef : fAhead S (Int32.ofNat a) = fCalls3 (zatdesk (S 1165 (7 * a + 0))) (0, zahead S a (nA S), S) (0, -1, S) := by unfold fAhead; rw [f3f (nn hx), n_nn (by omega)]
    rw [h.o.2.2.2.2.2.2.1, ef]
    refine ⟨h.o.1, h.o.1, cR (c_askingAt htr h ha) (by decide) ⟨h.of.oo, cI (c_countAhead h.of h.or rfl ha) (by decide) ?_⟩⟩
    by_cases hd : zatdesk (S 1165 (7 * a + 0))
    · rw [if_pos hd, f3t hd]; exact cO_ok rfl h
    · rw [if_neg hd, f3f hd]; exact cO_ok rfl h
  · have ef : fAhead S x = (1, 0, S) := by unfold fAhead; rw [f3t hx]
    rw [ef]
    exact ⟨h.o.1, h.o.1, xcR_th (c_askingNo htr h hx) (by decide) (by decide) (cO_ex (by decide) rfl h)⟩
theorem p_booklet (htr : l.stackTraces = false) (h : PO K S m n1 m1 X) (x w : Int32) : zMet E l mX11_booklet 7 7 [.ref (zp 384 0), .int x, .int w] X (cO cy (xs xIO xNS xNS) (fBooklet S x w) (fun S' G' => PO K S' m n1 m1 G')) := by
  have hB := h.of.ri.2.2.1
  refine z_meth (by decide) (Nat.le_of_ble_eq_true rfl) (by simp [Value.category]) (wpt_X11_booklet_0 htr ?_); unfold wp_X11_booklet_0
  rw [h.o.2.2.2.2.2.2.1]
  by_cases hx : zin x (nB S)
  · obtain ⟨b, hb, rfl⟩ := zin_of hx (by omega)
    have ef : fBooklet S (Int32.ofNat b) w = fCalls3 (inn w 0 3) (0, S (1167 + w.toNatClampNeg) b, S) (2, 0, S) := by unfold fBooklet; rw [f3f (nn hx), n_nn (by omega)]
    have hf : ∀ k, k < 4 → ziv X (zp 64 b) k = S (1167 + k) b := fun k hk => h.of.so.fb hb hk
    have ho : zob X (zp 64 b) 2 := h.of.bo hb
    rw [ef]
    refine ⟨h.o.1, h.of.oo, cR (c_bookletAt h.of.so (by decide) h.of.ri hb) (by decide) (it (zpn (by omega)) ⟨fun c => ⟨ho, ?_⟩, fun c => ⟨ho, ?_⟩, fun c => ⟨ho, ?_⟩, fun c => ⟨ho, ?_⟩, fun c0 c1 c2 c3 => ⟨by decide, by decide, ?_⟩⟩)⟩
    · subst c; rw [f3t (by unfold inn; decide)]; exact cO_ok (by rw [hf 0 (by decide)]; rfl) h
    · subst c; rw [f3t (by unfold inn; decide)]; exact cO_ok (by rw [hf 1 (by decide)]; rfl) h
    · subst c; rw [f3t (by unfold inn; decide)]; exact cO_ok (by rw [hf 2 (by decide)]; rfl) h
    · subst c; rw [f3t (by unfold inn; decide)]; exact cO_ok (by rw [hf 3 (by decide)]; rfl) h
    · rw [f3f (fun z => by
        obtain ⟨k, hk, rfl⟩ := inn_nat (n := 3) (by omega) z
        match k, (show k < 4 by omega) with
        | 0, _ => exact c0 rfl
        | 1, _ => exact c1 rfl
        | 2, _ => exact c2 rfl
        | 3, _ => exact c3 rfl)]
      exact cO_ex (by decide) rfl h
  · have ef : fBooklet S x w = (1, 0, S) := by unfold fBooklet; rw [f3t hx]
    rw [ef]
    exact ⟨h.o.1, h.of.oo, cR (c_bookletNo h.of.so (by decide) h.of.ri hx) (by decide) (ie (nn rfl) ⟨by decide, by decide, cO_ex (by decide) rfl h⟩)⟩
theorem p_valid (htr : l.stackTraces = false) (h : PO K S m n1 m1 X) (x day : Int32) : zMet E l mX11_valid 7 7 [.ref (zp 384 0), .int x, .int day] X (cO cy (fun _ => xIO) (fValid S x day) (fun S' G' => PO K S' m n1 m1 G')) := by
  have hN := h.of.ri.2.1.2
  refine z_meth (by decide) (Nat.le_of_ble_eq_true rfl) (by simp [Value.category]) (wpt_X11_valid_0 ?_); unfold wp_X11_valid_0
  by_cases hx : zin x (nP S)
  · obtain ⟨p, hp, rfl⟩ := zin_of hx (by omega)
    have ef : fValid S (Int32.ofNat p) day = (0, zcnt (zval S (Int32.ofNat p) day) (nB S), S) := by unfold fValid; rw [f3f (nn hx)]
    rw [h.o.2.2.2.2.2.2.1, ef]
    exact ⟨h.o.1, h.o.1, cR (c_personAt htr h hp) (by decide) ⟨h.of.oo, cI (c_validOf h.of.so (by decide) h.of.ri h.of.cp hp day) (by decide) (cO_ok rfl h)⟩⟩
  · have ef : fValid S x day = (1, 0, S) := by unfold fValid; rw [f3t hx]
    rw [ef]
    exact ⟨h.o.1, h.o.1, xcR_th (c_personNo htr h hx) (by decide) (by decide) (cO_ex (by decide) rfl h)⟩
theorem p_ends (htr : l.stackTraces = false) (h : PO K S m n1 m1 X) (lo hi : Int32) : zMet E l mX11_ends 7 7 [.ref (zp 384 0), .int lo, .int hi] X (cO cy (fun _ => xIO) (fEnds S lo hi) (fun S' G' => PO K S' m n1 m1 G')) := by
  refine z_meth (by decide) (Nat.le_of_ble_eq_true rfl) (by simp [Value.category]) (wpt_X11_ends_0 ?_); unfold wp_X11_ends_0
  rw [h.o.2.2.2.2.2.2.1]
  exact ⟨h.o.1, h.of.oo, cI (c_countEnds h.of.so (by decide) h.of.ri lo hi) (by decide) (cO_ok rfl h)⟩
theorem zled_no {a : Nat} {w : Int32} (h0 : ¬ w = 0) (h1 : ¬ w = 1) (h2 : ¬ w = 2) (h3 : ¬ w = 3) (h4 : ¬ w = 4) (h5 : ¬ w = 5) (h6 : ¬ w = 6) (h7 : ¬ w = 7) (h8 : ¬ w = 8) (h9 : ¬ w = 9) (h10 : ¬ w = 10) (h11 : ¬ w = 11) (h12 : ¬ w = 12) (h13 : ¬ w = 13) (h14 : ¬ w = 14) (h15 : ¬ w = 15) : zled S a w = (2, 0) := by
  unfold zled
  rw [if_neg h0, if_neg h1, if_neg h2, if_neg h3, if_neg h4, if_neg h5, if_neg h6, if_neg h7, if_neg h8, if_neg h9, if_neg h10, if_neg h11, if_neg h12, if_neg h13, if_neg h14, if_neg h15]
theorem p_led (htr : l.stackTraces = false) (h : PO K S m n1 m1 X) (x w : Int32) : zMet E l mX11_led 7 7 [.ref (zp 384 0), .int x, .int w] X (cO cy (xs xIO xNS xNS) (fLed S x w) (fun S' G' => PO K S' m n1 m1 G')) := by
  have hA := h.of.nA2
  refine z_meth (by decide) (Nat.le_of_ble_eq_true rfl) (by simp [Value.category]) (wpt_X11_led_0 htr ?_); unfold wp_X11_led_0
  by_cases hx : zin x (nA S)
  · obtain ⟨a, ha, rfl⟩ := zin_of hx (by omega)
    have ef : fLed S (Int32.ofNat a) w = ((zled S a w).1, (zled S a w).2, S) := by unfold fLed; rw [f3f (nn hx), n_nn (by omega)]
    have o := h.of
    have ho : zob X (zp 32 a) 1 := o.ob ha
    have hv : zob X (zrv X (zp 32 a) 6) 11 := o.vo ha
    have hp := (o.pl ha).2
    have a1 : zrv X (zp 32 a) 1 = zp 288 (pn S a) := o.a1 ha
    have e1 : ziv X (zp 288 (pn S a)) 0 = S 1153 a := by rw [(o.cp.2.2.2.2 _ hp).1.1, (o.pl ha).1]
    obtain ⟨-, v1, v2, -, -, -⟩ := o.so.vd ha
    have v1 : ziv X (zrv X (zp 32 a) 6) 1 = S 1160 a := v1
    have v2 : ziv X (zrv X (zp 32 a) 6) 2 = S 1162 a := v2
    have b7 : ziv X (zp 32 a) 7 = S 1165 (7 * a + 0) := o.a7 ha
    have b2 : ziv X (zp 32 a) 2 = S 1154 a := o.a2 ha
    have b3 : ziv X (zp 32 a) 3 = S 1155 a := o.a3 ha
    have b4 : ziv X (zp 32 a) 4 = S 1156 a := o.a4 ha
    have b8 : ziv X (zp 32 a) 8 = S 1157 a := o.a8 ha
    have b9 : ziv X (zp 32 a) 9 = S 1165 (7 * a + 6) := o.a9 ha
    have b10 : ziv X (zp 32 a) 10 = S 1165 (7 * a + 1) := o.a10 ha
    have b11 : ziv X (zp 32 a) 11 = S 1165 (7 * a + 2) := o.a11 ha
    have b12 : ziv X (zp 32 a) 12 = S 1165 (7 * a + 3) := o.a12 ha
    have b13 : ziv X (zp 32 a) 13 = S 1165 (7 * a + 4) := o.a13 ha
    have b14 : ziv X (zp 32 a) 14 = S 1165 (7 * a + 5) := o.a14 ha
    have fb := h.si.2.2.1.1 a
    rw [ef]
    refine ⟨h.o.1, cR (c_askingAt htr h ha) (by decide) ?_⟩
    rw [a1, e1, v1, v2, b7, b2, b3, b4, b8, b9, b10, b11, b12, b13, b14]
    refine ⟨?_, ?_, ?_, ?_, ?_, ?_, ?_, ?_, ?_, ?_, ?_, ?_, ?_, ?_, ?_, ?_, fun c0 c1 c2 c3 c4 c5 c6 c7 c8 c9 c10 c11 c12 c13 c14 c15 => ⟨by decide, by decide, ?_⟩⟩
    · rintro rfl; exact ⟨ho, cO_ok rfl h⟩
    · rintro rfl; exact ⟨ho, o.cp.ob hp, cO_ok rfl h⟩
    · rintro rfl; exact ⟨ho, cO_ok rfl h⟩
    · rintro rfl; exact ⟨ho, cO_ok rfl h⟩
    · rintro rfl; exact ⟨ho, cO_ok rfl h⟩
    · rintro rfl; exact ⟨ho, cO_ok rfl h⟩
    · rintro rfl; exact ⟨ho, cI (c_lacking o.so (by decide) ha) (by decide) (cO_ok rfl h)⟩
    · rintro rfl; exact ⟨ho, hv, cO_ok rfl h⟩
    · rintro rfl
      refine ⟨ho, fun c => ?_, fun c => ?_⟩
      · exact cO_ok (show some (.int 0) = cy (S 1165 (7 * a + 6)) by rw [c]; rfl) h
      · exact cO_ok (show some (.int 1) = cy (S 1165 (7 * a + 6)) by rw [fb.resolve_left c]; rfl) h
    · rintro rfl; exact ⟨ho, hv, cO_ok rfl h⟩
    · rintro rfl; exact ⟨ho, hv, cI (c_years o.so ha) (by decide) (cO_ok rfl h)⟩
    · rintro rfl; exact ⟨ho, cO_ok rfl h⟩
    · rintro rfl; exact ⟨ho, cO_ok rfl h⟩
    · rintro rfl; exact ⟨ho, cO_ok rfl h⟩
    · rintro rfl; exact ⟨ho, cO_ok rfl h⟩
    · rintro rfl; exact ⟨ho, cO_ok rfl h⟩
    · rw [zled_no c0 c1 c2 c3 c4 c5 c6 c7 c8 c9 c10 c11 c12 c13 c14 c15]
      exact cO_ex (by decide) rfl h
  · have ef : fLed S x w = (1, 0, S) := by unfold fLed; rw [f3t hx]
    rw [ef]
    exact ⟨h.o.1, xcR_th (c_askingNo htr h hx) (by decide) (by decide) (cO_ex (by decide) rfl h)⟩
end ZCo9
