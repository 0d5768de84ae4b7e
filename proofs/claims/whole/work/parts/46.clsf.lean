/-! an office: printing, serving -/
theorem zup_zup {S : ZS9} {t k : Nat} {x y : Int32} : zup (zup S t k x) t k y = zup S t k y := by
  funext a j
  rw [zup_at, zup_at, zup_at]
  split
  · rfl
  · rfl
theorem zup_cm {S : ZS9} {t k t' k' : Nat} {x y : Int32} (h : ¬ (t = t' ∧ k = k')) : zup (zup S t k x) t' k' y = zup (zup S t' k' y) t k x := by
  funext a j
  rw [zup_at, zup_at, zup_at, zup_at]
  by_cases h1 : a = t ∧ j = k
  · rw [if_pos h1, if_neg (fun z => h ⟨h1.1.symm.trans z.1, h1.2.symm.trans z.2⟩), if_pos h1]
  · rw [if_neg h1, if_neg h1]
theorem zgets_st {S : ZS9} {a : Nat} {v : Int32} : zgets (zup S 1165 (7 * a + 0) v) a = zgets S a := by
  have e2 : zgets2 (zup S 1165 (7 * a + 0) v) a = zgets2 S a := by
    unfold zgets2
    rw [zup_zup, zup_ne (a := 416) (by omega)]
  unfold zgets
  rw [e2, zup_ne (a := 1164) (by omega), zup_ne (a := 416) (by omega), zup_ne (a := 416) (by omega), zup_ne (a := 1156) (by omega), zup_ne (a := 1160) (by omega)]
theorem zprint1_43 {S : ZS9} {a : Nat} {v : Int32} : zprint1 (zup S 416 43 v) a = zup (zprint1 S a) 416 43 v := by
  have en : nB (zup S 416 43 v) = nB S := nB_up (by omega)
  have ep : pn (zup S 416 43 v) a = pn S a := by unfold pn; rw [zup_ne (by omega)]
  unfold zprint1
  rw [zup_ne (a := 1154) (by omega), en, ep]
  split
  · rfl
  · funext t b
    have ec : zendc (zup S 416 43 v) (pn S a) (nB S) t b ↔ zendc S (pn S a) (nB S) t b := by
      unfold zendc
      rw [zup_ne (a := 1167) (by omega), zup_ne (a := 1168) (by omega), zup_ne (a := 1169) (by omega), zup_ne (a := 416) (by omega)]
    rw [zup_at]
    unfold zend
    by_cases h : zendc S (pn S a) (nB S) t b
    · rw [if_pos (ec.mpr h), if_neg (fun z => by have := h.1; omega), if_pos h, zup_ne (by omega)]
    · rw [if_neg (fun z => h (ec.mp z)), if_neg h, zup_at]
section ZCf
variable {w m : Nat} {S : ZS9} {r : Int32} {X : ZG} {E : ZE} {l : Launch}
theorem c_endValid (h : OF w S r m X) {p : Nat} (hp : p < nP S) : zMet E l mX6_endValidOnes 4 0 [.ref (zp (224 + w) 0), .ref (zp 288 p)] X (zVx (fun X' => OF w (zend S p (nB S)) r m X' ∧ zfr (TW w) X X')) := by
  have hB := h.ri.2.2.1
  have hw := h.w2
  refine z_meth (by decide) (Nat.le_of_ble_eq_true rfl) (by simp [Value.category]) (wpt_X6_endValidOnes_0 ?_); unfold wp_X6_endValidOnes_0
  have key : ∀ i, i ≤ nB S → ∀ X1 k, OF w (zend S p i) r m X1 → zfr (TW w) X X1 → zW E l mX6_endValidOnes 4 0 X (zVx (fun X' => OF w (zend S p (nB S)) r m X' ∧ zfr (TW w) X X')) k 2 [some (.ref (zp (224 + w) 0)), some (.ref (zp 288 p)), some (.int (Int32.ofNat i)), none] [] X1 := by
    refine zdown (fun X1 k h1 f1 => ?_) (fun i hi ih X1 k h1 f1 => ?_)
    · refine wpt_X6_endValidOnes_2 ?_; unfold wp_X6_endValidOnes_2
      rw [h1.f5, zend_no (by omega), hB.1]
      exact ⟨h1.oo, it (by rw [n_le (by omega) (by omega)]; omega) ⟨rfl, h1, f1⟩⟩
    · have enb : nB (zend S p i) = nB S := by unfold nB; rw [zend_no (by omega)]
      have hi1 : i < nB (zend S p i) := by omega
      have hp1 : p < nP (zend S p i) := by unfold nP; rw [zend_no (by omega)]; exact hp
      have n1 := (h1.cp.2.2.2.2 p hp1).1.1
      refine wpt_X6_endValidOnes_2 ?_; unfold wp_X6_endValidOnes_2
      rw [h1.f5, zend_no (t := 416) (by omega), hB.1, n_p1]
      refine ⟨h1.oo, ie (by rw [n_le (by omega) (by omega)]; omega) ⟨h1.oo, cR (c_bookletAt h1.so hw h1.ri hi1) (by decide) (ie (zpn (by omega)) ⟨h1.bo hi1, h1.cp.ob hp1, ?_⟩)⟩⟩
      rw [h1.so.fb hi1 (k := 0) (by decide), n1, h1.f6, zend_no (t := 1167 + 0) (by omega), zend_no (t := 416) (by omega)]
      have ci := c_isValidOn (E := E) (l := l) h1.so hw hi1 (S 416 1)
      rw [zend_no (t := 1168) (by omega), zend_no (t := 1169) (b := i) (by omega)] at ci
      refine ⟨fun c => ?_, fun c => ⟨h1.oo, h1.bo hi1, cI ci (by decide) ⟨fun c2 => ?_, fun c2 => ⟨h1.oo, h1.bo hi1, fun G2 e2 => ?_⟩⟩⟩⟩
      · exact ih X1 k (by rw [zend_f (fun z => c z.2.2.1)]; exact h1) f1
      · exact ih X1 _ (by rw [zend_f (fun z => zb_0.mp c2 z.2.2.2)]; exact h1) f1
      · have c2 := Classical.not_not.mp (fun z => c2 (zbz z))
        rw [h1.f6, zend_no (t := 416) (by omega)] at e2
        refine ih G2 _ ?_ (by rw [e2]; exact frB hw f1)
        rw [zend_t ⟨rfl, by omega, Classical.not_not.mp c, c2⟩, e2]
        exact h1.putB (k := 2) (by decide)
  exact key 0 (by omega) X _ (by rw [zend_0]; exact h) zfr.rf
theorem zprint2_eq {T : ZS9} {a p : Nat} {v : Nat → Int32} (hR : RI T) (hp : T 1153 a = Int32.ofNat p) :
    zup (zup (zup (zup (znb (zup (zup T 416 43 (T 416 43 - 1)) 1165 (7 * a + 1) (T 416 71)) v) (1167 + 0) (nB T) (Int32.ofNat p)) (1167 + 1) (nB T) (T 416 1)) (1167 + 2) (nB T) (T 416 1 + T 1161 a * 365)) (1167 + 3) (nB T) (Int32.ofNat a) = zprint2 T a := by
  have en : nB (zup (zup T 416 43 (T 416 43 - 1)) 1165 (7 * a + 1) (T 416 71)) = nB T := by rw [nB_up (by omega), nB_up (by omega)]
  unfold zprint2
  rw [hp, Int32.mul_comm]
  funext t k
  by_cases h0 : t = 416
  · subst h0
    rw [zup_ne (by omega), zup_ne (by omega), zup_ne (by omega), zup_ne (by omega)]
    by_cases h1 : k = 71
    · rw [h1, znb_c, zup_ne (by omega), zup_ne (by omega), zup_ne (by omega), zup_s]
    · rw [znb_o (by omega) (by omega), zup_ne (by omega)]
      by_cases h2 : k = 43
      · rw [h2, zup_s, zup_s]
      · rw [zup_ne (by omega), zup_ne (by omega), zup_ne (by omega), zup_ne (by omega), zup_ne (by omega), zup_ne (by omega), zup_ne (by omega), zup_ne (by omega)]
  · by_cases h1 : 1167 ≤ t ∧ t ≤ 1170 ∧ k = nB T
    · obtain ⟨h1, h2, rfl⟩ := h1
      obtain ⟨j, rfl⟩ : ∃ j, t = 1167 + j := ⟨t - 1167, by omega⟩
      match j, (show j < 4 by omega) with
      | 0, _ => rw [zup_ne (by omega), zup_ne (by omega), zup_ne (by omega), zup_s, zup_ne (by omega), zup_ne (by omega), zup_ne (by omega), zup_ne (by omega), zup_ne (by omega), zup_ne (by omega), zup_s]
      | 1, _ => rw [zup_ne (by omega), zup_ne (by omega), zup_s, zup_ne (by omega), zup_ne (by omega), zup_ne (by omega), zup_ne (by omega), zup_ne (by omega), zup_s]
      | 2, _ => rw [zup_ne (by omega), zup_s, zup_ne (by omega), zup_ne (by omega), zup_ne (by omega), zup_ne (by omega), zup_s]
      | 3, _ => rw [zup_s, zup_ne (by omega), zup_ne (by omega), zup_ne (by omega), zup_s]
    · rw [zup_ne (by omega), zup_ne (by omega), zup_ne (by omega), zup_ne (by omega), znb_o (by omega) (by omega)]
      rw [zup_ne (t := 416) (k := 43) (by omega), zup_ne (t := 416) (k := 71) (by omega)]
      by_cases h2 : t = 1165 ∧ k = 7 * a + 1
      · obtain ⟨rfl, rfl⟩ := h2
        rw [zup_s, zup_s]
      · rw [zup_ne h2, zup_ne (by omega), zup_ne h2, zup_ne (by omega), zup_ne (by omega), zup_ne (by omega), zup_ne (by omega)]
theorem c_print (h : OF w S r m X) {a : Nat} (ha : a < nA S) (hb : nB S < 150) : zMet E l mX6_print 9 (320 * (max m (nB S + 1) - m)) [.ref (zp (224 + w) 0), .ref (zp (32 + w) a)] X (zVx (fun X' => OF w (zprints S a) r (max m (nB S + 1)) X' ∧ zfr (TW w) X X')) := by
  have hw := h.w2
  have hp := h.pl ha
  -- the way that it takes
  have last : ∀ U G0, OF w U r (max m (nB S + 1)) G0 → zfr (TW w) X G0 → nA U = nA S → ∀ s0, s0 = zway U a → ∀ k, zW E l mX6_print 9 (320 * (max m (nB S + 1) - m)) X (zVx (fun X' => OF w (zprint3 U a) r (max m (nB S + 1)) X' ∧ zfr (TW w) X X')) k 113 [some (.ref (zp (224 + w) 0)), some (.ref (zp (32 + w) a)), none, none] [.int s0] G0 := by
    intro U G0 hU f0 hA s0 hs k
    have ha0 : a < nA U := by omega
    refine wpt_X6_print_113 ?_; unfold wp_X6_print_113
    rw [hU.f6]
    refine ⟨hU.oo, hU.ob ha0, fun G1 e1 => ?_⟩
    have h1 : OF w (zup U 1165 (7 * a + 4) (U 416 1 + s0)) r (max m (nB S + 1)) G1 := by rw [e1]; exact hU.putA (by unfold gk; omega) (by omega)
    have ha1 : a < nA (zup U 1165 (7 * a + 4) (U 416 1 + s0)) := by rw [nA_up (by omega)]; exact ha0
    refine ⟨h1.ob ha1, fun G2 e2 => ?_⟩
    have h2 : OF w (zup (zup U 1165 (7 * a + 4) (U 416 1 + s0)) 1165 (7 * a + 0) 6) r (max m (nB S + 1)) G2 := by rw [e2]; exact h1.putA (by unfold gk; omega) (by omega)
    have f2 : zfr (TW w) X G2 := by rw [e2, e1]; exact frA hw (frA hw f0)
    have ha2 : a < nA (zup (zup U 1165 (7 * a + 4) (U 416 1 + s0)) 1165 (7 * a + 0) 6) := by rw [nA_up (by omega)]; exact ha1
    have c3 := c_arrive (E := E) (l := l) h2 ha2
    rw [zgets_st] at c3
    rw [hs] at *
    unfold zprint3
    refine ⟨fun c => ⟨rfl, ?_, f2⟩, fun c => ⟨h2.oo, cVx c3 (by decide) (Nat.zero_le _) (fun G3 h3 => ⟨rfl, ?_, f2.trans h3.2⟩)⟩⟩
    · rw [if_neg c]; exact h2
    · rw [if_pos (Classical.not_not.mp c)]; exact h3.1
  -- the new booklet's row
  have e26 : ∀ X2, OF w (zup (zprint1 S a) 416 43 (S 416 43 - 1)) r m X2 → zfr (TW w) X X2 → zW E l mX6_print 9 (320 * (max m (nB S + 1) - m)) X (zVx (fun X' => OF w (zprints S a) r (max m (nB S + 1)) X' ∧ zfr (TW w) X X')) (320 * (max m (nB S + 1) - m)) 26 [some (.ref (zp (224 + w) 0)), some (.ref (zp (32 + w) a)), none, none] [] X2 := by
    intro X2 h2 f2
    have hk1 : zdk S (zprint1 S a) := zdk.p1
    have enb : nB (zprint1 S a) = nB S := by unfold nB; rw [nb_p1]
    have hRT : RI (zprint1 S a) := h.ri.nb hk1 nb_p1
    have e53 : zprint1 S a 1153 a = Int32.ofNat (pn S a) := by rw [hk1 1153 a (by unfold zdc; omega), hp.1]
    have e43 : zprint1 S a 416 43 = S 416 43 := by
      unfold zprint1
      split
      · rfl
      · exact zend_no (by omega)
    have enA : nA (zprint1 S a) = nA S := nA_dk hk1
    have epn : pn (zprint1 S a) a = pn S a := by unfold pn; rw [hk1 1153 a (by unfold zdc; omega)]
    have eP : nP (zprint1 S a) = nP S := by unfold nP; rw [hk1 416 34 (by unfold zdc; omega)]
    rw [← e43] at h2
    show zW E l mX6_print 9 _ X (zVx (fun X' => OF w (zprint3 (zprint2 (zprint1 S a) a) a) r _ X' ∧ _)) _ 26 _ _ _
    generalize zprint1 S a = T at *
    have ha2 : a < nA (zup T 416 43 (T 416 43 - 1)) := by rw [nA_up (by omega)]; omega
    refine wpt_X6_print_26 ?_; unfold wp_X6_print_26
    rw [h2.f5, zup_ne (by omega)]
    refine ⟨h2.oo, h2.ob ha2, fun G1 e1 => ?_⟩
    have h3 : OF w (zup (zup T 416 43 (T 416 43 - 1)) 1165 (7 * a + 1) (T 416 71)) r m G1 := by rw [e1]; exact h2.putA (by unfold gk; omega) (by omega)
    have f3 : zfr (TW w) X G1 := by rw [e1]; exact frA hw f2
    have en3 : nB (zup (zup T 416 43 (T 416 43 - 1)) 1165 (7 * a + 1) (T 416 71)) = nB S := by rw [nB_up (by omega), nB_up (by omega), enb]
    have cb := c_newBooklet (E := E) (l := l) h3 (by omega)
    rw [en3] at cb
    have hall : ∀ t k, (t < 1165 ∨ 1170 < t) → ¬ (t = 416 ∧ k = 43) → zup (zup T 416 43 (T 416 43 - 1)) 1165 (7 * a + 1) (T 416 71) t k = T t k := fun t k h1 h2 => by rw [zup_ne (by omega), zup_ne (by omega)]
    have hR3 := h3.ri
    have hq := @zprint2_eq T a (pn S a)
    rw [enb] at hq
    generalize hS3 : zup (zup T 416 43 (T 416 43 - 1)) 1165 (7 * a + 1) (T 416 71) = S3 at *
    refine ⟨h3.oo, cRx cb (by decide) (Nat.le_refl _) (fun q G3 hq3 => ?_)⟩
    obtain ⟨rfl, ⟨v, h4⟩, f4⟩ := hq3
    have hq := hq (v := v) hRT e53
    rw [← en3] at hq h4 ⊢
    have hn4 : nB (znb S3 v) = nB S3 + 1 := znb_nB hR3
    have h4o : ∀ t k, (t < 1165 ∨ 1170 < t) → ¬ (t = 416 ∧ (k = 43 ∨ k = 71)) → znb S3 v t k = T t k := fun t k h1 h2 => by rw [znb_o (by omega) (by omega)]; exact hall t k h1 (by omega)
    have hx : ∀ U, (∀ t k, (t < 1165 ∨ 1170 < t) → U t k = znb S3 v t k) → (nA U = nA S ∧ nB U = nB S3 + 1 ∧ pn U a = pn S a ∧ nP U = nP S) ∧ ∀ t k, (t < 1165 ∨ 1170 < t) → ¬ (t = 416 ∧ (k = 43 ∨ k = 71)) → U t k = T t k := by
      intro U hU
      refine ⟨⟨?_, ?_, ?_, ?_⟩, fun t k h1 h2 => (hU t k h1).trans (h4o t k h1 h2)⟩
      · unfold nA; rw [hU _ _ (by omega), h4o _ _ (by omega) (by omega)]; exact enA
      · rw [← hn4]; unfold nB; rw [hU _ _ (by omega)]
      · unfold pn; rw [hU _ _ (by omega), h4o _ _ (by omega) (by omega)]; exact epn
      · unfold nP; rw [hU _ _ (by omega), h4o _ _ (by omega) (by omega)]; exact eP
    obtain ⟨⟨x1, x2, x3, x4⟩, x5⟩ := hx (znb S3 v) (fun _ _ _ => rfl)
    have hpp : pn S a < nP (znb S3 v) := by rw [x4]; exact hp.2
    have p0 := (h4.cp.2.2.2.2 _ hpp).1.1
    rw [h4.a1 (by omega), x3]
    refine ⟨h4.ob (by omega), h4.cp.ob hpp, h4.bo (by omega), fun G5 e5 => ?_⟩
    rw [p0] at e5
    have h5 : OF w (zup (znb S3 v) (1167 + 0) (nB S3) (Int32.ofNat (pn S a))) r (max m (nB S3 + 1)) G5 := by rw [e5]; exact h4.putB (k := 0) (by decide)
    obtain ⟨⟨y1, y2, y3, y4⟩, y5⟩ := hx (zup (znb S3 v) (1167 + 0) (nB S3) (Int32.ofNat (pn S a))) (fun t k h1 => zup_ne (by omega))
    rw [h5.f6, y5 416 1 (by omega) (by omega)]
    refine ⟨h5.oo, h5.bo (by omega), fun G6 e6 => ?_⟩
    have h6 : OF w (zup (zup (znb S3 v) (1167 + 0) (nB S3) (Int32.ofNat (pn S a))) (1167 + 1) (nB S3) (T 416 1)) r (max m (nB S3 + 1)) G6 := by rw [e6]; exact h5.putB (k := 1) (by decide)
    obtain ⟨⟨z1, z2, z3, z4⟩, z5⟩ := hx (zup (zup (znb S3 v) (1167 + 0) (nB S3) (Int32.ofNat (pn S a))) (1167 + 1) (nB S3) (T 416 1)) (fun t k h1 => by rw [zup_ne (by omega), zup_ne (by omega)])
    have cy := c_years (E := E) (l := l) h6.so (a := a) (by omega)
    rw [z5 1161 a (by omega) (by omega)] at cy
    refine ⟨h6.oo, h6.ob (by omega), h6.vo (by omega), cI cy (by decide) ⟨h6.bo (by omega), fun G7 e7 => ?_⟩⟩
    rw [h6.f6, z5 416 1 (by omega) (by omega)] at e7
    have h7 : OF w (zup (zup (zup (znb S3 v) (1167 + 0) (nB S3) (Int32.ofNat (pn S a))) (1167 + 1) (nB S3) (T 416 1)) (1167 + 2) (nB S3) (T 416 1 + T 1161 a * 365)) r (max m (nB S3 + 1)) G7 := by rw [e7]; exact h6.putB (k := 2) (by decide)
    obtain ⟨⟨u1, u2, u3, u4⟩, u5⟩ := hx (zup (zup (zup (znb S3 v) (1167 + 0) (nB S3) (Int32.ofNat (pn S a))) (1167 + 1) (nB S3) (T 416 1)) (1167 + 2) (nB S3) (T 416 1 + T 1161 a * 365)) (fun t k h1 => by rw [zup_ne (by omega), zup_ne (by omega), zup_ne (by omega)])
    rw [h7.a0 (by omega)]
    refine ⟨h7.ob (by omega), h7.bo (by omega), fun G8 e8 => ?_⟩
    have h8 : OF w (zprint2 T a) r (max m (nB S3 + 1)) G8 := by
      rw [← hq, e8]; exact h7.putB (k := 3) (by decide)
    obtain ⟨⟨t1, t2, t3, t4⟩, t5⟩ := hx (zprint2 T a) (fun t k h1 => by rw [← hq, zup_ne (by omega), zup_ne (by omega), zup_ne (by omega), zup_ne (by omega)])
    have f8 : zfr (TW w) X G8 := by rw [e8, e7, e6, e5]; exact frB hw (frB hw (frB hw (frB hw (f3.trans f4))))
    have hpp8 : pn S a < nP (zprint2 T a) := by rw [t4]; exact hp.2
    have p2 := (h8.cp.2.2.2.2 _ hpp8).1.2.2
    obtain ⟨r0, -, -, -, r3, r4, -, -⟩ := h8.cr
    have ew : zway (zprint2 T a) a = if zprint2 T a 2130 (pn S a) = 0 then zprint2 T a 416 40 else zprint2 T a 416 41 := by unfold zway; rw [t3]
    rw [h8.a1 (by omega), t3, p2, h8.r2, r3, r4]
    rw [en3] at h8 ⊢
    refine ⟨h8.ob (by omega), h8.cp.ob hpp8, fun c => ⟨h8.oo, r0, last _ G8 h8 f8 t1 _ ?_ _⟩, fun c => ⟨h8.oo, r0, last _ G8 h8 f8 t1 _ ?_ _⟩⟩
    · rw [ew, if_pos c]
    · rw [ew, if_neg c]
  refine z_meth (by decide) (Nat.le_of_ble_eq_true rfl) (by simp [Value.category]) (wpt_X6_print_0 ?_); unfold wp_X6_print_0
  rw [h.f8]
  refine ⟨h.oo, h.oo, fun G1 e1 => ?_⟩
  have h1 : OF w (zup S 416 43 (S 416 43 - 1)) r m G1 := by rw [e1]; exact h.putO (by unfold ok9; omega) (by omega) (by omega)
  have f1 : zfr (TW w) X G1 := by rw [e1]; exact frO hw zfr.rf
  have ha1 : a < nA (zup S 416 43 (S 416 43 - 1)) := by rw [nA_up (by omega)]; exact ha
  have ep1 : pn (zup S 416 43 (S 416 43 - 1)) a = pn S a := by unfold pn; rw [zup_ne (by omega)]
  have eP1 : nP (zup S 416 43 (S 416 43 - 1)) = nP S := by unfold nP; rw [zup_ne (by omega)]
  have e1b : nB (zup S 416 43 (S 416 43 - 1)) = nB S := nB_up (by omega)
  have ez := @zprint1_43 S a (S 416 43 - 1)
  rw [h1.a2 ha1, h1.a1 ha1, ep1, zup_ne (by omega)]
  refine ⟨h1.ob ha1, fun c => e26 G1 ?_ f1, fun c => ⟨h1.ob ha1, h1.oo, cVx (c_endValid h1 (by omega)) (by decide) (Nat.zero_le _) (fun G2 h2 => e26 G2 ?_ (f1.trans h2.2))⟩⟩
  · rw [← ez]; unfold zprint1; rw [zup_ne (a := 1154) (by omega), if_pos c]; exact h1
  · rw [← ez]; unfold zprint1; rw [zup_ne (a := 1154) (by omega), if_neg c, ep1]; exact h2.1
end ZCf
