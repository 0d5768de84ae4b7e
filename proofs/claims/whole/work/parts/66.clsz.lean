/-! public methods: feed -/
theorem byt_bv (v : BitVec 32) (s : Nat) (hs : s ≤ 24) : (v >>> s) &&& 255#32 = ((v.sshiftRight s).signExtend 8).signExtend 32 &&& 255#32 := by
  have h255 : ∀ i, i < 32 → (255#32).getLsbD i = decide (i < 8) := by decide
  refine BitVec.eq_of_getLsbD_eq (fun i hi => ?_)
  rw [BitVec.getLsbD_and, BitVec.getLsbD_and, h255 i hi]
  by_cases e : i < 8
  · rw [BitVec.getLsbD_ushiftRight, BitVec.getLsbD_signExtend, BitVec.getLsbD_signExtend, BitVec.getLsbD_sshiftRight]
    simp only [e, hi, show s + i < 32 by omega, show ¬ 32 ≤ i by omega, decide_true, decide_false, Bool.true_and, Bool.and_true, if_true, Bool.not_false]
  · simp [e]
/-- the i-th byte of a number, as the class cuts it out -/
def cby (x : Int32) (i : Nat) : Int32 := ((x.toUInt32 >>> (((24 : Int32) - 8 * Int32.ofNat i).toUInt32 &&& Int32.toUInt32 31)).toInt32) &&& 255
theorem cby_eq (x : Int32) {i : Nat} (hi : i < 4) : cby x i = (x >>> ((24 - (8 * Int32.ofNat i)) &&& 31)).toInt8.toInt32 &&& 255 := by
  rw [← Int32.toBitVec_inj]
  match i, hi with
  | 0, _ => exact byt_bv x.toBitVec 24 (by omega)
  | 1, _ => exact byt_bv x.toBitVec 16 (by omega)
  | 2, _ => exact byt_bv x.toBitVec 8 (by omega)
  | 3, _ => exact byt_bv x.toBitVec 0 (by omega)
theorem sx_of (y : Int32) : ∃ m, m < 256 ∧ y.toInt8.toInt32 = sx m := by
  refine ⟨y.toBitVec.toNat % 256, Nat.mod_lt _ (by omega), ?_⟩
  unfold sx
  congr 1
  rw [← Int8.toBitVec_inj, Int32.toBitVec_toInt8, Int32.toBitVec_toInt8, Int32.toBitVec_ofNat', BitVec.signExtend_eq_setWidth_of_le _ (by omega), BitVec.signExtend_eq_setWidth_of_le _ (by omega)]
  refine BitVec.eq_of_toNat_eq ?_
  rw [BitVec.toNat_setWidth, BitVec.toNat_setWidth, BitVec.toNat_ofNat]
  omega
section ZCz
variable {E : ZE} {l : Launch} {K : ZG} {w m n1 m1 : Nat} {S S' : ZS9} {r : Int32} {X X' : ZG}
/-- the tape, t bytes long -/
def TQ (X : ZG) (t : Nat) : Prop := zob X (zp 384 0) 12 ∧ zrv X (zp 384 0) 0 = zp 1034 0 ∧ zar X (zp 1034 0) 0 ∧ zln X (zp 1034 0) = 400 ∧ ziv X (zp 384 0) 1 = Int32.ofNat t
/-- i bytes of x have been put behind t -/
def TPw (X X' : ZG) (t i : Nat) (x : Int32) : Prop := zcn X' = zcn X ∧ zln X' = zln X ∧ zrv X' = zrv X ∧ ziv X' (zp 384 0) 1 = Int32.ofNat (t + i) ∧ (∀ k, k ≠ 1 → ziv X' (zp 384 0) k = ziv X (zp 384 0) k) ∧ (∀ j, ziv X' (zp 1034 0) j = if t ≤ j ∧ j < t + i then cby x (j - t) else ziv X (zp 1034 0) j) ∧ ∀ q, q ≠ zp 384 0 → q ≠ zp 1034 0 → ziv X' q = ziv X q
theorem TQ.go {t i : Nat} {x : Int32} (h : TQ X t) (hp : TPw X X' t i x) : TQ X' (t + i) := by
  obtain ⟨h1, h2, h3, h4, h5⟩ := h
  obtain ⟨p1, p2, p3, p4, p5, p6, p7⟩ := hp
  refine ⟨⟨?_, h1.2⟩, ?_, ⟨?_, h3.2⟩, ?_, p4⟩
  · unfold zal; rw [p1]; exact h1.1
  · rw [p3]; exact h2
  · unfold zal; rw [p1]; exact h3.1
  · rw [p2]; exact h4
theorem c_putBytes {t : Nat} (h : TQ X t) (ht : t + 4 ≤ 400) (x : Int32) : zMet E l mX11_putBytes 0 0 [.ref (zp 384 0), .int x] X (zVx (fun X' => TPw X X' t 4 x)) := by
  have hne : zp 384 0 ≠ zp 1034 0 := zp_ne (by omega) (by omega) (by omega)
  refine z_meth (by decide) (Nat.le_of_ble_eq_true rfl) (by simp [Value.category]) (wpt_X11_putBytes_0 ?_); unfold wp_X11_putBytes_0
  have key : ∀ i, i ≤ 4 → ∀ X1 k, TPw X X1 t i x → zW E l mX11_putBytes 0 0 X (zVx (fun X' => TPw X X' t 4 x)) k 3 [some (.ref (zp 384 0)), some (.int x), some (.int ((24 : Int32) - 8 * Int32.ofNat i))] [] X1 := by
    refine zdown (fun X1 k hp => ?_) (fun i hi ih X1 k hp => ?_)
    · refine wpt_X11_putBytes_3 ?_; unfold wp_X11_putBytes_3
      exact it (by decide) ⟨rfl, hp⟩
    · obtain ⟨q1, q2, q3, q4, q5⟩ := h.go hp
      have hd : ∀ i, i < 4 → ¬ ((24 : Int32) - 8 * Int32.ofNat i) < 0 ∧ ((24 : Int32) - 8 * Int32.ofNat i) + (-8) = (24 : Int32) - 8 * Int32.ofNat (i + 1) := by decide
      obtain ⟨d1, d2⟩ := hd i hi
      refine wpt_X11_putBytes_3 ?_; unfold wp_X11_putBytes_3
      rw [q5, q2, q4, d2, n_nn (by omega)]
      refine ie d1 ⟨q1, ie (by rw [show (400 : Int32) = Int32.ofNat 400 from rfl, n_le (by omega) (by omega)]; omega) ⟨q1, q1, q3, n_in (by omega) (by omega), fun G1 e1 => ?_⟩⟩
      refine ⟨by rw [e1]; exact q1, by rw [e1]; exact q1, fun G2 e2 => ih G2 _ ?_⟩
      obtain ⟨p1, p2, p3, p4, p5, p6, p7⟩ := hp
      have v1 : ziv G1 (zp 384 0) 1 = Int32.ofNat (t + i) := by rw [e1, iv_n hne]; exact p4
      rw [v1, n_p1] at e2
      refine ⟨by rw [e2, e1]; exact p1, by rw [e2, e1]; exact p2, by rw [e2, e1]; exact p3, ?_, fun k hk => ?_, fun j => ?_, fun q h1 h2 => ?_⟩
      · rw [e2, iv_s]; rfl
      · rw [e2, iv_k hk, e1, iv_n hne]; exact p5 k hk
      · rw [e2, iv_n (Ne.symm hne), e1, ziv_si, p6]
        by_cases c : j = t + i
        · rw [if_pos ⟨rfl, c⟩, if_pos (by omega), c, show t + i - t = i by omega]; rfl
        · rw [if_neg (fun z => c z.2)]
          by_cases c2 : t ≤ j ∧ j < t + i
          · rw [if_pos c2, if_pos (by omega)]
          · rw [if_neg c2, if_neg (by omega)]
      · rw [← p7 q h1 h2, e2, e1]
        funext j
        rw [iv_n h1, iv_n h2]
  refine key 0 (by omega) X _ ⟨rfl, rfl, rfl, h.2.2.2.2, fun _ _ => rfl, fun j => ?_, fun _ _ _ => rfl⟩
  rw [if_neg (by omega)]
theorem p_feed (h : PO K S m n1 m1 X) (a b c d e : Int32) : zMet E l mX11_feed 1 0 [.ref (zp 384 0), .int a, .int b, .int c, .int d, .int e] X (cO cy (fun _ => xIO) (fFeed S a b c d e) (fun S' G' => PO K S' m n1 m1 G')) := by
  obtain ⟨⟨t1, t2⟩, t3⟩ := h.si.1.1
  obtain ⟨a1, a2, a3, a4, a5⟩ := h.2.1
  have q0 : TQ X (nTp S) := ⟨h.o.1, h.o.2.1, a1, a2, by rw [a3, t1]⟩
  have e20 : S 416 3 + 20 = Int32.ofNat (nTp S + 20) := by rw [t1, show (20 : Int32) = Int32.ofNat 20 from rfl, n_add]
  refine z_meth (by decide) (Nat.le_of_ble_eq_true rfl) (by simp [Value.category]) (wpt_X11_feed_0 ?_); unfold wp_X11_feed_0
  rw [a3]
  unfold fFeed
  refine ⟨h.o.1, fun hc => ⟨h.o.1, ?_⟩, fun hc => ?_⟩
  · rw [f3t hc]
    rw [e20, show (400 : Int32) = Int32.ofNat 400 from rfl, n_le (by omega) (by omega)] at hc
    refine cVx (c_putBytes q0 (by omega) a) (by decide) (Nat.zero_le _) (fun G1 g1 => ?_)
    have q1 := q0.go g1
    refine ⟨q1.1, cVx (c_putBytes q1 (by omega) b) (by decide) (Nat.zero_le _) (fun G2 g2 => ?_)⟩
    have q2 := q1.go g2
    refine ⟨q2.1, cVx (c_putBytes q2 (by omega) c) (by decide) (Nat.zero_le _) (fun G3 g3 => ?_)⟩
    have q3 := q2.go g3
    refine ⟨q3.1, cVx (c_putBytes q3 (by omega) d) (by decide) (Nat.zero_le _) (fun G4 g4 => ?_)⟩
    have q4 := q3.go g4
    refine ⟨q4.1, cVx (c_putBytes q4 (by omega) e) (by decide) (Nat.zero_le _) (fun G5 g5 => ?_)⟩
    have q5 := q4.go g5
    refine ⟨q5.1, ?_⟩
    have el : nTp S + 4 + 4 + 4 + 4 + 4 = nTp S + 20 := by omega
    rw [el] at q5
    rw [q5.2.2.2.2, e20]
    refine cO_ok rfl ?_
    obtain ⟨g11, g12, g13, g14, g15, g16, g17⟩ := g1
    obtain ⟨g21, g22, g23, g24, g25, g26, g27⟩ := g2
    obtain ⟨g31, g32, g33, g34, g35, g36, g37⟩ := g3
    obtain ⟨g41, g42, g43, g44, g45, g46, g47⟩ := g4
    obtain ⟨g51, g52, g53, g54, g55, g56, g57⟩ := g5
    have eT : nTp (zup (zfeed S (z5 a b c d e) 20) 416 3 (Int32.ofNat (nTp S + 20))) = nTp S + 20 := by
      show (zup (zfeed S (z5 a b c d e) 20) 416 3 (Int32.ofNat (nTp S + 20)) 416 3).toNatClampNeg = _
      rw [zup_s, n_nn (by omega)]
    have s16 : ∀ j, zup (zfeed S (z5 a b c d e) 20) 416 3 (Int32.ofNat (nTp S + 20)) 1602 j = if nTp S ≤ j ∧ j < nTp S + 20 then zbyte S (z5 a b c d e) (j - nTp S) else S 1602 j := fun j => by
      rw [zup_ne (by omega)]
      unfold zfeed
      by_cases hj : nTp S ≤ j ∧ j < nTp S + 20
      · rw [if_pos ⟨rfl, hj⟩, if_pos hj]
      · rw [if_neg (fun z => hj z.2), if_neg hj]
    have rvs : zrv G5 = zrv X := by rw [g53, g43, g33, g23, g13]
    have lns : zln G5 = zln X := by rw [g52, g42, g32, g22, g12]
    have cns : zcn G5 = zcn X := by rw [g51, g41, g31, g21, g11]
    have ivs : ∀ q, q ≠ zp 384 0 → q ≠ zp 1034 0 → ziv G5 q = ziv X q := fun q h1 h2 => by rw [g57 q h1 h2, g47 q h1 h2, g37 q h1 h2, g27 q h1 h2, g17 q h1 h2]
    refine h.tp ⟨fun t => by rw [cns]; exact Nat.le_refl _, fun t _ => by rw [cns], fun q hq => ⟨by rw [lns], ivs q (fun z => hq (by rw [z, zp_mod (by omega)]; simp)) (fun z => hq (by rw [z, zp_mod (by omega)]; simp)), by rw [rvs]⟩⟩ (by rw [rvs]) (fun t k hk => ?_) ⟨q5.2.2.1, q5.2.2.2.1, by rw [q5.2.2.2.2, zup_s], fun j hj => ?_, ?_⟩ ⟨by rw [eT, zup_s]; exact ⟨rfl, by omega⟩, fun j hj => ?_⟩
    · rw [zup_ne (by unfold tk at hk; omega)]
      unfold zfeed
      rw [if_neg (by unfold tk at hk; omega)]
    · rw [eT] at hj
      rw [s16, g56, g46, g36, g26, g16]
      by_cases c0 : j < nTp S
      · rw [if_neg (by omega), if_neg (by omega), if_neg (by omega), if_neg (by omega), if_neg (by omega), if_neg (by omega)]
        exact a4 j c0
      · have fin : ∀ x i, z5 a b c d e ((j - nTp S) / 4) = x → (j - nTp S) % 4 = i → cby x i = zbyte S (z5 a b c d e) (j - nTp S) &&& 255 := fun x i h1 h2 => by
          rw [cby_eq x (by omega)]
          unfold zbyte
          rw [h1, h2]
        rw [if_pos (show nTp S ≤ j ∧ j < nTp S + 20 by omega)]
        by_cases c1 : j < nTp S + 4
        · rw [if_neg (by omega), if_neg (by omega), if_neg (by omega), if_neg (by omega), if_pos (by omega)]
          exact fin _ _ (by rw [show (j - nTp S) / 4 = 0 by omega]; rfl) (by omega)
        · by_cases c2 : j < nTp S + 8
          · rw [if_neg (by omega), if_neg (by omega), if_neg (by omega), if_pos (by omega)]
            exact fin _ _ (by rw [show (j - nTp S) / 4 = 1 by omega]; rfl) (by omega)
          · by_cases c3 : j < nTp S + 12
            · rw [if_neg (by omega), if_neg (by omega), if_pos (by omega)]
              exact fin _ _ (by rw [show (j - nTp S) / 4 = 2 by omega]; rfl) (by omega)
            · by_cases c4 : j < nTp S + 16
              · rw [if_neg (by omega), if_pos (by omega)]
                exact fin _ _ (by rw [show (j - nTp S) / 4 = 3 by omega]; rfl) (by omega)
              · rw [if_pos (by omega)]
                exact fin _ _ (by rw [show (j - nTp S) / 4 = 4 by omega]; rfl) (by omega)
    · rw [g55 _ (by omega), g45 _ (by omega), g35 _ (by omega), g25 _ (by omega), g15 _ (by omega), zup_ne (by omega), a5]
      unfold zfeed
      rw [if_neg (by omega)]
    · rw [eT] at hj
      rw [s16]
      by_cases c0 : j < nTp S
      · rw [if_neg (by omega)]; exact t3 j c0
      · rw [if_pos (by omega)]; exact sx_of _
  · rw [f3f hc]; exact cO_ok rfl h
end ZCz
