/-! the office that tries is made like the true one: booklets, numbers -/
section ZCk
variable {w m : Nat} {S : ZS9} {r : Int32} {X : ZG} {E : ZE} {l : Launch}
def TT : List Nat := [225, 33, 65, 7, 3079, 6, 3078]
theorem TTn {t : Nat} (h : t ≠ 225 ∧ t ≠ 33 ∧ t ≠ 65 ∧ t ≠ 7 ∧ t ≠ 3079 ∧ t ≠ 6 ∧ t ≠ 3078) : t ∉ TT := by unfold TT; simp; omega
theorem OF.tt {X' : ZG} (h : OF 0 S r m X) (hf : zfr TT X X') : OF 0 S r m X' := h.fr hf (fun t ht => by unfold OT at ht; simp at ht; exact TTn (by omega))
theorem c_copyBooklets (h : OF 0 S r m X) (ht : TRo X) {m1 : Nat} (hl : zAL X 7 m1 (zp 65) ∧ zcn X 65 = m1 ∧ m1 ≤ 150) : zMet E l mX6_copyBooklets 9 (320 * (max m1 (nB S) - m1)) [.ref (zp 225 0), .ref (zp 224 0)] X (zVx (fun X' => BO 1 (nB S) (max m1 (nB S)) X' ∧ (∀ b, b < nB S → ∀ k, k < 4 → ziv X' (zp 65 b) k = S (1167 + k) b) ∧ zfr [225, 65, 7, 3079] X X' ∧ (∀ k, k ≠ 5 → ziv X' (zp 225 0) k = ziv X (zp 225 0) k) ∧ zrv X' (zp 225 0) = zrv X (zp 225 0))) := by
  have hB := h.ri.2.2.1
  generalize hQ : (zVx (fun X' => BO 1 (nB S) (max m1 (nB S)) X' ∧ (∀ b, b < nB S → ∀ k, k < 4 → ziv X' (zp 65 b) k = S (1167 + k) b) ∧ zfr [225, 65, 7, 3079] X X' ∧ (∀ k, k ≠ 5 → ziv X' (zp 225 0) k = ziv X (zp 225 0) k) ∧ zrv X' (zp 225 0) = zrv X (zp 225 0))) = Q
  generalize hBd : 320 * (max m1 (nB S) - m1) = B
  have sub : ∀ t, t ∈ [225, 65, 7, 3079] → t ∈ TT := by intro t ht; unfold TT; simp at ht ⊢; omega
  have key : ∀ i, i ≤ nB S → ∀ X1 k, BO 1 i (max m1 i) X1 → (∀ b, b < i → ∀ k, k < 4 → ziv X1 (zp 65 b) k = S (1167 + k) b) → zfr [225, 65, 7, 3079] X X1 → (∀ k, k ≠ 5 → ziv X1 (zp 225 0) k = ziv X (zp 225 0) k) → zrv X1 (zp 225 0) = zrv X (zp 225 0) → 320 * (max m1 (nB S) - max m1 i) ≤ k → zW E l mX6_copyBooklets 9 B X Q k 7 [some (.ref (zp 225 0)), some (.ref (zp 224 0)), some (.int (Int32.ofNat i))] [] X1 := by
    refine zdown (fun X1 k hO hv f1 hk5 hr5 hk => ?_) (fun i hi ih X1 k hO hv f1 hk5 hr5 hk => ?_)
    · have h1 := h.tt (f1.mono sub)
      refine wpt_X6_copyBooklets_7 ?_; unfold wp_X6_copyBooklets_7
      rw [show ziv X1 (zp 224 0) 5 = S 416 71 from h1.f5, hB.1]
      refine ⟨h1.oo, it (by rw [n_le (by omega) (by omega)]; omega) ?_⟩
      rw [← hQ]
      exact ⟨rfl, hO, hv, f1, hk5, hr5⟩
    · have h1 := h.tt (f1.mono sub)
      have hl0 := h1.so.2.2.1
      have hm0 := h1.mB
      refine wpt_X6_copyBooklets_7 ?_; unfold wp_X6_copyBooklets_7
      rw [show ziv X1 (zp 224 0) 5 = S 416 71 from h1.f5, hB.1, show zrv X1 (zp 224 0) 4 = zp 5 0 from h1.r4, n_p1]
      refine ⟨h1.oo, ie (by rw [n_le (by omega) (by omega)]; omega) ⟨h1.oo, zobL hl0 (by omega), csize hl0 (by omega) (by decide) (ie (by rw [n_le (by omega) (by omega)]; omega) ⟨hO.1, cRx (c_newRow (w := 1) hO (by decide) (by omega)) (by decide) (by omega) (fun q G5 h5 => ?_)⟩)⟩⟩
      obtain ⟨rfl, g1, g2, g3, g4, g5⟩ := h5
      have f5 : zfr [225, 65, 7, 3079] X G5 := f1.trans g2
      have h6 := h.tt (f5.mono sub)
      have hl6 := h6.so.2.2.1
      have oi : zob G5 (zp 64 i) 2 := h6.bo hi
      have o65 : zob G5 (zp 65 i) 2 := zob_zp (by omega) (by omega) (by rw [g1.2.2.2.2.1]; omega)
      rw [show zrv G5 (zp 224 0) 4 = zp 5 0 from h6.r4]
      refine ⟨h6.oo, zobL hl6 (by omega), cget hl6 (by omega) (by omega) (by omega) (by decide) ⟨oi, o65, cVx (c_copyB o65 oi (zp_ne (by omega) (by omega) (by omega))) (by decide) (Nat.zero_le _) (fun G7 h7 => ?_)⟩⟩
      obtain ⟨i7, r7, v7⟩ := h7
      have f7 : zfr [65] G5 G7 := zfr_of (t := 65) (i := i) (by omega) (by simp) i7.1 i7.2.1 i7.2.2
      have n1f : ∀ t, t ≠ 65 → t ∉ [65] := fun t h => by simp [h]
      have e5 : max (max m1 i) (i + 1) = max m1 (i + 1) := by omega
      rw [e5] at g1
      obtain ⟨b1, b2, b3, b4, b5, b6⟩ := g1
      refine ih G7 _ ⟨f7.ob b1, by rw [f7.rv (by omega) (n1f _ (by omega))]; exact b2, by rw [f7.iv (by omega) (n1f _ (by omega))]; exact b3, b4.fr f7 (by omega) (n1f _ (by omega)) (n1f _ (by omega)) (n1f _ (by omega)), by rw [i7.1]; exact b5, b6⟩ (fun b hb k hk => ?_) (f5.trans (f7.mono (by simp))) (fun k hk => ?_) ?_ (by omega)
      · by_cases e : b = i
        · rw [e, v7 k hk, h6.so.fb hi hk]
        · rw [(i7.2.2 _ (zp_ni (by omega) e)).1, g5 b (by omega)]; exact hv b (by omega) k hk
      · rw [f7.iv (by omega) (n1f _ (by omega)), ← hk5 k hk]; exact g3 k hk
      · rw [f7.rv (by omega) (n1f _ (by omega)), ← hr5]; exact g4
  obtain ⟨t1, t2, t3, t4, t5, t6⟩ := ht
  obtain ⟨l1, l2, l3⟩ := hl
  have hf : zfr [225] X (zsi X (zp 225 0) 5 0) := zfr.si (by rw [zp_mod (by omega)]; simp)
  have no : ∀ t, t ≠ 225 → t ∉ [225] := fun t h => by simp [h]
  refine z_meth (by decide) (Nat.le_of_ble_eq_true rfl) (by simp [Value.category]) (wpt_X6_copyBooklets_0 ?_); unfold wp_X6_copyBooklets_0
  refine ⟨t1, fun G1 e1 => ?_⟩
  rw [e1]
  refine key 0 (by omega) _ _ ⟨t1, t6, iv_s, ?_, by rw [show max m1 0 = m1 by omega]; exact l2, by omega, by omega⟩ (fun b hb => absurd hb (by omega)) (hf.mono (by simp)) (fun k hk => iv_k hk) rfl (by omega)
  rw [show max m1 0 = m1 by omega]
  exact l1.fr hf (by omega) (no _ (by omega)) (no _ (by omega)) (no _ (by omega))
theorem c_copyFrom (h : OF 0 S r m X) (hb : ∀ a, S 1165 (7 * a + 6) = 0 ∨ S 1165 (7 * a + 6) = 1) {n1 m1 : Nat} (ht : TR S n1 m1 X) : zMet E l mX6_copyFrom 10 (300 * (nA S - n1) + 320 * (max m1 (nB S) - m1)) [.ref (zp 225 0), .ref (zp 224 0)] X (zVx (fun X' => OF 1 S r (max m1 (nB S)) X' ∧ OF 0 S r m X' ∧ zfr TT X X')) := by
  obtain ⟨tO, tA, tB⟩ := ht
  have hB := h.ri.2.2.1
  refine z_meth (by decide) (Nat.le_of_ble_eq_true rfl) (by simp [Value.category]) (wpt_X6_copyFrom_0 ?_); unfold wp_X6_copyFrom_0
  refine ⟨tO.1, cVx (c_copyAskings h hb tO tA) (by decide) (by omega) (fun G1 h1 => ?_)⟩
  obtain ⟨a1, a2, a3⟩ := h1
  have a3T : zfr TT X G1 := a3.mono (by intro t ht; unfold TT; simp at ht ⊢; omega)
  have n3 : ∀ t, t ≠ 33 → t ≠ 6 → t ≠ 3078 → t ∉ [33, 6, 3078] := fun t h1 h2 h3 => by simp [h1, h2, h3]
  have tO1 : TRo G1 := by
    obtain ⟨t1, t2⟩ := tO
    refine ⟨a3.ob t1, ?_⟩
    rw [a3.rv (by omega) (n3 _ (by omega) (by omega) (by omega))]; exact t2
  have tB1 : zAL G1 7 m1 (zp 65) ∧ zcn G1 65 = m1 ∧ m1 ≤ 150 := ⟨tB.1.fr a3 (by omega) (n3 _ (by omega) (by omega) (by omega)) (n3 _ (by omega) (by omega) (by omega)) (n3 _ (by omega) (by omega) (by omega)), by rw [a3.2.1 _ (n3 _ (by omega) (by omega) (by omega))]; exact tB.2.1, tB.2.2⟩
  have hO1 := h.tt a3T
  refine ⟨tO1.1, cVx (c_copyBooklets hO1 tO1 tB1) (by decide) (by omega) (fun G3 h3 => ?_)⟩
  obtain ⟨b1, b2, b3, b4, b5⟩ := h3
  have b3T : zfr TT X G3 := a3T.trans (b3.mono (by intro t ht; unfold TT; simp at ht ⊢; omega))
  have hO3 := h.tt b3T
  have n4 : ∀ t, t ≠ 225 → t ≠ 65 → t ≠ 7 → t ≠ 3079 → t ∉ [225, 65, 7, 3079] := fun t h1 h2 h3 h4 => by simp [h1, h2, h3, h4]
  have hne : zp 224 0 ≠ zp 225 0 := zp_ne (by omega) (by omega) (by omega)
  have o0 : ∀ {G}, zIn G3 G (zp 225 0) → zob G (zp 224 0) 7 := fun h => ⟨by unfold zal; rw [h.1]; exact hO3.oo.1, hO3.oo.2⟩
  have va : ∀ {G}, zIn G3 G (zp 225 0) → ziv G (zp 224 0) = ziv G3 (zp 224 0) := fun h => (h.2.2 _ hne).1
  have i0 : zIn G3 G3 (zp 225 0) := zIn.rf
  have r0 : zrv G3 = zrv G3 := rfl
  refine ⟨o0 i0, i0.ob b1.1, fun Y1 e1 => ?_⟩
  rw [va i0] at e1
  have i1 : zIn G3 Y1 (zp 225 0) := by rw [e1]; exact i0.si
  have r1 : zrv Y1 = zrv G3 := by rw [e1, zrv_si, r0]
  refine ⟨o0 i1, i1.ob b1.1, fun Y2 e2 => ?_⟩
  rw [va i1] at e2
  have i2 : zIn G3 Y2 (zp 225 0) := by rw [e2]; exact i1.si
  have r2 : zrv Y2 = zrv G3 := by rw [e2, zrv_si, r1]
  refine ⟨o0 i2, i2.ob b1.1, fun Y3 e3 => ?_⟩
  rw [va i2] at e3
  have i3 : zIn G3 Y3 (zp 225 0) := by rw [e3]; exact i2.si
  have r3 : zrv Y3 = zrv G3 := by rw [e3, zrv_si, r2]
  refine ⟨o0 i3, i3.ob b1.1, fun Y4 e4 => ?_⟩
  rw [va i3] at e4
  have i4 : zIn G3 Y4 (zp 225 0) := by rw [e4]; exact i3.si
  have r4 : zrv Y4 = zrv G3 := by rw [e4, zrv_si, r3]
  refine ⟨o0 i4, i4.ob b1.1, fun Y5 e5 => ?_⟩
  rw [va i4] at e5
  have i5 : zIn G3 Y5 (zp 225 0) := by rw [e5]; exact i4.si
  have r5 : zrv Y5 = zrv G3 := by rw [e5, zrv_si, r4]
  refine ⟨o0 i5, i5.ob b1.1, fun Y6 e6 => ?_⟩
  rw [va i5] at e6
  have i6 : zIn G3 Y6 (zp 225 0) := by rw [e6]; exact i5.si
  have r6 : zrv Y6 = zrv G3 := by rw [e6, zrv_si, r5]
  refine ⟨o0 i6, i6.ob b1.1, fun Y7 e7 => ?_⟩
  rw [va i6] at e7
  have i7 : zIn G3 Y7 (zp 225 0) := by rw [e7]; exact i6.si
  have r7 : zrv Y7 = zrv G3 := by rw [e7, zrv_si, r6]
  refine ⟨o0 i7, i7.ob b1.1, fun Y8 e8 => ?_⟩
  rw [va i7] at e8
  have i8 : zIn G3 Y8 (zp 225 0) := by rw [e8]; exact i7.si
  have r8 : zrv Y8 = zrv G3 := by rw [e8, zrv_si, r7]
  have v8 : ∀ k, 5 ≤ k → k < 14 → ziv Y8 (zp 225 0) k = oFld S r k := by
    intro k h1 h2
    rw [e8, ziv_si, e7, ziv_si, e6, ziv_si, e5, ziv_si, e4, ziv_si, e3, ziv_si, e2, ziv_si, e1, ziv_si]
    simp only [true_and]
    have fo : ∀ k, 5 ≤ k → k < 14 → ziv G3 (zp 224 0) k = oFld S r k := fun k h1 h2 => hO3.so.fo ⟨h1, h2⟩
    match k, h1, h2 with
    | 5, _, _ => show ziv G3 (zp 225 0) 5 = S 416 71; rw [hB.1]; exact b1.2.2.1
    | 6, _, _ => exact fo 6 (by decide) (by decide)
    | 7, _, _ => exact fo 7 (by decide) (by decide)
    | 8, _, _ => exact fo 8 (by decide) (by decide)
    | 9, _, _ => exact fo 9 (by decide) (by decide)
    | 10, _, _ => exact fo 10 (by decide) (by decide)
    | 11, _, _ => exact fo 11 (by decide) (by decide)
    | 12, _, _ => exact fo 12 (by decide) (by decide)
    | 13, _, _ => exact fo 13 (by decide) (by decide)
  have fY : zfr [225] G3 Y8 := zfr_of (t := 225) (i := 0) (by omega) (by simp) i8.1 i8.2.1 i8.2.2
  have no : ∀ t, t ≠ 225 → t ∉ [225] := fun t h => by simp [h]
  have fT : zfr TT X Y8 := b3T.trans (fY.mono (by unfold TT; simp))
  have hO8 := h.tt fT
  have fb8 : zfr [225, 65, 7, 3079] G1 Y8 := b3.trans (fY.mono (by simp))
  refine ⟨rfl, ⟨by decide, hO8.ri, hO8.rj, hO8.cp, hO8.cd, hO8.cr, hO8.cs, ⟨i8.ob b1.1, ?_, ?_, ?_, ?_, ?_, v8⟩, ⟨?_, ?_, fun a ha => ?_⟩, ⟨?_, ?_, by omega, b1.2.2.2.2.2.2, fun b hb2 k hk => ?_⟩⟩, hO8, fT⟩
  · rw [r8, b5]; exact tO1.2.1
  · rw [r8, b5]; exact tO1.2.2.1
  · rw [r8, b5]; exact tO1.2.2.2.1
  · rw [r8, b5]; exact tO1.2.2.2.2.1
  · rw [r8, b5]; exact tO1.2.2.2.2.2
  · exact a1.1.fr fb8 (by omega) (n4 _ (by omega) (by omega) (by omega) (by omega)) (n4 _ (by omega) (by omega) (by omega) (by omega)) (n4 _ (by omega) (by omega) (by omega) (by omega))
  · rw [fb8.2.1 _ (n4 _ (by omega) (by omega) (by omega) (by omega))]; exact a1.2.1
  · obtain ⟨p1, ⟨v, v1, v2, v3⟩, p3⟩ := a1.2.2.2 a ha
    have er : zrv Y8 (zp (32 + 1) a) = zrv G1 (zp 33 a) := fb8.rv (by omega) (n4 _ (by omega) (by omega) (by omega) (by omega))
    have ei : ziv Y8 (zp (32 + 1) a) = ziv G1 (zp 33 a) := fb8.iv (by omega) (n4 _ (by omega) (by omega) (by omega) (by omega))
    refine ⟨by rw [er]; exact p1, ⟨v, Nat.lt_of_lt_of_le v1 (fb8.1 _), by rw [er]; exact v2, ?_⟩, fun k k1 k2 k3 => ?_⟩
    · unfold VD at *
      rw [fb8.iv (by omega) (n4 _ (by omega) (by omega) (by omega) (by omega))]; exact v3
    · rw [ei]
      by_cases c : k < 6
      · exact p3 k c k2
      · exact a2 a ha k (by omega) k1
  · exact b1.2.2.2.1.fr fY (by omega) (no _ (by omega)) (no _ (by omega)) (no _ (by omega))
  · rw [i8.1]; exact b1.2.2.2.2.1
  · rw [fY.iv (by omega) (no _ (by omega))]; exact b2 b hb2 k hk
end ZCk
