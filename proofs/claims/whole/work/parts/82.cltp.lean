/-! public methods: ask (the method) -/
section ZDp
variable {l : Launch} {K : ZG} {m n1 m1 : Nat} {S : ZS9} {X : ZG}
theorem p_ask (htr : l.stackTraces = false) (h : PO K S m n1 m1 X) : ∃ L, LW S L ∧ ∀ (E : ZE) (x kind wanted items urgent : Int32), (urgent = 0 ∨ urgent = 1) → zMet E l mX11_ask 40 300 [.ref (zp 384 0), .int x, .int kind, .int wanted, .int items, .int urgent] X (cO cy (xs xIO xIA xUO) (fAsk S L x kind wanted items urgent) (fun S' G' => PO K S' m n1 m1 G')) := by
  have hN := h.of.ri.2.1.2
  have hA := h.of.ri.1
  have nu : ∀ t, t ≠ 32 → t ∉ [32] := fun t h => by simp [h]
  obtain ⟨L, hL, i, hlo, hv⟩ := c_verdictOf h.jv (SI_nL h.si)
  refine ⟨L, hL, fun E x kind wanted items urgent hu => ?_⟩
  generalize hQ : cO cy (xs xIO xIA xUO) (fAsk S L x kind wanted items urgent) (fun S' G' => PO K S' m n1 m1 G') = Q
  by_cases hx : zin x (nP S)
  · obtain ⟨p, hp, rfl⟩ := zin_of hx (by omega)
    have e35 : ∀ s0, (s0 = 0 ∧ ¬ (inn kind 0 3 ∧ inn wanted (S 416 1) 1000 ∧ inn items 0 255)) ∨ (s0 = 1 ∧ (inn kind 0 3 ∧ inn wanted (S 416 1) 1000 ∧ inn items 0 255)) → zW E l mX11_ask 40 300 X Q 300 35 [some (.ref (zp 384 0)), none, some (.int kind), some (.int wanted), some (.int items), some (.int urgent), some (.ref (zp 288 p)), none, none] [.int s0] X := by
      intro s0 hs
      refine wpt_X11_ask_35 htr ?_; unfold wp_X11_ask_35
      rcases hs with ⟨rfl, hb⟩ | ⟨rfl, hg⟩
      · refine xcV_th (c_demand0 htr) (by decide) (by decide) ?_
        rw [← hQ]
        unfold fAsk
        rw [f3f (nn hx), f3t hb]
        exact cO_ex (by decide) rfl h
      · have o7 : zrv X (zp 384 0) 8 = zp 224 0 := h.o.2.2.2.2.2.2.1
        have r3 : zrv X (zp 224 0) 3 = zp 4 0 := h.of.r3
        have hl : zAL X 4 (nA S) (zp 32) := h.of.aL
        have hc : zcn X 32 = nA S := h.of.so.2.1.2.1
        have ef : fAsk S L (Int32.ofNat p) kind wanted items urgent = fCalls3 (nA S = 120) (3, 0, S) (0, Int32.ofNat (nA S), zask S (zJ S L p kind wanted urgent) (Int32.ofNat p) kind wanted items urgent) := by unfold fAsk; rw [f3f (nn hx), f3f (nn hg), n_nn (by omega)]
        rw [ef] at hQ
        refine cV (c_demand1 htr) (by decide) ?_
        rw [o7, r3]
        refine ⟨h.o.1, h.of.oo, zobL hl (by omega), csize hl (by omega) (by decide) ⟨fun c => ⟨h.o.1, cR (hlo E l) (by decide) ⟨h.o.1, cRx (c_factsOf h.jv h.of.ri kind wanted urgent hp) (by decide) (by decide) (fun y9 G10 h10 => ?_)⟩⟩, fun c => ⟨by decide, by decide, ?_⟩⟩⟩
        · rw [show (120 : Int32) = Int32.ofNat 120 from rfl, n_lt (by omega) (by omega)] at c
          obtain ⟨rfl, hA⟩ := h10
          refine hv E l hA (by decide) (by decide) (fun y Y hY => ?_)
          have pY := h.jq hY
          obtain ⟨ey, oy, cy3, vy, ky, -⟩ := hY
          subst ey
          have cY : zcn Y 32 = nA S := pY.of.so.2.1.2.1
          refine ⟨by decide, 32, by decide, by decide, by decide, fun q16 e16 G17 e17 k18 e18 => ?_⟩
          rw [cY] at e16
          subst e16
          have f17 : zfr [32] Y G17 := by rw [e17]; exact zfr.nw (by omega) (by simp)
          have c17 : zcn G17 32 = nA S + 1 := by rw [e17, zcn_nw, if_pos rfl, cY]
          have n17 : ∀ i, i < nA S → ziv G17 (zp 32 i) = ziv Y (zp 32 i) ∧ zrv G17 (zp 32 i) = zrv Y (zp 32 i) := fun i hi => by
            have hne : zp 32 i ≠ zp 32 (zcn Y 32) := by rw [cY]; exact zp_ni (by omega) (by omega)
            refine ⟨?_, ?_⟩
            · funext j
              rw [e17, ziv_nw, if_neg hne]
            · funext j
              rw [e17, zrv_nw, if_neg hne]
          have q17 : zrv G17 (zp 384 0) 8 = zp 224 0 := by rw [f17.rv (by omega) (nu _ (by omega))]; exact pY.o.2.2.2.2.2.2.1
          have r17 : zrv G17 (zp 224 0) 3 = zp 4 0 := by rw [f17.rv (by omega) (nu _ (by omega))]; exact pY.of.r3
          have v17 : ziv G17 (zp 224 0) 6 = S 416 1 := by rw [f17.iv (by omega) (nu _ (by omega))]; exact pY.of.f6
          have l17 : zAL G17 4 (nA S) (zp 32) := (show zAL Y 4 (nA S) (zp 32) from pY.of.aL).fr f17 (by omega) (nu _ (by omega)) (nu _ (by omega)) (nu _ (by omega))
          rw [q17, r17]
          refine ⟨f17.ob pY.o.1, f17.ob pY.of.oo, zobL l17 (by omega), csize l17 (by omega) (by decide) ?_⟩
          rw [q17, v17]
          have o17 : zob G17 (zp 32 (nA S)) 1 := zob_zp (by omega) (by omega) (by rw [c17]; omega)
          refine ⟨f17.ob pY.o.1, f17.ob pY.of.oo, o17.1, cVx (c_initA o17 (zok_b hu)) (by decide) (Nat.zero_le _) (fun G16 h16 => ?_)⟩
          obtain ⟨i16, a1, a6, ak⟩ := h16
          have o16 := i16.ob o17
          refine ⟨o16, fun G18 e18' => ?_⟩
          have f16 : zfr [32] Y G16 := f17.trans (zfr_of (t := 32) (i := nA S) (by omega) (by simp) i16.1 i16.2.1 i16.2.2)
          have f18 : zfr [32] Y G18 := by rw [e18']; exact f16.trans (zfr.si (by rw [zp_mod (by omega)]; simp))
          have c18 : zcn G18 32 = nA S + 1 := by rw [e18', zcn_si, i16.1, c17]
          have o18 : zob G18 (zp 32 (nA S)) 1 := by rw [e18']; exact o16
          have q18 : zrv G18 (zp 384 0) 8 = zp 224 0 := by rw [f18.rv (by omega) (nu _ (by omega))]; exact pY.o.2.2.2.2.2.2.1
          have w18 : zrv G18 (zp 224 0) 3 = zp 4 0 := by rw [f18.rv (by omega) (nu _ (by omega))]; exact pY.of.r3
          have l18 : zAL G18 4 (nA S) (zp 32) := (show zAL Y 4 (nA S) (zp 32) from pY.of.aL).fr f18 (by omega) (nu _ (by omega)) (nu _ (by omega)) (nu _ (by omega))
          rw [q18, w18]
          have hcs : Cond.castable (zC 1) "java/lang/Object" ∈ zcast := by decide +kernel
          have hel : ∀ j, j < nA S + 1 → zel G18 (zp 32 j) := fun j hj => zel_zp (c := 1) (by omega) (by omega) (by omega) (by decide) hcs
          have kb : 252 ≤ k18 := by rw [e18]; decide
          refine ⟨f18.ob pY.o.1, f18.ob pY.of.oo, zobL l18 (by omega), cIx (c_add (b := 2 * nA S + 12) (d := 7) l18 (by omega) (by omega) (by omega) (hel _ (by omega)) (fun j hj => hel j (by omega)) (Nat.le_refl _) (Nat.le_refl _)) (by decide) (by omega) (fun y19 G20 h20 => ?_)⟩
          obtain ⟨-, l20, f20⟩ := h20
          rw [zif_n] at l20
          have f20 : zfr [4, 3076] G18 G20 := f20
          have n2 : ∀ t, t ≠ 4 ∧ t ≠ 3076 → t ∉ [4, 3076] := fun t h => by simp [h]
          have q20 : zrv G20 (zp 384 0) 8 = zp 224 0 := by rw [f20.rv (by omega) (n2 _ (by omega))]; exact q18
          have s20 : zrv G20 (zp 32 (nA S)) 6 = zp 352 (zcn X 352) := by rw [f20.rv (by omega) (n2 _ (by omega)), e18', zrv_si]; exact a6
          have oy20 : zob G20 (zp 352 (zcn X 352)) 11 := f20.ob (f18.ob oy)
          have v20 : ziv G20 (zp 352 (zcn X 352)) 1 = (jall (zfacts S p kind wanted urgent) L j0).2.1 := by
            rw [f20.iv (by omega) (n2 _ (by omega)), f18.iv (by omega) (nu _ (by omega))]; exact vy.2.1
          rw [q20, v20]
          refine ⟨f20.ob (f18.ob pY.o.1), f20.ob (f18.ob pY.of.oo), oy20, f20.ob (f18.ob pY.of.oo), fun G22 e22 => ?_⟩
          have nz : ∀ i, zp 32 i ≠ zp 224 0 := fun i => zp_ne (by omega) (by omega) (by omega)
          have f22 : zfr [32, 4, 3076, 224] Y G22 := by
            rw [e22]
            exact ((f18.mono (by simp)).trans (f20.mono (by simp))).trans (zfr.si (by rw [zp_mod (by omega)]; simp))
          have iv22 : ∀ i, ziv G22 (zp 32 i) = ziv G18 (zp 32 i) := fun i => by
            rw [← f20.iv (by omega) (n2 _ (by omega)), e22]
            funext k
            rw [iv_n (nz i)]
          have rv22 : ∀ i, zrv G22 (zp 32 i) = zrv G18 (zp 32 i) := fun i => by
            rw [← f20.rv (by omega) (n2 _ (by omega)), e22, zrv_si]
          have rw22 : ∀ k, k < 15 → k ≠ 1 → k ≠ 6 → ziv G22 (zp 32 (nA S)) k = if k = 8 then items else iniA (Int32.ofNat (nA S)) kind (S 416 1) wanted urgent k := fun k k1 k2 k3 => by
            rw [iv22, e18']
            by_cases c8 : k = 8
            · rw [if_pos c8, c8, iv_s]
            · rw [if_neg c8, iv_k c8]; exact ak k k1 k2 k3
          refine ⟨by rw [e22]; exact f20.ob o18, ?_⟩
          have e0 : ziv G22 (zp 32 (nA S)) 0 = Int32.ofNat (nA S) := by rw [rw22 0 (by omega) (by omega) (by omega)]; rfl
          rw [e0, ← hQ, f3f (by omega)]
          refine cO_ok rfl ?_
          refine pY.ask (v := zcn X 352) c hp hu (by rw [cy3]; omega) vy ky f22 ?_ ?_ (fun i hi => ⟨?_, ?_⟩) ⟨?_, ?_, rw22⟩ (fun k => ?_) ?_
          · have : zfr [224] G20 G22 := by rw [e22]; exact zfr.si (by rw [zp_mod (by omega)]; simp)
            exact l20.fr this (by omega) (by decide) (by decide) (by decide)
          · rw [e22, zcn_si, f20.2.1 _ (n2 _ (by omega)), c18]
          · rw [iv22, e18', ← (n17 i hi).1, ← (i16.2.2 (zp 32 i) (zp_ni (by omega) (by omega))).1]
            funext k
            rw [iv_n (zp_ni (by omega) (by omega))]
          · rw [rv22, e18', zrv_si, ← (n17 i hi).2, ← (i16.2.2 (zp 32 i) (zp_ni (by omega) (by omega))).2]
          · rw [rv22, e18', zrv_si]; exact a1
          · rw [rv22, e18', zrv_si]; exact a6
          · rw [e22, ziv_si]
            by_cases c9 : k = 9
            · rw [if_pos ⟨rfl, c9⟩, if_pos c9, f20.iv (by omega) (n2 _ (by omega)), f18.iv (by omega) (nu _ (by omega))]
            · rw [if_neg (fun z => c9 z.2), if_neg c9, f20.iv (by omega) (n2 _ (by omega)), f18.iv (by omega) (nu _ (by omega))]
          · rw [e22, zrv_si, f20.rv (by omega) (n2 _ (by omega)), f18.rv (by omega) (nu _ (by omega))]
        · rw [show (120 : Int32) = Int32.ofNat 120 from rfl, n_lt (by omega) (by omega)] at c
          rw [← hQ, f3t (by omega)]
          exact cO_ex (by decide) rfl h
    refine z_meth (by decide) (Nat.le_of_ble_eq_true rfl) (by simp [Value.category]) (wpt_X11_ask_0 htr ?_); unfold wp_X11_ask_0
    refine ⟨h.o.1, cR (c_personAt htr h hp) (by decide) (cI (c_isKind kind) (by decide) ⟨fun c => e35 0 (Or.inl ⟨rfl, fun z => zb_0.mp c z.1⟩), fun c => ⟨h.o.1, cI (c_isWanted h wanted) (by decide) ⟨fun c2 => e35 0 (Or.inl ⟨rfl, fun z => zb_0.mp c2 z.2.1⟩), fun c2 => cI (c_isItems items) (by decide) ⟨fun c3 => e35 0 (Or.inl ⟨rfl, fun z => zb_0.mp c3 z.2.2⟩), fun c3 => e35 1 (Or.inr ⟨rfl, Classical.not_not.mp (fun z => c (zbz z)), Classical.not_not.mp (fun z => c2 (zbz z)), Classical.not_not.mp (fun z => c3 (zbz z))⟩)⟩⟩⟩⟩)⟩
  · refine z_meth (by decide) (Nat.le_of_ble_eq_true rfl) (by simp [Value.category]) (wpt_X11_ask_0 htr ?_); unfold wp_X11_ask_0
    refine ⟨h.o.1, xcR_th (c_personNo htr h hx) (by decide) (by decide) ?_⟩
    rw [← hQ]
    unfold fAsk
    rw [f3t hx]
    exact cO_ex (by decide) rfl h
end ZDp
