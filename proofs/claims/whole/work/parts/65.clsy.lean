/-! public methods: person -/
section ZCy
variable {E : ZE} {l : Launch} {K : ZG} {w m n1 m1 : Nat} {S S' : ZS9} {r : Int32} {X X' : ZG}
theorem c_isFace (x : Int32) : zMet E l mX11_isFace 0 0 [.int x] X (zI (zb (inn x 0 99)) X) := by
  refine z_meth (by decide) (Nat.le_of_ble_eq_true rfl) (by simp [Value.category]) (wpt_X11_isFace_0 ?_); unfold wp_X11_isFace_0
  exact ⟨fun c => ⟨by rw [zbz (fun z => z.1 c)], rfl⟩, fun c => ⟨fun c2 => ⟨by rw [zbz (fun z => z.2 c2)], rfl⟩, fun c2 => ⟨by rw [zb_t ⟨c, c2⟩], rfl⟩⟩⟩
theorem zper_o {born ab a b c d e : Int32} {t k : Nat} (h : ¬ ((t = 1129 ∨ t = 2130) ∧ k = nP S)) (h2 : ¬ (t = 1131 ∧ 5 * nP S ≤ k ∧ k < 5 * nP S + 5)) (h3 : ¬ (t = 416 ∧ k = 34)) : zperson S born ab a b c d e t k = S t k := by
  unfold zperson
  rw [zup_ne (by omega), zup_ne (by omega), zup_ne (by omega), zup_ne (by omega), zup_ne (by omega), zup_ne (by omega), zup_ne (by omega), zup_ne (by omega)]
theorem zper_n {born ab a b c d e : Int32} : zperson S born ab a b c d e 1129 (nP S) = born ∧ zperson S born ab a b c d e 2130 (nP S) = ab ∧ zperson S born ab a b c d e 416 34 = S 416 34 + 1 := by
  unfold zperson
  refine ⟨?_, ?_, zup_s _ _ _ _⟩
  · rw [zup_ne (by omega), zup_ne (by omega), zup_ne (by omega), zup_ne (by omega), zup_ne (by omega), zup_ne (by omega), zup_ne (by omega), zup_s]
  · rw [zup_ne (by omega), zup_ne (by omega), zup_ne (by omega), zup_ne (by omega), zup_ne (by omega), zup_ne (by omega), zup_s]
theorem zper_f {born ab a b c d e : Int32} {k : Nat} (hk : k < 5) : zperson S born ab a b c d e 1131 (5 * nP S + k) = z5 a b c d e k := by
  unfold zperson
  match k, hk with
  | 0, _ => rw [zup_ne (by omega), zup_ne (by omega), zup_ne (by omega), zup_ne (by omega), zup_ne (by omega)]; exact zup_s _ _ _ _
  | 1, _ => rw [zup_ne (by omega), zup_ne (by omega), zup_ne (by omega), zup_ne (by omega), zup_s]; rfl
  | 2, _ => rw [zup_ne (by omega), zup_ne (by omega), zup_ne (by omega), zup_s]; rfl
  | 3, _ => rw [zup_ne (by omega), zup_ne (by omega), zup_s]; rfl
  | 4, _ => rw [zup_ne (by omega), zup_s]; rfl
theorem c_initP {n fa : Nat} {born ab : Int32} (hn : n < 80) (hc : zcn X 1031 = n) (ho : zob X (zp 288 n) 9) (hab : ab = 0 ∨ ab = 1) : zMet E l mX8_init 1 81 [.ref (zp 288 n), .int (Int32.ofNat n), .int born, .int ab, .ref fa] X (zVx (fun X' => zfr [288, 1031] X X' ∧ zcn X' 288 = zcn X 288 ∧ zcn X' 1031 = n + 1 ∧ (∀ i, i ≠ n → (ziv X' (zp 288 i) = ziv X (zp 288 i) ∧ zrv X' (zp 288 i) = zrv X (zp 288 i)) ∧ ziv X' (zp 1031 i) = ziv X (zp 1031 i) ∧ zln X' (zp 1031 i) = zln X (zp 1031 i)) ∧ (ziv X' (zp 288 n) 0 = Int32.ofNat n ∧ ziv X' (zp 288 n) 1 = born ∧ ziv X' (zp 288 n) 2 = ab) ∧ (zrv X' (zp 288 n) 3 = 0 ∧ zrv X' (zp 288 n) 4 = fa ∧ zrv X' (zp 288 n) 5 = zp 1031 n) ∧ zln X' (zp 1031 n) = 80 ∧ ∀ j, ziv X' (zp 1031 n) j = 0)) := by
  refine z_meth (by decide) (Nat.le_of_ble_eq_true rfl) (by simp [Value.category]) (wpt_X8_init_0 ?_); unfold wp_X8_init_0
  have v80 : (80 : Int32).toNatClampNeg = 80 := rfl
  rw [v80]
  refine ⟨ho.1, by decide, ho, fun G1 e1 => ⟨by decide, by omega, by omega, 1031, by decide, by decide, by decide, fun q3 e3 G4 e4 k5 e5 => ?_⟩⟩
  have c1 : zcn G1 = zcn X := by rw [e1]; rfl
  rw [c1, hc] at e3
  have f1 : zfr [288, 1031] X G1 := by rw [e1]; exact zfr.sr (by rw [zp_mod (by omega)]; simp)
  have f4 : zfr [288, 1031] X G4 := f1.trans (by rw [e4]; exact zfr.nw (by omega) (by simp))
  have o4 : zob G4 (zp 288 n) 9 := f4.ob ho
  have q4 : zp 1031 (zcn G1 1031) = zp 1031 n := by rw [c1, hc]
  refine ⟨o4, fun G6 e6 => ?_⟩
  have i6 : zIn G4 G6 (zp 288 n) := by rw [e6]; exact zIn.rf.sr
  refine ⟨i6.ob o4, fun G7 e7 => ?_⟩
  have i7 : zIn G4 G7 (zp 288 n) := by rw [e7]; exact i6.si
  refine ⟨i7.ob o4, fun G8 e8 => ?_⟩
  have i8 : zIn G4 G8 (zp 288 n) := by rw [e8]; exact i7.si
  refine ⟨i8.ob o4, zok_b hab, fun G9 e9 => ?_⟩
  have i9 : zIn G4 G9 (zp 288 n) := by rw [e9]; exact i8.si
  refine ⟨i9.ob o4, fun G10 e10 => ⟨rfl, ?_⟩⟩
  have i10 : zIn G4 G10 (zp 288 n) := by rw [e10]; exact i9.sr
  have f10 : zfr [288, 1031] X G10 := f4.trans (zfr_of (t := 288) (i := n) (by omega) (by simp) i10.1 i10.2.1 i10.2.2)
  have n8 : ∀ i x, zp 288 i ≠ zp 1031 x := fun i x => zp_ne (by omega) (by omega) (by omega)
  have n1 : ∀ i, zp 1031 i ≠ zp 288 n := fun i => zp_ne (by omega) (by omega) (by omega)
  refine ⟨f10, ?_, ?_, fun i hi => ⟨⟨?_, ?_⟩, ?_, ?_⟩, ⟨?_, ?_, ?_⟩, ⟨?_, ?_, ?_⟩, ?_, fun j => ?_⟩
  · rw [i10.1, e4, zcn_nw, if_neg (by decide), c1]
  · rw [i10.1, e4, zcn_nw, if_pos rfl, c1, hc]
  · rw [(i10.2.2 _ (zp_ni (by omega) hi)).1]
    funext j
    rw [e4, ziv_nw, if_neg (n8 _ _), e1, ziv_sr]
  · rw [(i10.2.2 _ (zp_ni (by omega) hi)).2]
    funext j
    rw [e4, zrv_nw, if_neg (n8 _ _), e1, zrv_sr, if_neg (fun z => zp_ni (by omega) hi z.1)]
  · rw [(i10.2.2 _ (n1 i)).1]
    funext j
    rw [e4, ziv_nw, q4, if_neg (zp_ni (by omega) hi), e1, ziv_sr]
  · rw [i10.2.1, e4, zln_nw, q4, if_neg (zp_ni (by omega) hi), e1, zln_sr]
  · rw [e10, ziv_sr, e9, iv_k (by decide), e8, iv_k (by decide), e7, iv_s]
  · rw [e10, ziv_sr, e9, iv_k (by decide), e8, iv_s]
  · rw [e10, ziv_sr, e9, iv_s]
  · rw [e10, zrv_sr, if_neg (fun z => nomatch z.2), e9, zrv_si, e8, zrv_si, e7, zrv_si, e6, zrv_sr, if_neg (fun z => nomatch z.2), e4, zrv_nw, if_neg (n8 _ _), e1, zrv_sr, if_pos ⟨rfl, rfl⟩]
  · rw [e10, zrv_sr, if_pos ⟨rfl, rfl⟩]
  · rw [e10, zrv_sr, if_neg (fun z => nomatch z.2), e9, zrv_si, e8, zrv_si, e7, zrv_si, e6, zrv_sr, if_pos ⟨rfl, rfl⟩, e3]
  · rw [i10.2.1, e4, zln_nw, q4, if_pos rfl]
  · rw [(i10.2.2 _ (n1 n)).1, e4, ziv_nw, q4, if_pos rfl]
theorem SI.pers {born ab a b c d e : Int32} (h : SI S) (hR : RI S) (hn : nP S < 80) (hb : inn born (-40000) (S 416 1)) : SI (zperson S born ab a b c d e) := by
  have eP : nP (zperson S born ab a b c d e) = nP S + 1 := by
    show (zperson S born ab a b c d e 416 34).toNatClampNeg = _
    rw [zper_n.2.2, hR.2.1.1, n_p1, n_nn (by omega)]
  have k : ∀ t j, ¬ (t = 1129 ∨ t = 2130 ∨ t = 1131) → ¬ (t = 416 ∧ j = 34) → zperson S born ab a b c d e t j = S t j := fun t j h1 h2 => zper_o (by omega) (by omega) h2
  have nb : ∀ p, p < nP S + 1 → zperson S born ab a b c d e 1129 p = if p = nP S then born else S 1129 p := fun p hp => by
    by_cases e : p = nP S
    · rw [if_pos e, e, zper_n.1]
    · rw [if_neg e, zper_o (by omega) (by omega) (by omega)]
  obtain ⟨⟨⟨⟨t1, t2⟩, t3⟩, l1, o1, b1, q1, n2⟩, sb, sd, td, sn⟩ := h
  have eT : nTp (zperson S born ab a b c d e) = nTp S := by unfold nTp; rw [k _ _ (by omega) (by omega)]
  have eL : nL (zperson S born ab a b c d e) = nL S := by unfold nL; rw [k _ _ (by omega) (by omega)]
  have eA : nA (zperson S born ab a b c d e) = nA S := by unfold nA; rw [k _ _ (by omega) (by omega)]
  have eB : nB (zperson S born ab a b c d e) = nB S := by unfold nB; rw [k _ _ (by omega) (by omega)]
  have hB := hR.2.2.1.2
  refine ⟨?_, fun p hp => ?_, sd.cg (fun j => k _ _ (by omega) (by omega)) (by omega) (by omega), ?_, fun a ha => ?_⟩
  · unfold SK TB
    rw [eT, eL, eP, k 416 3 (by omega) (by omega), k 416 19 (by omega) (by omega), k 416 42 (by omega) (by omega)]
    refine ⟨⟨⟨t1, t2⟩, fun j hj => by rw [k _ _ (by omega) (by omega)]; exact t3 j hj⟩, l1, o1, fun p hp => ?_, fun p q hp hq hc => ?_, fun p hp => ?_⟩
    · rw [nb p hp]
      by_cases e : p = nP S
      · rw [if_pos e]; exact hb.1
      · rw [if_neg e]; exact b1 p (by omega)
    · rw [k _ _ (by omega) (by omega)]; exact q1 p q hp hq (by omega)
    · rw [k _ _ (by omega) (by omega)]; exact n2 p (by omega)
  · rw [eP] at hp
    rw [k 416 1 (by omega) (by omega), nb p hp]
    by_cases e : p = nP S
    · rw [if_pos e]; exact hb.2
    · rw [if_neg e]; exact sb p (by omega)
  · unfold TD; rw [k 416 1 (by omega) (by omega)]; exact td
  · rw [eA] at ha
    rw [k 1165 _ (by omega) (by omega), k 1165 _ (by omega) (by omega)]; exact sn a ha
theorem PO.pers {born ab a b c d e : Int32} (h : PO K S m n1 m1 X) (hn : nP S < 80) (hb : inn born (-40000) (S 416 1)) (hf : zfr [1030, 288, 1031, 2, 3074] X X') (hl : zAL X' 2 (nP S + 1) (zp 288)) (hc : zcn X' 288 = nP S + 1 ∧ zcn X' 1030 = nP S + 1 ∧ zcn X' 1031 = nP S + 1)
    (ho : ∀ i, i < nP S → (ziv X' (zp 288 i) = ziv X (zp 288 i) ∧ zrv X' (zp 288 i) = zrv X (zp 288 i)) ∧ (ziv X' (zp 1031 i) = ziv X (zp 1031 i) ∧ zln X' (zp 1031 i) = zln X (zp 1031 i)) ∧ ziv X' (zp 1030 i) = ziv X (zp 1030 i) ∧ zln X' (zp 1030 i) = zln X (zp 1030 i))
    (hr : (ziv X' (zp 288 (nP S)) 0 = Int32.ofNat (nP S) ∧ ziv X' (zp 288 (nP S)) 1 = born ∧ ziv X' (zp 288 (nP S)) 2 = ab) ∧ (zrv X' (zp 288 (nP S)) 3 = 0 ∧ zrv X' (zp 288 (nP S)) 4 = zp 1030 (nP S) ∧ zrv X' (zp 288 (nP S)) 5 = zp 1031 (nP S)) ∧ (zln X' (zp 1030 (nP S)) = 5 ∧ ∀ k, k < 5 → ziv X' (zp 1030 (nP S)) k = z5 a b c d e k) ∧ zln X' (zp 1031 (nP S)) = 80 ∧ ∀ j, ziv X' (zp 1031 (nP S)) j = 0) : PO K (zperson S born ab a b c d e) m n1 m1 X' := by
  have no : ∀ t, t ≠ 1030 ∧ t ≠ 288 ∧ t ≠ 1031 ∧ t ≠ 2 ∧ t ≠ 3074 → t ∉ [1030, 288, 1031, 2, 3074] := fun t h => by simp [h]
  have ks : ∀ t j, ¬ (t = 1129 ∨ t = 2130 ∨ t = 1131) → ¬ (t = 416 ∧ j = 34) → zperson S born ab a b c d e t j = S t j := fun t j h1 h2 => zper_o (by omega) (by omega) h2
  have hI := h.si.pers (ab := ab) (a := a) (b := b) (c := c) (d := d) (e := e) h.of.ri hn hb
  have eP : nP (zperson S born ab a b c d e) = nP S + 1 := by
    show (zperson S born ab a b c d e 416 34).toNatClampNeg = _
    rw [zper_n.2.2, h.of.ri.2.1.1, n_p1, n_nn (by omega)]
  have e34 : zperson S born ab a b c d e 416 34 = Int32.ofNat (nP S + 1) := by rw [zper_n.2.2, h.of.ri.2.1.1, n_p1]
  obtain ⟨p1, p2, p3, p4, p5, p6, p7, p8⟩ := h
  have eL : nL (zperson S born ab a b c d e) = nL S := by unfold nL; rw [ks _ _ (by omega) (by omega)]
  have eA : nA (zperson S born ab a b c d e) = nA S := by unfold nA; rw [ks _ _ (by omega) (by omega)]
  refine ⟨p1.fr hf (no _ (by omega)), (p2.fr hf (no _ (by omega)) (no _ (by omega))).cg (fun t i hc => ks t i (by unfold tk at hc; omega) (by unfold tk at hc; omega)), ?_, fun p hp => ?_, p5.fr hf (no _ (by omega)) (no _ (by omega)) (by decide), ?_, ?_, hI⟩
  · obtain ⟨f, a1, b1, nl⟩ := p3.fr hf (no _ (by omega)) (no _ (by omega)) (no _ (by omega)) (no _ (by omega)) (no _ (by omega))
    refine ⟨f, by rw [eL]; exact a1, fun j hj => ?_, nl.cg eL (fun k _ => ks _ _ (by omega) (by omega))⟩
    rw [eL] at hj
    have hL := SI_nL p8
    obtain ⟨i, i1, i2, i3, i4, x, x1, x2, tv, x3, L, x4, x5, x6⟩ := b1 j hj
    refine ⟨i, i1, i2, by rw [ks _ _ (by omega) (by omega)]; exact i3, by rw [ks _ _ (by omega) (by omega)]; exact i4, x, x1, x2, tv, x3, L, x4, ?_, x6⟩
    obtain ⟨z1, z2, z3, z4, z5⟩ := x5
    refine ⟨by rw [ks _ _ (by omega) (by omega)]; exact z1, z2, z3, fun m hm => ?_, fun i hi => ?_⟩
    · have := z4 m hm
      unfold zrow at *
      rw [ks 1112 _ (by omega) (by omega), ks 1113 _ (by omega) (by omega), ks 1114 _ (by omega) (by omega), ks 1115 _ (by omega) (by omega)]
      exact this
    · rw [ks 1116 _ (by omega) (by omega), ks 1117 _ (by omega) (by omega), ks 1118 _ (by omega) (by omega)]
      exact z5 i hi
  · rw [eP] at hp
    by_cases e0 : p = nP S
    · rw [e0]
      exact Or.inl ⟨by rw [ks _ _ (by omega) (by omega)]; exact p8.1.2.2.2.2.2 _ (Nat.le_refl _), hr.2.1.1⟩
    · have := p4 p (by omega)
      unfold NM at *
      rw [(ho p (by omega)).1.2, ks 2133 _ (by omega) (by omega)]
      rcases this with h | ⟨h0, i, i1, i2, j, j1, j2, j3, j4⟩
      · exact Or.inl h
      · exact Or.inr ⟨h0, i, Nat.lt_of_lt_of_le i1 (hf.1 _), i2, j, Nat.lt_of_lt_of_le j1 (hf.1 _), by rw [hf.rv (by omega) (no _ (by omega))]; exact j2, by rw [hf.ln (by omega) (no _ (by omega))]; exact j3, fun k hk => by rw [hf.iv (by omega) (no _ (by omega)), ks _ _ (by omega) (by omega)]; exact j4 k hk⟩
  · have e42 : zperson S born ab a b c d e 416 42 = S 416 42 := ks _ _ (by omega) (by omega)
    rw [e42]
    have o := p6
    refine o.mk2 hf (fun t ht => no t (by omega)) ?_ (o.rj.cg (fun t i hc => ks t i (by omega) (by omega))) ?_ ((o.cd.cg (ks _ _ (by omega) (by omega)) (fun t i hc => ks t i (by omega) (by omega))).fr hf (no _ (by omega)) (no _ (by omega)) (no _ (by omega)) (no _ (by omega)) (no _ (by omega)) (no _ (by omega))) (fun t i hc => ks t i (by unfold oc at hc; omega) (by unfold oc at hc; omega))
    · obtain ⟨x1, x2, x3, x4, x5, x6⟩ := o.ri
      unfold RI nA nB nT pn at *
      rw [ks 416 66 (by omega) (by omega), ks 416 52 (by omega) (by omega), ks 416 71 (by omega) (by omega), eP, e34]
      refine ⟨x1, ⟨rfl, by omega⟩, x3, x4, fun x hx => ?_, fun x => by rw [ks 2158 _ (by omega) (by omega)]; exact x6 x⟩
      rw [ks 1153 _ (by omega) (by omega)]
      have := x5 x hx
      exact ⟨this.1, by omega⟩
    · obtain ⟨c1, c2, c3, -, c7⟩ := o.cp
      unfold CP
      rw [eP]
      refine ⟨hf.ob c1, by rw [hf.rv (by omega) (no _ (by omega))]; exact c2, hl, hc, fun p hp => ?_⟩
      by_cases e0 : p = nP S
      · obtain ⟨⟨r1, r2, r3⟩, ⟨r4, r5, r6⟩, ⟨r7, r8⟩, r9, r10⟩ := hr
        rw [e0]
        refine ⟨⟨r1, by rw [r2, zper_n.1], by rw [r3, zper_n.2.1]⟩, ⟨r5, r7, fun k hk => by rw [r8 k hk, zper_f hk]⟩, ⟨r6, r9, fun q hq => ?_⟩⟩
        rw [r10, ks _ _ (by omega) (by omega), p8.1.2.2.2.2.1 (nP S) q (by omega) (by omega) (Or.inl (Nat.le_refl _))]
        decide
      · obtain ⟨⟨o1, o2⟩, ⟨o3, o4⟩, o5, o6⟩ := ho p (by omega)
        have := c7 p (by omega)
        unfold PR at *
        rw [o1, o2, o3, o4, o5, o6]
        obtain ⟨⟨a1, a2, a3⟩, ⟨b1, b2, b3⟩, ⟨d1, d2, d3⟩⟩ := this
        exact ⟨⟨a1, by rw [zper_o (by omega) (by omega) (by omega)]; exact a2, by rw [zper_o (by omega) (by omega) (by omega)]; exact a3⟩, ⟨b1, b2, fun k hk => by rw [zper_o (by omega) (by omega) (by omega)]; exact b3 k hk⟩, ⟨d1, d2, fun q hq => by rw [ks _ _ (by omega) (by omega)]; exact d3 q hq⟩⟩
  · obtain ⟨o1, ⟨a1, a2, a3, a4⟩, b1⟩ := p7.fr hf (no _ (by omega)) (no _ (by omega)) (no _ (by omega)) (no _ (by omega)) (no _ (by omega)) (no _ (by omega)) (no _ (by omega)) (no _ (by omega)) (no _ (by omega))
    refine ⟨o1, ⟨a1, a2, by rw [eA]; exact a3, fun x hx => ?_⟩, b1⟩
    obtain ⟨q1, ⟨v, v1, v2, v3⟩, q3⟩ := a4 x hx
    refine ⟨by unfold pn; rw [ks 1153 _ (by omega) (by omega)]; exact q1, ⟨v, v1, v2, ?_⟩, fun k k1 k2 => ?_⟩
    · unfold VD at *
      rw [ks 1159 _ (by omega) (by omega), ks 1160 _ (by omega) (by omega), ks 1162 _ (by omega) (by omega), ks 1164 _ (by omega) (by omega), ks 2163 _ (by omega) (by omega), ks 1161 _ (by omega) (by omega)]
      exact v3
    · rw [q3 k k1 k2]
      match k, k1, k2 with
      | 0, _, _ => rfl
      | 2, _, _ => show S 1154 x = zperson S born ab a b c d e 1154 x; rw [ks _ _ (by omega) (by omega)]
      | 3, _, _ => show S 1155 x = zperson S born ab a b c d e 1155 x; rw [ks _ _ (by omega) (by omega)]
      | 4, _, _ => show S 1156 x = zperson S born ab a b c d e 1156 x; rw [ks _ _ (by omega) (by omega)]
      | 5, _, _ => show S 2158 x = zperson S born ab a b c d e 2158 x; rw [ks _ _ (by omega) (by omega)]
theorem p_person (htr : l.stackTraces = false) (h : PO K S m n1 m1 X) (born ab a b c d e : Int32) (hab : ab = 0 ∨ ab = 1) : zMet E l mX11_person 9 280 [.ref (zp 384 0), .int born, .int ab, .int a, .int b, .int c, .int d, .int e] X (cO cy (xs xIA xUO xUO) (fPerson S born ab a b c d e) (fun S' G' => PO K S' m n1 m1 G')) := by
  have hP := h.of.ri.2.1
  have q4 := h.o.2.2.2.1
  have q7 := h.o.2.2.2.2.2.2.1
  have cp := h.of.cp
  have c2 := cp.2.1
  have hl := cp.2.2.1
  obtain ⟨hc1, hc2, hc3⟩ := cp.2.2.2.1
  generalize hQ : cO cy (xs xIA xUO xUO) (fPerson S born ab a b c d e) (fun S' G' => PO K S' m n1 m1 G') = Q
  have bad : ∀ {k : Nat} {K : ZG → Nat → Prop}, 7 ≤ k → ¬ (inn born (-40000) (S 416 1) ∧ inn a 0 99 ∧ inn b 0 99 ∧ inn c 0 99 ∧ inn d 0 99 ∧ inn e 0 99) → xcV E l mX11_demand 9 [.int 0] X k (fun X G9 => Q (.inr X) G9) K := fun hk hc => xcV_th (c_demand0 htr) (by decide) hk (by rw [← hQ]; unfold fPerson; rw [f3t hc]; exact cO_ex (by decide) rfl h)
  have e69 : ∀ s0, (s0 = 1 ∧ (inn born (-40000) (S 416 1) ∧ inn a 0 99 ∧ inn b 0 99 ∧ inn c 0 99 ∧ inn d 0 99 ∧ inn e 0 99)) ∨ (s0 = 0 ∧ ¬ (inn born (-40000) (S 416 1) ∧ inn a 0 99 ∧ inn b 0 99 ∧ inn c 0 99 ∧ inn d 0 99 ∧ inn e 0 99)) → zW E l mX11_person 9 280 X Q 280 69 [some (.ref (zp 384 0)), some (.int born), some (.int ab), some (.int a), some (.int b), some (.int c), some (.int d), some (.int e), none, none] [.int s0] X := by
    intro s0 hs
    refine wpt_X11_person_69 htr ?_; unfold wp_X11_person_69
    rcases hs with ⟨rfl, hg⟩ | ⟨rfl, hg⟩
    · refine cV (c_demand1 htr) (by decide) ?_
      rw [q4, c2]
      refine ⟨h.o.1, cp.1, zobL hl (by omega), csize hl (by omega) (by decide) ⟨fun cn => ⟨by decide, by decide, by decide, 1030, by decide, by decide, by decide, fun q7a e7 G8 e8 k9 e9 => ?_⟩, fun cn => ⟨by decide, by decide, ?_⟩⟩⟩
      · rw [show (80 : Int32) = Int32.ofNat 80 from rfl, n_lt (by omega) (by omega)] at cn
        rw [hc2] at e7
        have v5 : (5 : Int32).toNatClampNeg = 5 := rfl
        rw [v5] at e8 e9
        have al8 : zal G8 q7a := by rw [e8, e7]; exact (zal_nw (by omega) _).mpr (Or.inr (by rw [hc2]))
        have a8 : zar G8 q7a 0 := ⟨al8, by rw [e7, zp_mod (by omega)]; omega, by rw [e7, zp_mod (by omega)]; omega, by rw [e7, zp_mod (by omega)]⟩
        have l8 : zln G8 q7a = 5 := by rw [e8, zln_nw, if_pos (by rw [hc2, e7])]
        rw [l8]
        refine ⟨a8, n_in (i := 0) (by omega) (by omega), fun G10 e10 => ?_⟩
        have l10 : zln G10 q7a = 5 := by rw [e10, zln_si, l8]
        rw [l10]
        refine ⟨by rw [e10]; exact a8, n_in (i := 1) (by omega) (by omega), fun G11 e11 => ?_⟩
        have l11 : zln G11 q7a = 5 := by rw [e11, zln_si, l10]
        rw [l11]
        refine ⟨by rw [e11, e10]; exact a8, n_in (i := 2) (by omega) (by omega), fun G12 e12 => ?_⟩
        have l12 : zln G12 q7a = 5 := by rw [e12, zln_si, l11]
        rw [l12]
        refine ⟨by rw [e12, e11, e10]; exact a8, n_in (i := 3) (by omega) (by omega), fun G13 e13 => ?_⟩
        have l13 : zln G13 q7a = 5 := by rw [e13, zln_si, l12]
        rw [l13]
        refine ⟨by rw [e13, e12, e11, e10]; exact a8, n_in (i := 4) (by omega) (by omega), fun G14 e14 => ?_⟩
        have l14 : zln G14 q7a = 5 := by rw [e14, zln_si, l13]
        have m7 : q7a % 4096 ∈ [1030] := by rw [e7, zp_mod (by omega)]; simp
        have f14 : zfr [1030] X G14 := by
          rw [e14, e13, e12, e11, e10, e8]
          exact (((((zfr.nw (by omega) (by simp)).trans (zfr.si m7)).trans (zfr.si m7)).trans (zfr.si m7)).trans (zfr.si m7)).trans (zfr.si m7)
        have i14 : ∀ i, i < nP S → ziv G14 (zp 1030 i) = ziv X (zp 1030 i) ∧ zln G14 (zp 1030 i) = zln X (zp 1030 i) := fun i hi => by
          have hne : zp 1030 i ≠ q7a := by rw [e7]; exact zp_ni (by omega) (by omega)
          refine ⟨?_, ?_⟩
          · funext j
            rw [e14, iv_n hne, e13, iv_n hne, e12, iv_n hne, e11, iv_n hne, e10, iv_n hne, e8, ziv_nw, if_neg (by rw [hc2, ← e7]; exact hne)]
          · rw [e14, zln_si, e13, zln_si, e12, zln_si, e11, zln_si, e10, zln_si, e8, zln_nw, if_neg (by rw [hc2, ← e7]; exact hne)]
        have v14 : ∀ k, k < 5 → ziv G14 q7a k = z5 a b c d e k := fun k hk => by
          match k, hk with
          | 0, _ => rw [e14, iv_k (by decide), e13, iv_k (by decide), e12, iv_k (by decide), e11, iv_k (by decide), e10]; exact iv_s
          | 1, _ => rw [e14, iv_k (by decide), e13, iv_k (by decide), e12, iv_k (by decide), e11]; exact iv_s
          | 2, _ => rw [e14, iv_k (by decide), e13, iv_k (by decide), e12]; exact iv_s
          | 3, _ => rw [e14, iv_k (by decide), e13]; exact iv_s
          | 4, _ => rw [e14]; exact iv_s
        have n14 : zcn G14 1030 = nP S + 1 := by rw [e14, zcn_si, e13, zcn_si, e12, zcn_si, e11, zcn_si, e10, zcn_si, e8, zcn_nw, if_pos rfl, hc2]
        have n1f : ∀ t, t ≠ 1030 → t ∉ [1030] := fun t h => by simp [h]
        refine ⟨by omega, 288, by decide, by decide, by decide, fun q16 e16 G17 e17 k18 e18 => ?_⟩
        have c14 : zcn G14 288 = nP S := by rw [f14.2.1 _ (n1f _ (by omega)), hc1]
        rw [c14] at e16
        have f17 : zfr [1030, 288] X G17 := (f14.mono (by simp)).trans (by rw [e17]; exact zfr.nw (by omega) (by simp))
        have n2f : ∀ t, t ≠ 1030 → t ≠ 288 → t ∉ [1030, 288] := fun t h1 h2 => by simp [h1, h2]
        have r4 : zrv G17 (zp 384 0) 5 = zp 256 0 := by rw [f17.rv (by omega) (n2f _ (by omega) (by omega))]; exact q4
        have r0 : zrv G17 (zp 256 0) 0 = zp 2 0 := by rw [f17.rv (by omega) (n2f _ (by omega) (by omega))]; exact c2
        have l17 : zAL G17 2 (nP S) (zp 288) := hl.fr f17 (by omega) (n2f _ (by omega) (by omega)) (n2f _ (by omega) (by omega)) (n2f _ (by omega) (by omega))
        have n17 : zcn G17 288 = nP S + 1 := by rw [e17, zcn_nw, if_pos rfl, c14]
        rw [r4, r0, e16]
        have o17 : zob G17 (zp 288 (nP S)) 9 := zob_zp (by omega) (by omega) (by omega)
        refine ⟨f17.ob h.o.1, f17.ob cp.1, zobL l17 (by omega), csize l17 (by omega) (by decide) ⟨o17.1, cVx (c_initP (n := nP S) (fa := q7a) cn (by rw [f17.2.1 _ (n2f _ (by omega) (by omega)), hc3]) o17 hab) (by decide) (by omega) (fun G22 h22 => ?_)⟩⟩
        obtain ⟨f22, g1, g2, g3, g4, g5, g6, g7⟩ := h22
        have f220 : zfr [1030, 288, 1031] X G22 := (f17.mono (by simp)).trans (f22.mono (by simp))
        have n3f : ∀ t, t ≠ 1030 → t ≠ 288 → t ≠ 1031 → t ∉ [1030, 288, 1031] := fun t h1 h2 h3 => by simp [h1, h2, h3]
        have r4' : zrv G22 (zp 384 0) 5 = zp 256 0 := by rw [f220.rv (by omega) (n3f _ (by omega) (by omega) (by omega))]; exact q4
        have r0' : zrv G22 (zp 256 0) 0 = zp 2 0 := by rw [f220.rv (by omega) (n3f _ (by omega) (by omega) (by omega))]; exact c2
        have l22 : zAL G22 2 (nP S) (zp 288) := hl.fr f220 (by omega) (n3f _ (by omega) (by omega) (by omega)) (n3f _ (by omega) (by omega) (by omega)) (n3f _ (by omega) (by omega) (by omega))
        have hcs : Cond.castable (zC 9) "java/lang/Object" ∈ zcast := by decide +kernel
        have hel : ∀ j, j < nP S + 1 → zel G22 (zp 288 j) := fun j hj => zel_zp (c := 9) (by omega) (by omega) (by omega) (by decide) hcs
        rw [r4', r0']
        refine ⟨f220.ob h.o.1, f220.ob cp.1, zobL l22 (by omega), cIx (c_add (b := 2 * nP S + 12) (d := 7) l22 (by omega) (by omega) (by omega) (hel _ (by omega)) (fun j hj => hel j (by omega)) (Nat.le_refl _) (Nat.le_refl _)) (by decide) (by omega) (fun y G25 h25 => ?_)⟩
        obtain ⟨-, l25, f25⟩ := h25
        rw [zif_n] at l25
        have n4f : ∀ t, t ≠ 2 → t ≠ 3074 → t ∉ [2, 3072 + 2] := fun t h1 h2 => by simp [h1, h2]
        have iv : ∀ t i, t < 4096 → t ≠ 2 → t ≠ 3074 → ziv G25 (zp t i) = ziv G22 (zp t i) := fun t i h1 h2 h3 => f25.iv h1 (n4f _ h2 h3)
        have rv : ∀ t i, t < 4096 → t ≠ 2 → t ≠ 3074 → zrv G25 (zp t i) = zrv G22 (zp t i) := fun t i h1 h2 h3 => f25.rv h1 (n4f _ h2 h3)
        have ln : ∀ t i, t < 4096 → t ≠ 2 → t ≠ 3074 → zln G25 (zp t i) = zln G22 (zp t i) := fun t i h1 h2 h3 => f25.ln h1 (n4f _ h2 h3)
        have ne2 : ∀ t, t ≠ 288 → t ≠ 1031 → t ∉ [288, 1031] := fun t h1 h2 => by simp [h1, h2]
        have x30 : ∀ i, ziv G22 (zp 1030 i) = ziv G14 (zp 1030 i) ∧ zln G22 (zp 1030 i) = zln G14 (zp 1030 i) := fun i => by
          rw [f22.iv (by omega) (ne2 _ (by omega) (by omega)), f22.ln (by omega) (ne2 _ (by omega) (by omega)), e17]
          refine ⟨?_, ?_⟩
          · funext j
            rw [ziv_nw, if_neg (zp_ne (by omega) (by omega) (by omega))]
          · rw [zln_nw, if_neg (zp_ne (by omega) (by omega) (by omega))]
        have x31 : ∀ i, ziv G17 (zp 1031 i) = ziv X (zp 1031 i) ∧ zln G17 (zp 1031 i) = zln X (zp 1031 i) := fun i => ⟨f17.iv (by omega) (n2f _ (by omega) (by omega)), f17.ln (by omega) (n2f _ (by omega) (by omega))⟩
        have x88 : ∀ i, i < nP S → ziv G17 (zp 288 i) = ziv X (zp 288 i) ∧ zrv G17 (zp 288 i) = zrv X (zp 288 i) := fun i hi => by
          have hne : zp 288 i ≠ zp 288 (zcn G14 288) := by rw [c14]; exact zp_ni (by omega) (by omega)
          refine ⟨?_, ?_⟩
          · funext j
            rw [e17, ziv_nw, if_neg hne, f14.iv (by omega) (n1f _ (by omega))]
          · funext j
            rw [e17, zrv_nw, if_neg hne, f14.rv (by omega) (n1f _ (by omega))]
        have h25 : PO K (zperson S born ab a b c d e) m n1 m1 G25 := by
          refine h.pers cn hg.1 ((f220.mono (by simp)).trans (f25.mono (by intro t ht; simp at ht ⊢; omega))) l25 ⟨?_, ?_, ?_⟩ (fun i hi => ⟨⟨?_, ?_⟩, ⟨?_, ?_⟩, ?_, ?_⟩) ⟨?_, ?_, ⟨?_, fun k hk => ?_⟩, ?_, fun j => ?_⟩
          · rw [f25.2.1 _ (n4f _ (by omega) (by omega)), g1, n17]
          · rw [f25.2.1 _ (n4f _ (by omega) (by omega)), f22.2.1 _ (ne2 _ (by omega) (by omega)), e17, zcn_nw, if_neg (by decide), n14]
          · rw [f25.2.1 _ (n4f _ (by omega) (by omega)), g2]
          · rw [iv _ _ (by omega) (by omega) (by omega), (g3 i (by omega)).1.1, (x88 i hi).1]
          · rw [rv _ _ (by omega) (by omega) (by omega), (g3 i (by omega)).1.2, (x88 i hi).2]
          · rw [iv _ _ (by omega) (by omega) (by omega), (g3 i (by omega)).2.1, (x31 i).1]
          · rw [ln _ _ (by omega) (by omega) (by omega), (g3 i (by omega)).2.2, (x31 i).2]
          · rw [iv _ _ (by omega) (by omega) (by omega), (x30 i).1, (i14 i hi).1]
          · rw [ln _ _ (by omega) (by omega) (by omega), (x30 i).2, (i14 i hi).2]
          · rw [iv _ _ (by omega) (by omega) (by omega)]; exact g4
          · rw [rv _ _ (by omega) (by omega) (by omega), ← e7]; exact g5
          · rw [ln _ _ (by omega) (by omega) (by omega), (x30 _).2, ← e7]; exact l14
          · rw [iv _ _ (by omega) (by omega) (by omega), (x30 _).1, ← e7]; exact v14 k hk
          · rw [ln _ _ (by omega) (by omega) (by omega)]; exact g6
          · rw [iv _ _ (by omega) (by omega) (by omega)]; exact g7 j
        refine ⟨zob_zp (by omega) (by omega) (by rw [f25.2.1 _ (n4f _ (by omega) (by omega)), g1, n17]; omega), ?_⟩
        rw [iv _ _ (by omega) (by omega) (by omega), g4.1, ← hQ]
        unfold fPerson
        rw [f3f (nn hg), f3f (by omega), hP.1]
        exact cO_ok rfl h25
      · rw [show (80 : Int32) = Int32.ofNat 80 from rfl, n_lt (by omega) (by omega)] at cn
        rw [← hQ]
        unfold fPerson
        rw [f3f (nn hg), f3t (by omega)]
        exact cO_ex (by decide) rfl h
    · exact bad (by decide) hg
  have e22 : ∀ s0, (s0 = 1 ∧ inn born (-40000) (S 416 1)) ∨ (s0 = 0 ∧ ¬ inn born (-40000) (S 416 1)) → zW E l mX11_person 9 280 X Q 280 22 [some (.ref (zp 384 0)), some (.int born), some (.int ab), some (.int a), some (.int b), some (.int c), some (.int d), some (.int e), none, none] [.int s0] X := by
    intro s0 hs
    refine wpt_X11_person_22 htr ?_; unfold wp_X11_person_22
    rcases hs with ⟨rfl, hg⟩ | ⟨rfl, hg⟩
    · refine cV (c_demand1 htr) (by decide) (cI (c_isFace a) (by decide) ⟨fun z1 => e69 0 (Or.inr ⟨rfl, fun z => (zb_0.mp z1) z.2.1⟩), fun z1 => cI (c_isFace b) (by decide) ⟨fun z2 => e69 0 (Or.inr ⟨rfl, fun z => (zb_0.mp z2) z.2.2.1⟩), fun z2 => cI (c_isFace c) (by decide) ⟨fun z3 => e69 0 (Or.inr ⟨rfl, fun z => (zb_0.mp z3) z.2.2.2.1⟩), fun z3 => cI (c_isFace d) (by decide) ⟨fun z4 => e69 0 (Or.inr ⟨rfl, fun z => (zb_0.mp z4) z.2.2.2.2.1⟩), fun z4 => cI (c_isFace e) (by decide) ⟨fun z5 => e69 0 (Or.inr ⟨rfl, fun z => (zb_0.mp z5) z.2.2.2.2.2⟩), fun z5 => e69 1 (Or.inl ⟨rfl, hg, ?_, ?_, ?_, ?_, ?_⟩)⟩⟩⟩⟩⟩)
      · exact Classical.not_not.mp (fun z => z1 (zbz z))
      · exact Classical.not_not.mp (fun z => z2 (zbz z))
      · exact Classical.not_not.mp (fun z => z3 (zbz z))
      · exact Classical.not_not.mp (fun z => z4 (zbz z))
      · exact Classical.not_not.mp (fun z => z5 (zbz z))
    · exact bad (by decide) (fun z => hg z.1)
  refine z_meth (by decide) (Nat.le_of_ble_eq_true rfl) (by simp [Value.category]) (wpt_X11_person_0 htr ?_); unfold wp_X11_person_0
  rw [q7, show ziv X (zp 224 0) 6 = S 416 1 from h.of.f6]
  exact ⟨fun c => e22 0 (Or.inr ⟨rfl, fun z => z.1 c⟩), fun c => ⟨h.o.1, h.of.oo, fun c2 => e22 0 (Or.inr ⟨rfl, fun z => z.2 c2⟩), fun c2 => e22 1 (Or.inl ⟨rfl, c, c2⟩)⟩⟩
end ZCy
