/-! public methods: law -/
section ZDl
variable {E : ZE} {l : Launch} {K : ZG} {w m n1 m1 : Nat} {S S' : ZS9} {X X' : ZG}
/-- what law does, told by what the reference's law may do -/
def QLw (K : ZG) (S : ZS9) (m n1 m1 : Nat) (fr : Int32) : ZQ := fun r G' => zfr CT K G' ∧ ((∃ y, r = .inl (some (.int y))) ∨ r = .inr xIA ∨ r = .inr xUO) ∧ ∀ y S', QL S fr (some (.int y)) S' → ((S' 416 0 = 0 ∧ r = .inl (some (.int y))) ∨ (¬ S' 416 0 = 0 ∧ r = .inr (xs xIA xUO xUO (S' 416 0)))) ∧ PO K S' m n1 m1 G'
theorem QLw_bad {fr : Int32} {G : ZG} (h : PO K (zuse S) m n1 m1 G) (hf : ¬ inn fr (S 416 1) 1000) : QLw K S m n1 m1 fr (.inr xIA) G := by
  refine ⟨h.wm.2.2.2.2.1, Or.inr (Or.inl rfl), ?_⟩
  intro y S' hq
  obtain ⟨y', ey, q1, q2⟩ := hq
  obtain ⟨z0, zq⟩ := q1 hf
  exact ⟨Or.inr ⟨by rw [z0]; decide, by rw [z0]; rfl⟩, h.sim zq⟩
theorem QLw_err {fr : Int32} {G : ZG} {e : Nat} (hR : zLaw (wtape S) (nTp S) = .inl e) (h : PO K (zup (zuse S) 416 8 (Int32.ofNat e)) m n1 m1 G) (hf : inn fr (S 416 1) 1000) : QLw K S m n1 m1 fr (.inr xIA) G := by
  refine ⟨h.wm.2.2.2.2.1, Or.inr (Or.inl rfl), ?_⟩
  intro y S' hq
  obtain ⟨y', ey, q1, q2⟩ := hq
  have q2 := q2 hf
  rw [hR] at q2
  obtain ⟨z0, zq⟩ := q2
  exact ⟨Or.inr ⟨by rw [z0]; decide, by rw [z0]; rfl⟩, h.sim zq⟩
theorem QLw_full {fr : Int32} {G : ZG} {L : List ZCLS} (hR : zLaw (wtape S) (nTp S) = .inr L) (h : PO K (zup (zuse S) 416 8 (-1)) m n1 m1 G) (hf : inn fr (S 416 1) 1000) (hn : nL S = 12) : QLw K S m n1 m1 fr (.inr xUO) G := by
  refine ⟨h.wm.2.2.2.2.1, Or.inr (Or.inr rfl), ?_⟩
  intro y S' hq
  obtain ⟨y', ey, q1, q2⟩ := hq
  have q2 := q2 hf
  rw [hR] at q2
  obtain ⟨z0, zq⟩ := q2.1 hn
  exact ⟨Or.inr ⟨by rw [z0]; decide, by rw [z0]; rfl⟩, h.sim zq⟩
theorem QLw_ok {fr : Int32} {G : ZG} {L : List ZCLS} (hR : zLaw (wtape S) (nTp S) = .inr L) (hf : inn fr (S 416 1) 1000) (hn : ¬ nL S = 12) (hfr : zfr CT K G) (h : ∀ S1, (∀ t k, ¬ (t = 416 ∧ k = 19) → ¬ zsl (nL S) t k → S1 t k = zup (zuse S) 416 8 (-1) t k) → S1 416 19 = S 416 19 + 1 → S1 1110 (nL S) = fr → zLS S1 (nL S) L → PO K S1 m n1 m1 G) : QLw K S m n1 m1 fr (.inl (some (.int (Int32.ofNat L.length)))) G := by
  refine ⟨hfr, Or.inl ⟨_, rfl⟩, ?_⟩
  intro y S' hq
  obtain ⟨y', ey, q1, q2⟩ := hq
  have q2 := q2 hf
  rw [hR] at q2
  obtain ⟨z0, ey2, z1, z2, z3⟩ := q2.2 hn
  cases ey
  refine ⟨Or.inl ⟨z0, by rw [ey2]⟩, ?_⟩
  obtain ⟨S1, a, b⟩ : ∃ S1 : ZS9, (∀ t k, zsl (nL S) t k → S1 t k = S' t k) ∧ (∀ t k, ¬ zsl (nL S) t k → S1 t k = zup (zup (zuse S) 416 8 (-1)) 416 19 (S 416 19 + 1) t k) := ⟨fun t k => @ite _ (zsl (nL S) t k) (Classical.propDecidable _) (S' t k) (zup (zup (zuse S) 416 8 (-1)) 416 19 (S 416 19 + 1) t k), fun t k h => if_pos h, fun t k h => if_neg h⟩
  have hs : zsim S1 S' := fun t k hc => by
    by_cases c : zsl (nL S) t k
    · rw [a t k c]
    · rw [b t k c]; exact z3 t k hc c
  refine PO.sim (h S1 (fun t k h1 h2 => by rw [b t k h2, zup_ne h1]) (by rw [b _ _ (zsl_no (by omega)), zup_s]) (by rw [a _ _ (by unfold zsl; omega)]; exact z1) ?_) hs
  obtain ⟨y1, y2, y3, y4, y5⟩ := z2
  refine ⟨by rw [a _ _ (by unfold zsl; omega)]; exact y1, y2, y3, fun m hm => ?_, fun i hi => ?_⟩
  · have := y4 m hm
    unfold zrow at *
    rw [a 1112 _ (by unfold zsl; omega), a 1113 _ (by unfold zsl; omega), a 1114 _ (by unfold zsl; omega), a 1115 _ (by unfold zsl; omega)]
    exact this
  · rw [a 1116 _ (by unfold zsl; omega), a 1117 _ (by unfold zsl; omega), a 1118 _ (by unfold zsl; omega)]
    exact y5 i hi
theorem p_law (htr : l.stackTraces = false) (h : PO K S m n1 m1 X) (fr : Int32) : zMet E l mX11_law 39 490 [.ref (zp 384 0), .int fr] X (QLw K S m n1 m1 fr) := by
  have hN := SI_nL h.si
  have hT : nTp S ≤ 400 := h.si.1.1.1.2
  have eL : ∀ x, nL (zup (zuse S) 416 8 x) = nL S := fun x => by
    show (zup (zuse S) 416 8 x 416 19).toNatClampNeg = _
    rw [zup_ne (by omega)]
    show (zup S 416 3 0 416 19).toNatClampNeg = _
    rw [zup_ne (by omega)]; rfl
  have e1 : zuse S 416 1 = S 416 1 := by show zup S 416 3 0 416 1 = _; rw [zup_ne (by omega)]
  generalize hQ : QLw K S m n1 m1 fr = Q
  refine z_meth (by decide) (Nat.le_of_ble_eq_true rfl) (by simp [Value.category]) (wpt_X11_law_0 htr ?_); unfold wp_X11_law_0
  refine ⟨h.o.1, cRx (c_useTape h (t := 1035) (Or.inl rfl)) (by decide) (by decide) (fun q G2 h2 => ?_)⟩
  obtain ⟨rfl, h2, x2, c2, f2⟩ := h2
  have e28 : ∀ s0, (s0 = 0 ∧ ¬ inn fr (S 416 1) 1000) ∨ (s0 = 1 ∧ inn fr (S 416 1) 1000) → zW E l mX11_law 39 490 X Q (490 - 402) 28 [some (.ref (zp 384 0)), some (.int fr), some (.ref (zp 1035 (zcn X 1035))), none] [.int s0] G2 := by
    intro s0 hs
    refine wpt_X11_law_28 htr ?_; unfold wp_X11_law_28
    rcases hs with ⟨rfl, hb⟩ | ⟨rfl, hg⟩
    · exact xcV_th (c_demand0 htr) (by decide) (by decide) (by rw [← hQ]; exact QLw_bad h2 hb)
    · refine cV (c_demand1 htr) (by decide) ⟨by decide, 128, by decide, by decide, by decide, fun q4 e4 G5 e5 k6 e6 => ?_⟩
      have gT : ∀ t, t ∈ [128, 1036, 352] → t ∈ GT := by decide
      have g5 : zgr [128, 1036, 352] G2 G5 := by rw [e5]; exact (zgr.nw (by decide) (by omega)).mono (by simp) gT
      have a5 : zal G5 q4 := by rw [e5, e4]; exact (zal_nw (by omega) _).mpr (Or.inr rfl)
      have o5 : zob G5 (zp 128 (zcn G2 128)) 4 := by
        rw [← e4]
        exact ⟨a5, by rw [e4, zp_mod (by omega)]; omega, by rw [e4, zp_mod (by omega)]⟩
      rw [e4]
      refine ⟨o5.1, cVx (c_initL g5 (by simp) (by simp) (by simp) (Nat.le_refl _) o5) (by decide) (by rw [e6]; decide) (fun G7 h7 => ?_)⟩
      obtain ⟨g7, o7, v7, r7⟩ := h7
      refine ⟨by decide, by decide, by rw [e6]; decide, 1036, by decide, by decide, by decide, fun q10 e10 G11 e11 k12 e12 => ?_⟩
      have g11 : zgr [128, 1036, 352] G2 G11 := by rw [e11]; exact g7.nw2 (by simp) (by omega)
      have o11 : zob G11 (zp 128 (zcn G2 128)) 4 := by rw [e11]; exact zob_nw o7 (by omega)
      have nq : zp 128 (zcn G2 128) ≠ zp 1036 (zcn G7 1036) := zp_ne (by omega) (by omega) (by omega)
      have v11 : ziv G11 (zp 128 (zcn G2 128)) 0 = fr := by rw [e11, ziv_nw, if_neg nq]; exact v7
      have r11 : zrv G11 (zp 128 (zcn G2 128)) 3 = zp 1035 (zcn X 1035) := by rw [e11, zrv_nw, if_neg nq]; exact r7
      have h11 : PO K (zuse S) m n1 m1 G11 := h2.gr g11
      have x11 : TXc G11 (zp 1035 (zcn X 1035)) (nTp S) (wtape S) := by
        obtain ⟨y1, y2, y3, y4, y5⟩ := x2
        obtain ⟨s1, s2, s3⟩ := g11.2.2 1035 (zcn X 1035) (by omega) (by omega)
        exact ⟨g11.1.ar y1, by rw [s1]; exact y2, y3, fun j hj => by rw [s2]; exact y4 j hj, y5⟩
      have hF : zar G11 (zp 1036 (zcn G7 1036)) 0 ∧ zln G11 (zp 1036 (zcn G7 1036)) = 9 ∧ ∀ j, j < 9 → ziv G11 (zp 1036 (zcn G7 1036)) j = (fun _ => (0 : Int32)) j := by
        refine ⟨?_, ?_, fun j _ => ?_⟩
        · rw [e11]; exact zar_zp (by omega) (by omega) (by omega) (by rw [zcn_nw, if_pos rfl]; omega)
        · rw [e11, zln_nw, if_pos rfl]; rfl
        · rw [e11, ziv_nw, if_pos rfl]
      rw [e10]
      refine ⟨o11, cRx (c_verdictOn o11 r11 x11 hF (fun c hc => h11.wm.str hc)) (by decide) (by rw [e12, e6]; decide) (fun y G14 h14 => ?_)⟩
      have g14 : zgr [128, 1036, 352] G2 G14 := h14.gr g11 (by simp) (by simp) (Nat.le_refl _)
      have p14 : PO K (zuse S) m n1 m1 G14 := h2.gr g14
      have o14 : zob G14 (zp 128 (zcn G2 128)) 4 := ⟨by
        have := o11.1
        unfold zal at *
        rw [zp_mod (by omega)] at *
        rw [h14.2.1 128 (by omega)]; exact this, o11.2⟩
      obtain ⟨-, c14, -, -, -, v14, r14, -, m14⟩ := h14
      rw [v11] at v14
      rw [r11] at r14
      have a128 : zcn G2 128 < zcn G14 128 := (zal_zp (by omega)).mp o14.1
      have a1035 : zcn X 1035 < zcn G14 1035 := by have := g14.1.1 1035; omega
      have x14 := g14.2.2 1035 (zcn X 1035) (by omega) (by omega)
      have k88 : k12 - 7 = 44 := by rw [e12, e6]; decide
      rw [k88]
      clear h11 x11 hF
      refine ⟨o14, p14.o.1, fun G16 e16 => ?_⟩
      have p16 : PO K (zup (zuse S) 416 8 (ziv G14 (zp 128 (zcn G2 128)) 2)) m n1 m1 G16 := by rw [e16]; exact p14.flt
      have v16 : ziv G16 (zp 384 0) 2 = ziv G14 (zp 128 (zcn G2 128)) 2 := by rw [e16, iv_s]
      refine ⟨p16.o.1, ?_⟩
      rw [v16]
      cases hR : zLaw (wtape S) (nTp S) with
      | inl e =>
        rw [hR] at m14
        obtain ⟨le, v2⟩ := m14
        rw [v2] at p16 ⊢
        refine ⟨fun _ => ?_, fun c => absurd ?_ c⟩
        · refine wpt_X11_law_71 htr ?_; unfold wp_X11_law_71
          exact xcV_th (c_demand0 htr) (by decide) (by decide) (by rw [← hQ]; exact QLw_err hR p16 hg)
        · intro z
          have : ¬ Int32.ofNat e < 0 := n_neg (by omega)
          rw [z] at this
          exact this (by decide)
      | inr L =>
        rw [hR] at m14
        obtain ⟨v2, v1, -⟩ := m14
        rw [v2] at p16 ⊢
        refine ⟨fun c => absurd rfl c, fun _ => ?_⟩
        obtain ⟨f, hl, hb, -⟩ := p16.2.2.1
        rw [eL] at hl hb
        have h3 := p16.o.2.2.1
        refine wpt_X11_law_71 htr ?_; unfold wp_X11_law_71
        refine cV (c_demand1 htr) (by decide) ?_
        rw [h3]
        refine ⟨p16.o.1, zobL hl (by omega), csize hl (by omega) (by decide) ⟨fun c => ⟨p16.o.1, by rw [h3]; exact zobL hl (by omega), ?_⟩, fun c => ⟨by decide, by decide, ?_⟩⟩⟩
        · rw [show (12 : Int32) = Int32.ofNat 12 from rfl, n_lt (by omega) (by omega)] at c
          have o16 : zob G16 (zp 128 (zcn G2 128)) 4 := by rw [e16]; exact o14
          have hcs : Cond.castable (zC 4) "java/lang/Object" ∈ zcast := by decide +kernel
          have hel : ∀ i, i < zcn G16 128 → zel G16 (zp 128 i) := fun i hi => zel_zp (c := 4) (by omega) (by omega) hi (by decide) hcs
          have hel2 : ∀ j, j < nL S → zel G16 (f j) := fun j hj => by
            obtain ⟨i, i1, i2, -⟩ := hb j hj
            rw [i2]; exact hel i i1
          rw [h3]
          refine cIx (c_add (b := 2 * nL S + 12) (d := 7) hl (by omega) (by omega) (by omega) (hel _ (by rw [e16]; exact a128)) hel2 (Nat.le_refl _) (Nat.le_refl _)) (by decide) (by omega) (fun y7 G7' h7 => ?_)
          obtain ⟨-, l7, f7⟩ := h7
          have f7 : zfr [1, 3073] G16 G7' := f7
          have no : ∀ t, t ≠ 1 ∧ t ≠ 3073 → t ∉ [1, 3073] := fun t h => by simp [h]
          have nz : zp 128 (zcn G2 128) ≠ zp 384 0 := zp_ne (by omega) (by omega) (by omega)
          have nz2 : zp 1035 (zcn X 1035) ≠ zp 384 0 := zp_ne (by omega) (by omega) (by omega)
          have w0 : ziv G7' (zp 128 (zcn G2 128)) 0 = fr := by rw [f7.iv (by omega) (no _ (by omega)), e16, iv_n nz]; exact v14
          have w1 : ziv G7' (zp 128 (zcn G2 128)) 1 = Int32.ofNat L.length := by rw [f7.iv (by omega) (no _ (by omega)), e16, iv_n nz]; exact v1
          have w3 : zrv G7' (zp 128 (zcn G2 128)) 3 = zp 1035 (zcn X 1035) := by rw [f7.rv (by omega) (no _ (by omega)), e16, zrv_si]; exact r14
          refine ⟨f7.ob o16, ?_⟩
          rw [w1, ← hQ]
          refine QLw_ok hR hg (by omega) (p16.wm.2.2.2.2.1.trans (f7.mono (by decide))) (fun S1 s1 s19 s10 sL => ?_)
          refine p16.law (i := zcn G2 128) (f := f) (fun t k a b => s1 t k a (by rw [← eL (-1)]; exact b)) ?_ (by rw [eL]; exact c) f7 (fun j hj => hb j (by rw [eL] at hj; exact hj)) (by rw [eL]; exact l7) ?_ (by rw [eL, s10]; exact i_nn0 h.si.2.2.2.1.1 hg.1)
          · rw [s19, zup_ne (by omega)]
            show _ = zup S 416 3 0 416 19 + 1
            rw [zup_ne (by omega)]
          · rw [eL]
            obtain ⟨y1, y2, y3, y4, y5⟩ := x2
            have ln : zln G7' (zp 1035 (zcn X 1035)) = nTp S := by rw [f7.ln (by omega) (no _ (by omega)), e16, zln_si, x14.1]; exact y2
            refine ⟨zcn G2 128, Nat.lt_of_lt_of_le (by rw [e16]; exact a128) (f7.1 _), rfl, by rw [w0, s10], by rw [w1, sL.1], zcn X 1035, Nat.lt_of_lt_of_le (by rw [e16]; exact a1035) (f7.1 _), w3, wtape S, ⟨by rw [ln]; exact hT, fun b hbb => ?_⟩, L, by rw [ln]; exact hR, sL, zLaw_ok hT hR⟩
            rw [ln] at hbb
            refine ⟨?_, y5 b hbb⟩
            rw [f7.iv (by omega) (no _ (by omega)), e16, iv_n nz2, x14.2.1]
            exact y4 b hbb
        · rw [show (12 : Int32) = Int32.ofNat 12 from rfl, n_lt (by omega) (by omega)] at c
          rw [← hQ]
          exact QLw_full hR p16 hg (by omega)
  rw [h2.o.2.2.2.2.2.2.1, show ziv G2 (zp 224 0) 6 = zuse S 416 1 from h2.of.f6, e1]
  exact ⟨h2.o.1, h2.of.oo, fun c => e28 0 (Or.inl ⟨rfl, fun z => z.1 c⟩), fun c => ⟨fun c2 => e28 0 (Or.inl ⟨rfl, fun z => z.2 c2⟩), fun c2 => e28 1 (Or.inr ⟨rfl, c, c2⟩)⟩⟩
end ZDl
