/-! public methods: judge -/
section ZDn
variable {E : ZE} {l : Launch} {K : ZG} {m n1 m1 i : Nat} {S S' : ZS9} {X X' G : ZG} {r : Int32} {F : Nat → Int32}
/-- the law is told the facts -/
theorem c_last {i x n : Nat} {v : Nat → Int32} {L : List ZCLS} (hJ : JV S m X) (hA : JA X G F 9) (i1 : i < zcn X 128) (x1 : x < zcn X 1035) (h3 : zrv X (zp 128 i) 3 = zp 1035 x) (hT : TVl X (zp 1035 x) v) (hn : zln X (zp 1035 x) = n) (hL : zLaw v n = .inr L) : zMet E l mX3_verdictOn 38 7 [.ref (zp 128 i), .ref (zp 1036 (zcn X 1036))] G (zRx (fun y X' => VQ G X' (zp 128 i) n v F (zp 1036 (zcn X 1036)) (.inr L) y)) := by
  have no : ∀ t, t ≠ 1036 → t ∉ [1036] := fun t h => by simp [h]
  have hf := hA.1
  have ho : zob G (zp 128 i) 4 := hf.ob (zob_zp (by omega) (by omega) i1)
  have hX : TXc G (zp 1035 x) n v := by
    refine ⟨hf.ar (zar_zp (by omega) (by omega) (by omega) x1), by rw [hf.ln (by omega) (no _ (by omega))]; exact hn, by rw [← hn]; exact hT.1, fun j hj => ?_, fun j hj => ?_⟩
    · rw [hf.iv (by omega) (no _ (by omega))]; exact (hT.2 j (by omega)).1
    · exact (hT.2 j (by omega)).2
  have hv := c_verdictOn (E := E) (l := l) ho (by rw [hf.rv (by omega) (no _ (by omega))]; exact h3) hX ⟨hA.ar, hA.2.2.1, hA.2.2.2.1⟩ (hA.jv hJ).2.2.2.2
  rw [hL] at hv
  exact hv
/-- the facts of an asking -/
theorem c_factsOf (hJ : JV S m X) (hR : RI S) {p : Nat} (kind wanted urgent : Int32) (hp : p < nP S) : zMet E l mX11_factsOf 5 10 [.ref (zp 384 0), .ref (zp 288 p), .int kind, .int wanted, .int urgent] X (zRx (fun y G => y = zp 1036 (zcn X 1036) ∧ JA X G (zfacts S p kind wanted urgent) 9)) := by
  have o7 : ∀ {G : ZG}, JV S m G → zob G (zp 384 0) 12 ∧ zrv G (zp 384 0) 8 = zp 224 0 ∧ zob G (zp 224 0) 7 ∧ ziv G (zp 224 0) 6 = S 416 1 := fun h => ⟨h.1.1, h.1.2.2.2.2.2.2.1, h.2.2.2.1.1.1, h.2.2.2.1.1.2.2.2⟩
  generalize hF : zfacts S p kind wanted urgent = F
  have F0 : F 0 = (S 416 1 - S 1129 p) / 365 := by rw [← hF]; rfl
  have F1 : F 1 = wanted - S 416 1 := by rw [← hF]; rfl
  have F2 : F 2 = zcnt (zval S (Int32.ofNat p) (S 416 1)) (nB S) := by rw [← hF]; rfl
  have F3 : F 3 = (if S 2130 p = 0 then 0 else 1) := by rw [← hF]; rfl
  have F4 : F 4 = (if kind = 0 then 1 else 0) := by rw [← hF]; rfl
  have F5 : F 5 = (if kind = 1 then 1 else 0) := by rw [← hF]; rfl
  have F6 : F 6 = (if kind = 2 then 1 else 0) := by rw [← hF]; rfl
  have F7 : F 7 = (if kind = 3 then 1 else 0) := by rw [← hF]; rfl
  have F8 : F 8 = (if urgent = 0 then 0 else 1) := by rw [← hF]; rfl
  have pe : ∀ {G : ZG}, JV S m G → zob G (zp 288 p) 9 ∧ ziv G (zp 288 p) 1 = S 1129 p ∧ ziv G (zp 288 p) 2 = S 2130 p := fun h => by
    obtain ⟨⟨-, b, c⟩, -, -⟩ := h.2.2.1.2.2.2.2 p hp
    exact ⟨h.2.2.1.ob hp, b, c⟩
  generalize hQ : zRx (fun y G => y = zp 1036 (zcn X 1036) ∧ JA X G F 9) = Q
  have last : ∀ G, JA X G F 9 → Q (.inl (some (.ref (zp 1036 (zcn X 1036))))) G := fun G hA => by
    rw [← hQ]; exact ⟨_, rfl, rfl, hA⟩
  have e120 : ∀ s0, s0 = F 7 → ∀ G, JA X G F 7 → ∀ k, zW E l mX11_factsOf 5 10 X Q k 120 [none, none, none, none, some (.int urgent), none] [.int s0, .int 7, .ref (zp 1036 (zcn X 1036)), .ref (zp 1036 (zcn X 1036))] G := by
    intro s0 hs G hA k
    refine wpt_X11_factsOf_120 ?_; unfold wp_X11_factsOf_120
    refine ⟨hA.ar, hA.vp (k := 7) (by omega), fun G1 e1 => ?_⟩
    have h1 : JA X G1 F 8 := by rw [e1]; exact hA.st hs
    refine ⟨fun c => ⟨h1.ar, h1.vp (k := 8) (by omega), fun G2 e2 => ?_⟩, fun c => ⟨h1.ar, h1.vp (k := 8) (by omega), fun G2 e2 => ?_⟩⟩
    · exact last G2 (by rw [e2]; exact h1.st (i := 8) (by rw [F8, if_pos c]))
    · exact last G2 (by rw [e2]; exact h1.st (i := 8) (by rw [F8, if_neg c]))
  have e92 : ∀ s0, s0 = F 5 → ∀ G, JA X G F 5 → ∀ k, zW E l mX11_factsOf 5 10 X Q k 92 [none, none, some (.int kind), none, some (.int urgent), none] [.int s0, .int 5, .ref (zp 1036 (zcn X 1036)), .ref (zp 1036 (zcn X 1036))] G := by
    intro s0 hs G hA k
    refine wpt_X11_factsOf_92 ?_; unfold wp_X11_factsOf_92
    refine ⟨hA.ar, hA.vp (k := 5) (by omega), fun G1 e1 => ?_⟩
    have h1 : JA X G1 F 6 := by rw [e1]; exact hA.st hs
    refine ⟨fun c => ⟨h1.ar, h1.vp (k := 6) (by omega), fun G2 e2 => ?_⟩, fun c => ⟨h1.ar, h1.vp (k := 6) (by omega), fun G2 e2 => ?_⟩⟩
    · have h2 : JA X G2 F 7 := by rw [e2]; exact h1.st (i := 6) (by rw [F6, if_neg c])
      exact ⟨fun c2 => e120 0 (by rw [F7, if_neg c2]) G2 h2 k, fun c2 => e120 1 (by rw [F7, if_pos (Classical.not_not.mp c2)]) G2 h2 k⟩
    · have h2 : JA X G2 F 7 := by rw [e2]; exact h1.st (i := 6) (by rw [F6, if_pos (Classical.not_not.mp c)])
      exact ⟨fun c2 => e120 0 (by rw [F7, if_neg c2]) G2 h2 k, fun c2 => e120 1 (by rw [F7, if_pos (Classical.not_not.mp c2)]) G2 h2 k⟩
  have e67 : ∀ s0, s0 = F 3 → ∀ G, JA X G F 3 → ∀ k, zW E l mX11_factsOf 5 10 X Q k 67 [none, none, some (.int kind), none, some (.int urgent), none] [.int s0, .int 3, .ref (zp 1036 (zcn X 1036)), .ref (zp 1036 (zcn X 1036))] G := by
    intro s0 hs G hA k
    refine wpt_X11_factsOf_67 ?_; unfold wp_X11_factsOf_67
    refine ⟨hA.ar, hA.vp (k := 3) (by omega), fun G1 e1 => ?_⟩
    have h1 : JA X G1 F 4 := by rw [e1]; exact hA.st hs
    refine ⟨fun c => ⟨h1.ar, h1.vp (k := 4) (by omega), fun G2 e2 => ?_⟩, fun c => ⟨h1.ar, h1.vp (k := 4) (by omega), fun G2 e2 => ?_⟩⟩
    · have h2 : JA X G2 F 5 := by rw [e2]; exact h1.st (i := 4) (by rw [F4, if_neg c])
      exact ⟨fun c2 => e92 0 (by rw [F5, if_neg c2]) G2 h2 k, fun c2 => e92 1 (by rw [F5, if_pos (Classical.not_not.mp c2)]) G2 h2 k⟩
    · have h2 : JA X G2 F 5 := by rw [e2]; exact h1.st (i := 4) (by rw [F4, if_pos (Classical.not_not.mp c)])
      exact ⟨fun c2 => e92 0 (by rw [F5, if_neg c2]) G2 h2 k, fun c2 => e92 1 (by rw [F5, if_pos (Classical.not_not.mp c2)]) G2 h2 k⟩
  refine z_meth (by decide) (Nat.le_of_ble_eq_true rfl) (by simp [Value.category]) (wpt_X11_factsOf_0 ?_); unfold wp_X11_factsOf_0
  refine ⟨by decide, by decide, by decide, 1036, by decide, by decide, by decide, fun q e5 G6 e6 k7 e7 => ?_⟩
  rw [e5]
  have h6 : JA X G6 F 0 := by rw [e6]; exact JA.nw
  have j6 := h6.jv hJ
  obtain ⟨b1, b2, b3, b4⟩ := o7 j6
  obtain ⟨p1, p2, p3⟩ := pe j6
  rw [b2, b4, p2]
  refine ⟨b1, b3, p1, h6.ar, h6.vp (k := 0) (by omega), fun G8 e8 => ?_⟩
  have h8 : JA X G8 F 1 := by rw [e8]; exact h6.st (i := 0) F0.symm
  have j8 := h8.jv hJ
  obtain ⟨b1, b2, b3, b4⟩ := o7 j8
  rw [b2, b4]
  refine ⟨b1, b3, h8.ar, h8.vp (k := 1) (by omega), fun G9 e9 => ?_⟩
  have h9 : JA X G9 F 2 := by rw [e9]; exact h8.st (i := 1) F1.symm
  have j9 := h9.jv hJ
  obtain ⟨b1, b2, b3, b4⟩ := o7 j9
  rw [b2, b4]
  refine ⟨b1, b1, b3, b3, cI (c_validOfV j9.2.2.2.1 hR j9.2.2.1 hp (S 416 1)) (by decide) ⟨h9.ar, h9.vp (k := 2) (by omega), fun G13 e13 => ?_⟩⟩
  have h13 : JA X G13 F 3 := by rw [e13]; exact h9.st (i := 2) F2.symm
  have j13 := h13.jv hJ
  obtain ⟨p1, p2, p3⟩ := pe j13
  rw [p3]
  exact ⟨p1, fun c => e67 0 (by rw [F3, if_pos c]) G13 h13 _, fun c => e67 1 (by rw [F3, if_neg c]) G13 h13 _⟩
/-- the law of today, and what it says of facts -/
theorem c_verdictOf (hJ : JV S m X) (hN : nL S ≤ 12) : ∃ L, LW S L ∧ ∃ i, (∀ (E : ZE) (l : Launch), zMet E l mX11_lawOfToday 3 0 [.ref (zp 384 0)] X (zRf (zp 128 i) X)) ∧ ∀ (E : ZE) (l : Launch) {G : ZG} {F : Nat → Int32} {d k : Nat} {KX : String → ZG → Prop} {K : Nat → ZG → Nat → Prop}, JA X G F 9 → 39 ≤ d → 7 ≤ k → (∀ y X', JQ X X' y (jall F L j0) → K y X' (k - 7)) → zob G (zp 128 i) 4 ∧ xcR E l mX3_verdictOn d [.ref (zp 128 i), .ref (zp 1036 (zcn X 1036))] G k KX K := by
  obtain ⟨hO, ⟨f, hl, hb, nl⟩, hC, hV, hs⟩ := id hJ
  have hlo := fun (E : ZE) (l : Launch) => c_lawOf (E := E) (l := l) hO hN hl hb nl hV.1.1 hV.1.2.2.2
  cases hz : zlaw S (S 416 1) (nL S) with
  | none =>
    obtain ⟨⟨x, x0, x1, x2, x3, x4, x5⟩, -⟩ := nl
    refine ⟨[], by unfold LW; rw [hz], 0, fun E l => ?_, fun E l G F d k KX K hA hd hk hK => ⟨hA.1.ob (zob_zp (by omega) (by omega) x0), cRx (c_last (v := fun _ => 0) (n := 0) (L := []) hJ hA x0 x3 x4 ⟨by rw [x5]; omega, fun b hb => by rw [x5] at hb; omega⟩ x5 ?_) hd hk (fun y X' h => hK y X' (VQ.jq hA h x2))⟩⟩
    · have := hlo E l
      rw [hz] at this
      exact this
    · unfold zLaw
      exact if_pos (by
        have := skp_le (w := fun _ => (0 : Int32)) (n := 0) (p := 0) (Nat.le_refl 0)
        omega)
  | some j =>
    have hj := zlaw_lt hz
    obtain ⟨i, i1, i2, i3, i4, x, x1, x2, tv, x3, L, x4, x5, x6⟩ := hb j hj
    rw [i2] at i4 x2
    rw [x5.1] at i4
    refine ⟨L, by unfold LW; rw [hz]; exact ⟨x5, x6⟩, i, fun E l => ?_, fun E l G F d k KX K hA hd hk hK => ⟨hA.1.ob (zob_zp (by omega) (by omega) i1), cRx (c_last hJ hA i1 x1 x2 x3 rfl x4) hd hk (fun y X' h => hK y X' (VQ.jq hA h i4))⟩⟩
    have := hlo E l
    rw [hz] at this
    rw [← i2]
    exact this
theorem c_isWanted (h : PO K S m n1 m1 X) (x : Int32) : zMet E l mX11_isWanted 0 0 [.ref (zp 384 0), .int x] X (zI (zb (inn x (S 416 1) 1000)) X) := by
  refine z_meth (by decide) (Nat.le_of_ble_eq_true rfl) (by simp [Value.category]) (wpt_X11_isWanted_0 ?_); unfold wp_X11_isWanted_0
  rw [h.o.2.2.2.2.2.2.1, show ziv X (zp 224 0) 6 = S 416 1 from h.of.f6]
  exact ⟨h.o.1, h.of.oo, fun c => ⟨by rw [zbz (fun z => z.1 c)], rfl⟩, fun c => ⟨fun c2 => ⟨by rw [zbz (fun z => z.2 c2)], rfl⟩, fun c2 => ⟨by rw [zb_t ⟨c, c2⟩], rfl⟩⟩⟩
theorem c_validY {q : Nat} (ho : zob X q 11) : zMet E l mX10_validYears 0 0 [.ref q] X (zI (if ziv X q 5 = -1 then 10 else ziv X q 5) X) := by
  refine z_meth (by decide) (Nat.le_of_ble_eq_true rfl) (by simp [Value.category]) (wpt_X10_validYears_0 ?_); unfold wp_X10_validYears_0
  exact ⟨ho, fun c => ⟨ho, by rw [if_neg c], rfl⟩, fun c => ⟨by rw [if_pos (Classical.not_not.mp c)], rfl⟩⟩
theorem p_judge (htr : l.stackTraces = false) (h : PO K S m n1 m1 X) : ∃ L, LW S L ∧ ∀ (E : ZE) (x kind wanted urgent w : Int32), zMet E l mX11_judge 40 24 [.ref (zp 384 0), .int x, .int kind, .int wanted, .int urgent, .int w] X (cO cy (xs xIO xIA xNS) (fJudge S L x kind wanted urgent w) (fun S' G' => PO K S' m n1 m1 G')) := by
  have hN := h.of.ri.2.1.2
  obtain ⟨L, hL, i, hlo, hv⟩ := c_verdictOf h.jv (SI_nL h.si)
  refine ⟨L, hL, fun E x kind wanted urgent w => ?_⟩
  generalize hQ : cO cy (xs xIO xIA xNS) (fJudge S L x kind wanted urgent w) (fun S' G' => PO K S' m n1 m1 G') = Q
  by_cases hx : zin x (nP S)
  · obtain ⟨p, hp, rfl⟩ := zin_of hx (by omega)
    have e27 : ∀ s0, (s0 = 0 ∧ ¬ (inn kind 0 3 ∧ inn wanted (S 416 1) 1000)) ∨ (s0 = 1 ∧ (inn kind 0 3 ∧ inn wanted (S 416 1) 1000)) → zW E l mX11_judge 40 24 X Q 24 27 [some (.ref (zp 384 0)), none, some (.int kind), some (.int wanted), some (.int urgent), some (.int w), some (.ref (zp 288 p)), none] [.int s0] X := by
      intro s0 hs
      refine wpt_X11_judge_27 htr ?_; unfold wp_X11_judge_27
      rcases hs with ⟨rfl, hb⟩ | ⟨rfl, hg⟩
      · refine xcV_th (c_demand0 htr) (by decide) (by decide) ?_
        rw [← hQ]
        unfold fJudge
        rw [f3f (nn hx), f3t hb]
        exact cO_ex (by decide) rfl h
      · refine cV (c_demand1 htr) (by decide) ⟨h.o.1, cR (hlo E l) (by decide) ⟨h.o.1, cRx (c_factsOf h.jv h.of.ri kind wanted urgent hp) (by decide) (by decide) (fun y7 G7 h7 => ?_)⟩⟩
        obtain ⟨rfl, hA⟩ := h7
        refine hv E l hA (by decide) (by decide) (fun y G4 h4 => ?_)
        have p4 := h.jq h4
        have ey : fJudge S L (Int32.ofNat p) kind wanted urgent w = fCalls3 (¬ inn w 0 5) (3, 0, S) (0, jpick (zJ S L p kind wanted urgent) w, S) := by unfold fJudge; rw [f3f (nn hx), f3f (nn hg), n_nn (by omega)]
        rw [ey] at hQ
        obtain ⟨-, o4, -, ⟨v0, v1, v2, v3, v4, v5⟩, ⟨-, ok5⟩, -⟩ := h4
        generalize hJ : jall (zfacts S p kind wanted urgent) L j0 = J at *
        have ez : zJ S L p kind wanted urgent = jfin J := by unfold zJ; rw [hJ]
        rw [ez] at hQ
        have good : ∀ y, inn w 0 5 → y = jpick (jfin J) w → Q (.inl (some (.int y))) G4 := fun y hw hy => by
          rw [← hQ, f3f (nn hw), hy]
          exact cO_ok rfl p4
        have in5 : ∀ d, d < 6 → ¬ Int32.ofNat d < 0 ∧ ¬ (5 : Int32) < Int32.ofNat d := by decide
        refine ⟨fun c => ⟨o4, good _ (by rw [c]; exact in5 0 (by omega)) (by rw [c, v0]; rfl)⟩, fun c => ⟨o4, good _ (by rw [c]; exact in5 1 (by omega)) (by rw [c, v1]; rfl)⟩, fun c => ⟨o4, cI (c_validY o4) (by decide) (good _ (by rw [c]; exact in5 2 (by omega)) ?_)⟩, fun c => ⟨o4, good _ (by rw [c]; exact in5 3 (by omega)) (by rw [c, v2]; rfl)⟩, fun c => ⟨o4, fun c2 => good _ (by rw [c]; exact in5 4 (by omega)) ?_, fun c2 => good _ (by rw [c]; exact in5 4 (by omega)) ?_⟩, fun c => ⟨o4, good _ (by rw [c]; exact in5 5 (by omega)) (by rw [c, v3]; rfl)⟩, fun n0 n1 n2 n3 n4 n5 => ⟨by decide, by decide, ?_⟩⟩
        · rw [c, v5]
          show _ = (if 0 ≤ J.2.2.1 then J.2.2.1 else 10)
          rcases ok5 with c5 | c5
          · rw [if_pos c5, if_neg (by rw [c5]; decide)]
          · rw [if_neg (fun z => c5 (by rw [z]; decide)), if_pos (i_nlt.mp c5)]
        · rw [v4] at c2
          rw [c]
          show _ = (if J.2.2.2.2.2 = 0 then 0 else 1)
          rw [if_pos c2]
        · rw [v4] at c2
          rw [c]
          show _ = (if J.2.2.2.2.2 = 0 then 0 else 1)
          rw [if_neg c2]
        · have hw : ¬ inn w 0 5 := fun z => by
            obtain ⟨d, hd, rfl⟩ := inn_nat (n := 5) (by omega) z
            match d, hd with
            | 0, _ => exact n0 rfl
            | 1, _ => exact n1 rfl
            | 2, _ => exact n2 rfl
            | 3, _ => exact n3 rfl
            | 4, _ => exact n4 rfl
            | 5, _ => exact n5 rfl
          rw [← hQ, f3t hw]
          exact cO_ex (by decide) rfl p4
    refine z_meth (by decide) (Nat.le_of_ble_eq_true rfl) (by simp [Value.category]) (wpt_X11_judge_0 htr ?_); unfold wp_X11_judge_0
    refine ⟨h.o.1, cR (c_personAt htr h hp) (by decide) (cI (c_isKind kind) (by decide) ⟨fun c => e27 0 (Or.inl ⟨rfl, fun z => zb_0.mp c z.1⟩), fun c => ⟨h.o.1, cI (c_isWanted h wanted) (by decide) ⟨fun c2 => e27 0 (Or.inl ⟨rfl, fun z => zb_0.mp c2 z.2⟩), fun c2 => e27 1 (Or.inr ⟨rfl, Classical.not_not.mp (fun z => c (zbz z)), Classical.not_not.mp (fun z => c2 (zbz z))⟩)⟩⟩⟩)⟩
  · refine z_meth (by decide) (Nat.le_of_ble_eq_true rfl) (by simp [Value.category]) (wpt_X11_judge_0 htr ?_); unfold wp_X11_judge_0
    refine ⟨h.o.1, xcR_th (c_personNo htr h hx) (by decide) (by decide) ?_⟩
    rw [← hQ]
    unfold fJudge
    rw [f3t hx]
    exact cO_ex (by decide) rfl h
end ZDn
